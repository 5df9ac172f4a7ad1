/** Promises 1 to 5: each sentence that names an edge, and each refusal with all that stays. */
public final class TapeEdgeTest {
    public static void main(String[] args) {
        noPlacesNobody();
        nothingAsked();
        nothingDone();
        seedIsOne();
        twentyBytes();
        highestFirst();
        moreThanSixteenHundred();
        firstBytesAlone();
        notSoMany();
        belowNought();
        townOfNothing();
        tapeGoes();
        allStaysWithAFault();
        asAtFirst();
        rulesOfOldTowns();
        seedStays();
        imageAndRefusalsStay();
        faultAheadOfAny();
        faultOfTheLatest();
        faultOfOthers();
        Check.finish();
    }

    /** "No PLACES, nobody" */
    private static void noPlacesNobody() {
        SilentReel x = new SilentReel();
        for (int what = 0; what <= 9; what++) {
            Check.due("new has(" + what + ")", x.has(what), 0);
        }
        Check.due("new agrees()", x.agrees(), 1);
        Check.due("new cuts()", x.cuts(), 0);
        Check.due("new crowd()", x.crowd(), 0);
        Check.due("new empty()", x.empty(), 0);
        Check.due("new round()", x.round(), 1);
        Check.due("new image()", x.image(), 4);
        int[] due = {0, 0, 0, 193 * 125 % 251};
        for (int k = 0; k < 4; k++) {
            Check.due("new octet(" + k + ")", x.octet(k), due[k]);
        }
        Check.due("new days(40)", x.days(40), 40);
        Check.due("new chance(40)", x.chance(40), 0);
        Check.due("new has(3) behind them", x.has(3), 80);
        Check.due("new undo()", x.undo(), true);
        Check.due("new has(3) behind undo()", x.has(3), 40);
    }

    private static void nothingAsked() {
        SilentReel x = new SilentReel();
        for (int k = 0; k <= 1; k++) {
            Check.due("new letter", x.letter(k, 0, 0), -1);
            Check.due("new far", x.far(0, k), -1);
            Check.due("new person", x.person(k, 0), -1);
            Check.due("new frame", x.frame(k, 0), -1);
            Check.due("new where", x.where(k, 0), -1);
            Check.due("new who", x.who(k, 0), -1);
            Check.due("new self", x.self(1, k), -1);
            Check.due("new later", x.later(k, 0), -1);
            Check.due("new meet", x.meet(k, 1 - k), -1);
            Check.due("new began", x.began(k, 0), -1);
            Check.due("new kept", x.kept(k, 0), -1);
            Check.due("new octet", x.octet(k), -1);
        }
        for (int what = 0; what <= 5; what++) {
            Check.due("new status(" + what + ")", x.status(what), 0);
        }
    }

    private static void nothingDone() {
        Shot.refused("new end(1)", new SilentReel(), 0, 0, x -> x.end(1) ? 1 : 0);
        Shot.refused("new show(1, 0, 0)", new SilentReel(), 3, 0, x -> x.show(1, 0, 0) ? 1 : 0);
        Shot.refused("new cut(0)", new SilentReel(), 3, 0, x -> x.cut(0) ? 1 : 0);
        Shot.refused("new watch(0, 0)", new SilentReel(), 3, 0, x -> x.watch(0, 0) ? 1 : 0);
        Shot.refused("new watch(0, 1)", new SilentReel(), 3, 0, x -> x.watch(0, 1) ? 1 : 0);
        Shot.refused("new send(0, 0)", new SilentReel(), 3, 0, x -> x.send(0, 0) ? 1 : 0);
        Shot.refused("new undo()", new SilentReel(), 4, 0, x -> x.undo() ? 1 : 0);
        Shot.refused("new see()", new SilentReel(), 5, -1, SilentReel::see);
        Shot.refused("new on()", new SilentReel(), 5, 0, x -> x.on() ? 1 : 0);
        Shot.asked("new town()", new SilentReel(), 0, SilentReel::town);
    }

    /** "the seed is 1" */
    private static void seedIsOne() {
        SilentReel x = new SilentReel();
        Check.due("new has(10)", x.has(10), 1);
        x.chance(1);
        Check.due("new has(10) behind a draw", x.has(10), 1103527590);
        Check.due("has(10) of another one", new SilentReel().has(10), 1);
    }

    /** "Twenty bytes come behind those on the tape .. how many there are" */
    private static void twentyBytes() {
        SilentReel x = new SilentReel();
        Check.due("the first feed", x.feed(0, 0, 0, 0, 0), 20);
        Check.due("the second feed", x.feed(-1, -1, -1, -1, -1), 40);
        x.end(1);
        Check.due("feed behind one byte", x.feed(0, 0, 0, 0, 0), 21);
        x.end(0);
        Check.due("feed behind none", x.feed(0, 0, 0, 0, 0), 20);
        Check.due("status(0)", x.status(0), 0);
    }

    /** "of each number the highest first": bytes 1 to 20, seen one by one as fault places and rows */
    private static void highestFirst() {
        for (int bytes = 0; bytes < 20; bytes++) {
            int[] numbers = new int[5];
            for (int k = 0; k < 20; k++) {
                int octet = k < bytes ? ' ' : k == bytes ? 255 : 'x';
                numbers[k / 4] |= octet << 24 - k % 4 * 8;
            }
            SilentReel x = new SilentReel();
            x.feed(numbers[0], numbers[1], numbers[2], numbers[3], numbers[4]);
            Check.due("town() of " + bytes + " blanks", x.town(), -1);
            Check.due("fault(1) of " + bytes + " blanks", x.fault(1), bytes);
        }
        SilentReel x = new SilentReel();
        x.feed(0x706c6163, 0x65206162, 0x63646566, 0x3b706c61, 0x63652067);
        x.feed(0x68696a6b, 0x6c3b2020, 0x20202020, 0x20202020, 0x20202020);
        Check.due("town() over two feeds", x.town(), 2);
        for (int k = 0; k < 6; k++) {
            Check.due("letter(0, 0, " + k + ")", x.letter(0, 0, k), k + 1);
            Check.due("letter(0, 1, " + k + ")", x.letter(0, 1, k), k + 7);
        }
    }

    /** "NONE, refused (0), if there would be more than 1600" */
    private static void moreThanSixteenHundred() {
        SilentReel x = Shot.rich();
        for (int k = 1; k <= 79; k++) {
            x.feed(0x20202020, 0x20202020, 0x20202020, 0x20202020, 0x20202020);
        }
        Check.due("feed up to 1600", x.feed(0x20202020, 0x20202020, 0x20202020, 0x20202020, 0x2020203b), 1600);
        Shot.refused("feed at 1600", x, 0, -1, y -> y.feed(0, 0, 0, 0, 0));
        Check.due("end(1601)", x.end(1601), false);
        Check.due("town() of what stayed on the tape", x.town(), -1);
        Check.due("fault(1): the last byte is as it was", x.fault(1), 1599);
        for (int length : new int[] {1581, 1599}) {
            SilentReel y = full();
            y.end(length);
            Check.due("feed at " + length, y.feed(0, 0, 0, 0, 0), -1);
            Check.due("status(0) at " + length, y.status(0), 1);
            Check.due("end(" + (length + 1) + ")", y.end(length + 1), false);
            Check.due("end(" + length + ")", y.end(length), true);
        }
        SilentReel y = full();
        y.end(1580);
        Check.due("feed at 1580", y.feed(0, 0, 0, 0, 0), 1600);
        Check.due("status(0) at 1580", y.status(0), 0);
    }

    private static SilentReel full() {
        SilentReel x = new SilentReel();
        for (int k = 1; k <= 80; k++) {
            Check.due("feed " + k, x.feed(0, 0, 0, 0, 0), 20 * k);
        }
        return x;
    }

    /** "The tape has its first n bytes alone: true" */
    private static void firstBytesAlone() {
        SilentReel x = new SilentReel();
        Check.put(x, "rain 1;rain 2;rain 3;rain 4;");
        Check.due("end(28): all", x.end(28), true);
        Check.due("end(14)", x.end(14), true);
        Check.due("town() of 14 bytes", x.town(), 2);
        Check.put(x, "rain 1;rain 2;");
        Check.due("end(0)", x.end(0), true);
        Check.due("town() of none", x.town(), 0);
        Check.put(x, "rain 1;rain 2;");
        Check.due("end(1)", x.end(1), true);
        Check.due("town() of one", x.town(), -1);
        Check.due("end(0) of an empty tape", x.end(0), true);
        Check.put(x, "rain 1xx");
        x.end(6);
        x.feed(0x3b202020, 0x20202020, 0x20202020, 0x20202020, 0x20202020);
        Check.due("town() of what was fed behind an end", x.town(), 1);
        Check.due("status(0)", x.status(0), 0);
    }

    /** "false, refused (0), if it has not so many" */
    private static void notSoMany() {
        for (int n : new int[] {7, 8, 20, 1600, 1601, Integer.MAX_VALUE}) {
            Shot.refusedByTape("end(" + n + ") of 6", Shot.rich(), 0, 0, x -> x.end(n) ? 1 : 0);
        }
        SilentReel x = full();
        Check.due("end(1600) of 1600", x.end(1600), true);
        Check.due("end(1601) of 1600", x.end(1601), false);
        Check.due("end(1600) again", x.end(1600), true);
        Check.due("end(1599)", x.end(1599), true);
        Check.due("end(1600) of 1599", x.end(1600), false);
        Check.due("status(0)", x.status(0), 2);
    }

    /** "or n is below 0" */
    private static void belowNought() {
        for (int n : new int[] {-1, -2, -6, Integer.MIN_VALUE + 1, Integer.MIN_VALUE}) {
            Shot.refusedByTape("end(" + n + ")", Shot.rich(), 0, 0, x -> x.end(n) ? 1 : 0);
        }
    }

    /** "how many STATEMENTS (0 without)" */
    private static void townOfNothing() {
        SilentReel x = Shot.rich();
        Check.due("town() of nothing", x.town(), 0);
        for (int what = 0; what <= 9; what++) {
            Check.due("has(" + what + ") of nothing", x.has(what), 0);
        }
        Check.due("fault(0)", x.fault(0), 0);
        Check.due("fault(1)", x.fault(1), -1);
        Check.due("status(1)", x.status(1), 0);
        Check.due("town() of blanks", Check.town(x, " \n\n "), 0);
        Check.due("image() of nothing", x.image(), 4);
    }

    /** "The tape (it goes)": with a fault, too */
    private static void tapeGoes() {
        SilentReel x = new SilentReel();
        Check.due("town()", Check.town(x, "rain 1;"), 1);
        Check.due("end(1)", x.end(1), false);
        Check.due("town() of nothing", x.town(), 0);
        Check.due("town() with a fault", Check.town(x, "rain 1;x"), -1);
        Check.due("end(1) behind a fault", x.end(1), false);
        Check.due("town() of nothing again", x.town(), 0);
        Check.due("feed", x.feed(0, 0, 0, 0, 0), 20);
    }

    /** "NONE, refused (1), with a FAULT (all stays)": one of each fault, each behind statements that were good */
    private static void allStaysWithAFault() {
        String[] texts = {"place x;person y at x kind 3;watch y;stays all;goes 1;rain 100;frame 1 x 0;x",
            "place x;place x;", "place x;watch x;", "place x;frame 9 x 1;", "goes ((((((((1))))))));", "goes 1;goes 1;",
            "rain 1;".repeat(81)};
        int[] faults = {1, 2, 3, 4, 5, 6, 6};
        int[] places = {75, 14, 14, 14, 12, 7, 560};
        for (int k = 0; k < texts.length; k++) {
            SilentReel x = Shot.rich();
            Check.town(x, texts[k]);
            Check.due("fault(0) of " + texts[k], x.fault(0), faults[k]);
            Check.due("fault(1) of " + texts[k], x.fault(1), places[k]);
            Check.put(x, texts[k]);
            Shot.refused("town() of " + texts[k], x, 1, -1, SilentReel::town);
            Check.due("chance(1) by the old rain and seed", x.chance(1), Shot.rich().chance(1));
            Check.due("undo()", x.undo(), true);
            Check.due("undo() again", x.undo(), true);
        }
    }

    /** "Without one all is as at first, nothing is KEPT or SEEN, no ACT can be undone" */
    private static void asAtFirst() {
        String text = "place a;place b;road a to b;person p at b kind 4;watch p;frame 3 a 1;goes shown;";
        SilentReel x = Shot.rich();
        Check.due("town()", Check.town(x, text), 7);
        int[] due = {2, 1, 1, 0, 1, 1, 0, 0, 0, 0, 77};
        for (int what = 0; what < due.length; what++) {
            Check.due("has(" + what + ")", x.has(what), due[what]);
        }
        Check.due("kept(0, 0)", x.kept(0, 0), -1);
        Check.due("undo()", x.undo(), false);
        Check.due("status(4)", x.status(4), 1);
        Check.due("began(0, 0)", x.began(0, 0), 3);
        x.days(3);
        x.send(0, 0);
        x.watch(0, 0);
        Check.due("town() again", Check.town(x, text), 7);
        Check.due("has(3) again", x.has(3), 0);
        Check.due("has(4) again", x.has(4), 1);
        Check.due("person(0, 0) again", x.person(0, 0), 1);
        Check.due("person(0, 2) again", x.person(0, 2), 1);
        Check.due("undo() again", x.undo(), false);
        Check.due("where(0, 1) of it", x.where(0, 1), 0);
        for (int k = 0; k < 2; k++) {
            Check.due("a town with less", Check.town(x, "place a;place b;person p at b kind 1;"), 3);
            Check.due("has(1) of less", x.has(1), 0);
            Check.due("has(4) of less", x.has(4), 0);
            Check.due("has(5) of less", x.has(5), 0);
            Check.due("far(0, 1) of less", x.far(0, 1), -1);
            Check.due("where(0, 1) of less", x.where(0, 1), 1);
        }
    }

    /** A longer test and a longer sum were told some towns ahead: of those nothing counts. */
    private static void rulesOfOldTowns() {
        String two = "place a;place b;road a to b;person p at a kind 1;";
        SilentReel x = new SilentReel();
        for (int k = 0; k < 2; k++) {
            Check.town(x, two + "stays 1=1 and not all or 2=3;goes 1-2*far+if(all,0-far,far);");
            Check.due("where(0, 1) by the longer ones", x.where(0, 1), 0);
        }
        for (int k = 0; k < 2; k++) {
            Check.town(x, two + "stays all;goes far;");
            Check.due("where(0, 1) by a shorter test", x.where(0, 1), 0);
        }
        for (int k = 0; k < 2; k++) {
            Check.town(x, two + "goes far;");
            Check.due("where(0, 1) by a shorter sum", x.where(0, 1), 1);
        }
        Check.due("a town with a fault", Check.town(x, two + "stays all;goes 0;goes 1;"), -1);
        Check.due("where(0, 8) by the rules that stay", x.where(0, 8), 1);
        for (int k = 0; k < 2; k++) {
            Check.town(x, two + "stays not all;");
            Check.due("where(0, 8) without a sum", x.where(0, 8), 0);
            x.send(0, 1);
            Check.due("where(0, 8) without a sum, from b", x.where(0, 8), 0);
        }
    }

    /** "the seed stays" */
    private static void seedStays() {
        SilentReel x = new SilentReel();
        x.seed(Integer.MAX_VALUE);
        Check.town(x, "place a;");
        Check.due("has(10)", x.has(10), Integer.MAX_VALUE);
        x.seed(0);
        x.town();
        Check.due("has(10) of nothing", x.has(10), 0);
        Check.town(x, "x");
        Check.due("has(10) behind a fault", x.has(10), 0);
    }

    private static void imageAndRefusalsStay() {
        SilentReel x = Shot.rich();
        int length = 0;
        while (length < 40 && x.octet(length) >= 0) {
            length++;
        }
        x.town();
        Check.due("octet(" + (length - 1) + ") behind town()", x.octet(length - 1), Shot.rich().octet(length - 1));
        Check.due("octet(" + length + ") behind town()", x.octet(length), -1);
        int[] due = {1, 0, 1, 1, 0, 1};
        for (int what = 0; what <= 5; what++) {
            Check.due("status(" + what + ") behind town()", x.status(what), due[what]);
        }
    }

    /** "its FAULT (what 0; 0 without, and ahead of any), its place (1; NONE without)" */
    private static void faultAheadOfAny() {
        SilentReel x = new SilentReel();
        Check.due("fault(0) ahead of any", x.fault(0), 0);
        Check.due("fault(1) ahead of any", x.fault(1), -1);
        x.town();
        Check.due("fault(0) without", x.fault(0), 0);
        Check.due("fault(1) without", x.fault(1), -1);
        Check.town(x, "x");
        Check.due("fault(0)", x.fault(0), 1);
        Check.due("fault(1) at 0, which is not NONE", x.fault(1), 0);
    }

    /** "Of the latest town()" */
    private static void faultOfTheLatest() {
        SilentReel x = new SilentReel();
        Check.town(x, "rain 101;");
        Check.town(x, "place a;place a;");
        Check.due("fault(0) of the second", x.fault(0), 2);
        Check.due("fault(1) of the second", x.fault(1), 14);
        Check.put(x, 1, 2);
        x.see();
        x.on();
        x.days(1);
        x.undo();
        Check.due("fault(0) behind other calls", x.fault(0), 2);
        Check.due("fault(1) behind other calls", x.fault(1), 14);
        Check.town(x, "rain 100;");
        Check.due("fault(0) of the third", x.fault(0), 0);
        Check.due("fault(1) of the third", x.fault(1), -1);
    }

    /** "NONE for another what" */
    private static void faultOfOthers() {
        for (int ahead = 0; ahead <= 1; ahead++) {
            SilentReel x = new SilentReel();
            if (ahead == 1) {
                Check.town(x, "place a;place a;");
            }
            Check.due("fault(2)", x.fault(2), -1);
            for (int what : Shot.ENDS) {
                Check.due("fault(" + what + ")", x.fault(what), -1);
            }
        }
    }
}
