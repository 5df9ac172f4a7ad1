/** Promises 1 (a new object), 2 (feed), 3 (end), and that the tape goes. */
public final class TapeTest {
    public static void main(String[] args) {
        newObject();
        feed();
        order();
        end();
        bytesBehindTheEnd();
        tapeGoes();
        Check.finish();
    }

    private static void newObject() {
        SilentReel x = new SilentReel();
        for (int what = 0; what <= 9; what++) {
            Check.due("new has(" + what + ")", x.has(what), 0);
        }
        Check.due("new has(10)", x.has(10), 1);
        Check.due("new fault(0)", x.fault(0), 0);
        Check.due("new fault(1)", x.fault(1), -1);
        for (int what = 0; what <= 5; what++) {
            Check.due("new status(" + what + ")", x.status(what), 0);
        }
        Check.due("new person(0, 0)", x.person(0, 0), -1);
        Check.due("new frame(0, 0)", x.frame(0, 0), -1);
        Check.due("new letter(0, 0, 0)", x.letter(0, 0, 0), -1);
        Check.due("new far(0, 0)", x.far(0, 0), -1);
        Check.due("new kept(0, 0)", x.kept(0, 0), -1);
        Check.due("new octet(0)", x.octet(0), -1);
        Check.due("new undo()", x.undo(), false);
        Check.due("new end(0)", x.end(0), true);
        Check.due("new end(1)", x.end(1), false);
    }

    private static void feed() {
        SilentReel x = new SilentReel();
        for (int k = 1; k <= 80; k++) {
            Check.due("feed " + k, x.feed(0, 0, 0, 0, 0), 20 * k);
        }
        Check.due("feed 81", x.feed(0, 0, 0, 0, 0), -1);
        Check.due("status(0) behind it", x.status(0), 1);
        Check.due("end(1600)", x.end(1600), true);
        Check.due("end(1581)", x.end(1581), true);
        Check.due("feed beyond 1600", x.feed(0, 0, 0, 0, 0), -1);
        Check.due("end(1580)", x.end(1580), true);
        Check.due("feed up to 1600", x.feed(0, 0, 0, 0, 0), 1600);
        Check.due("status(0) at last", x.status(0), 2);
    }

    /** The signs of "place" come highest first, the numbers in their order. */
    private static void order() {
        SilentReel x = new SilentReel();
        x.feed(0x706c6163, 0x65206162, 0x63646566, 0x3b202020, 0x20202020);
        Check.due("town() of place abcdef;", x.town(), 1);
        for (int k = 0; k < 6; k++) {
            Check.due("letter " + k, x.letter(0, 0, k), k + 1);
        }
        x.feed(-1, 0, 0, 0, 0);
        Check.due("town() of byte 255", x.town(), -1);
        Check.due("its place", x.fault(1), 0);
    }

    private static void end() {
        SilentReel x = new SilentReel();
        x.feed(0x706c6163, 0x6520613b, 0x706c6163, 0x6520623b, 0x20202020);
        Check.due("end(21)", x.end(21), false);
        Check.due("end(-1)", x.end(-1), false);
        Check.due("end(MIN)", x.end(Integer.MIN_VALUE), false);
        Check.due("end(MAX)", x.end(Integer.MAX_VALUE), false);
        Check.due("status(0)", x.status(0), 4);
        Check.due("end(20)", x.end(20), true);
        Check.due("end(8)", x.end(8), true);
        Check.due("end(9)", x.end(9), false);
        Check.due("town() of the first 8 bytes", x.town(), 1);
        Check.due("status(0) at last", x.status(0), 5);
        x.feed(0, 0, 0, 0, 0);
        Check.due("end(0)", x.end(0), true);
        Check.due("feed behind end(0)", x.feed(0, 0, 0, 0, 0), 20);
    }

    /** What was fed behind the end is no part of the text. */
    private static void bytesBehindTheEnd() {
        SilentReel x = new SilentReel();
        Check.put(x, "staysx");
        x.end(5);
        Check.due("town() of stays", x.town(), -1);
        Check.due("its place", x.fault(1), 5);
        Check.put(x, "rain 1010");
        x.end(8);
        Check.due("town() of rain 101", x.town(), -1);
        Check.due("its fault", x.fault(0), 4);
        Check.put(x, "rain 1000");
        x.end(8);
        Check.due("town() of rain 100", x.town(), -1);
        Check.due("its fault", x.fault(0), 1);
        Check.due("its place", x.fault(1), 8);
        Check.put(x, "rain 1;;");
        x.end(7);
        Check.due("town() of rain 1;", x.town(), 1);
        Check.due("town() of nothing", x.town(), 0);
    }

    private static void tapeGoes() {
        SilentReel x = Check.of("place a;person p at a kind 0;");
        Check.due("end(1) behind town()", x.end(1), false);
        Check.due("town() with a fault", Check.town(x, "xx"), -1);
        Check.due("end(1) behind a fault", x.end(1), false);
        Check.put(x, 1, 0, 1);
        Check.due("see()", x.see(), 1);
        Check.due("end(1) behind see()", x.end(1), false);
        Check.put(x, 9, 0, 1);
        Check.due("see() refused", x.see(), -1);
        Check.due("end(1) behind it", x.end(1), false);
        Check.put(x, 1, 2, 3);
        Check.due("on() refused", x.on(), false);
        Check.due("end(1) behind on()", x.end(1), false);
        x.image();
        Check.put(x, x.octet(0), x.octet(1), x.octet(2), x.octet(3), x.octet(4), x.octet(5));
        Check.due("on()", x.on(), true);
        Check.due("end(1) behind on() that was taken", x.end(1), false);
    }
}
