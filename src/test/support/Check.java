import java.nio.charset.StandardCharsets;

/** What the tests share: answers compared with those due, and texts put on the tape. */
final class Check {
    private static int wrong = 0;
    private static int asked = 0;

    private Check() {
    }

    static void due(String call, long got, long want) {
        asked++;
        if (got != want) {
            wrong++;
            System.out.println(call + " answered " + got + ", due is " + want);
        }
    }

    static void due(String call, boolean got, boolean want) {
        due(call, got ? 1L : 0L, want ? 1L : 0L);
    }

    static int wrong() {
        return wrong;
    }

    static void finish() {
        System.out.println(asked + " answers, " + wrong + " not as due");
        if (asked == 0 || wrong != 0) {
            System.exit(1);
        }
    }

    /** Puts bytes on an empty tape, and these alone. */
    static void put(SilentReel x, byte[] bytes) {
        for (int k = 0; k < bytes.length; k += 20) {
            x.feed(number(bytes, k), number(bytes, k + 4), number(bytes, k + 8),
                    number(bytes, k + 12), number(bytes, k + 16));
        }
        x.end(bytes.length);
    }

    static void put(SilentReel x, int... bytes) {
        byte[] row = new byte[bytes.length];
        for (int k = 0; k < bytes.length; k++) {
            row[k] = (byte) bytes[k];
        }
        put(x, row);
    }

    static void put(SilentReel x, String text) {
        put(x, text.getBytes(StandardCharsets.ISO_8859_1));
    }

    private static int number(byte[] bytes, int from) {
        int number = 0;
        for (int k = from; k < from + 4; k++) {
            number = number << 8 | (k < bytes.length ? bytes[k] & 255 : ' ');
        }
        return number;
    }

    static int town(SilentReel x, String text) {
        put(x, text);
        return x.town();
    }

    /** A new object with a town that must be without a fault. */
    static SilentReel of(String text) {
        SilentReel x = new SilentReel();
        if (town(x, text) == SilentReel.NONE) {
            wrong++;
            System.out.println("fault " + x.fault(0) + " at " + x.fault(1) + " in: " + text);
        }
        return x;
    }
}
