import java.nio.charset.StandardCharsets;

/** What the tests share: telling a text, and counting answers that are not as due. */
final class Check {
    private static int wrong = 0;
    private static int looked = 0;

    private Check() {
    }

    static void due(String call, long got, long want) {
        looked++;
        if (got != want) {
            wrong++;
            System.out.println(call + " answered " + got + ", due is " + want);
        }
    }

    /** Doubles to the bit, so that noughts above and below 0 differ. */
    static void dueDouble(String call, double got, double want) {
        looked++;
        if (Double.doubleToLongBits(got) != Double.doubleToLongBits(want)) {
            wrong++;
            System.out.println(call + " answered " + got + ", due is " + want);
        }
    }

    static void dueTrue(String what, boolean holds) {
        due(what, holds ? 1 : 0, 1);
    }

    static int wrongSoFar() {
        return wrong;
    }

    static void finish() {
        System.out.println(wrong == 0 ? looked + " answers are as due" : wrong + " answers are not as due");
        if (wrong != 0) {
            System.exit(1);
        }
    }

    /** Feeds a text of at most 500 bytes, the last feed filled up with blanks. */
    static void feed(SureSums x, String text) {
        byte[] bytes = text.getBytes(StandardCharsets.ISO_8859_1);
        for (int from = 0; from < bytes.length; from += 20) {
            int[] five = new int[5];
            for (int k = 0; k < 20; k++) {
                int one = from + k < bytes.length ? bytes[from + k] & 255 : ' ';
                five[k / 4] = five[k / 4] << 8 | one;
            }
            x.feed(five[0], five[1], five[2], five[3], five[4]);
        }
    }

    static int tell(SureSums x, String text) {
        feed(x, text);
        return x.text(text.length());
    }

    static SureSums told(String text) {
        SureSums x = new SureSums();
        due("text of " + text, tell(x, text), text.chars().filter(c -> c == ';').count());
        return x;
    }

    static int letter(char c) {
        return c - 'a';
    }
}
