import java.util.NoSuchElementException;

/**
 * What the edge tests share. Each answer is printed with its promise and the words of the document that it is held
 * against, so that a test that fails names the sentence that is broken.
 */
final class Edge {
    static final long MIN = Long.MIN_VALUE;
    static final int LEAST_INT = Integer.MIN_VALUE;
    static final int MOST_INT = Integer.MAX_VALUE;
    /** Beside the letters 0 .. 25, far from them, and those that a shift or a cut to a byte would make letters again. */
    static final int[] NO_LETTERS = {-1, 26, 27, 32, 64, 97, 256, 65536, 1 << 30, -26, -256, LEAST_INT, LEAST_INT + 1, MOST_INT};
    private static String sentence = "";
    private static int sentences = 0;

    private Edge() {
    }

    /** What follows is held against this sentence of ../shared/DOC.md; words left out of it are marked by two dots. */
    static void promise(int number, String words) {
        sentence = "Promise " + number + ", \"" + words + "\": ";
        sentences++;
    }

    static void due(String call, long got, long want) {
        Check.due(sentence + call, got, want);
    }

    static void dueDouble(String call, double got, double want) {
        Check.dueDouble(sentence + call, got, want);
    }

    static void finish() {
        System.out.println(sentences + " sentences of the document");
        Check.finish();
    }

    /** A new object with a text that has no fault. */
    static SureSums told(String text) {
        SureSums x = new SureSums();
        due("text of " + text, Check.tell(x, text), text.chars().filter(c -> c == ';').count());
        due("fault(0) of " + text, x.fault(0), 0);
        due("fault(1) of " + text, x.fault(1), -1);
        return x;
    }

    static void good(String text) {
        told(text);
    }

    static void fault(String text, int kind, int place) {
        SureSums x = new SureSums();
        due("text of " + text, Check.tell(x, text), -1);
        due("fault(0) of " + text, x.fault(0), kind);
        due("fault(1) of " + text, x.fault(1), place);
    }

    /** The span of the number a. */
    static void span(String text, int w, long low, long high) {
        SureSums x = told(text);
        due("LOW by " + w + " of " + text, x.span(0, w, 0), low);
        due("HIGH by " + w + " of " + text, x.span(0, w, 1), high);
    }

    static void none(String text, int w) {
        span(text, w, MIN, MIN);
    }

    /** The WORK of the number a. */
    static void work(String text, int w, long work) {
        due("WORK by " + w + " of " + text, told(text).span(0, w, 2), work);
    }

    /** 0 nothing, 1 IndexOutOfBoundsException, 2 NoSuchElementException, 3 another. */
    static int thrownByMachine(SureSums x, int letter) {
        try {
            x.machine(letter);
            return 0;
        } catch (RuntimeException e) {
            if (e.getClass() == IndexOutOfBoundsException.class) {
                return 1;
            }
            return e.getClass() == NoSuchElementException.class ? 2 : 3;
        }
    }

    /** A sum of ones with as many knots as are asked for, an odd number. */
    static String ones(int knots) {
        return "1" + "+1".repeat((knots - 1) / 2);
    }
}
