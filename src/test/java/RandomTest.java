import java.util.NoSuchElementException;
import java.util.Random;

/** Random runs of calls, each answer held against the plain form of the document. */
public final class RandomTest {
    private static final int RUNS = 1500;
    private static SureSums x;
    private static Plain plain;
    private static Random random;
    private static Texts texts;
    private static String latest;

    public static void main(String[] args) {
        int runs = args.length > 0 ? Integer.parseInt(args[0]) : RUNS;
        long seed = args.length > 1 ? Long.parseLong(args[1]) : 20261118L;
        for (int run = 0; run < runs && Check.wrongSoFar() < 20; run++) {
            random = new Random(seed + run);
            texts = new Texts(random);
            x = new SureSums();
            plain = new Plain();
            latest = "";
            int calls = 0;
            while (calls < 400) {
                calls += step(run);
            }
        }
        Check.finish();
    }

    private static int below(int n) {
        return random.nextInt(n);
    }

    private static int letter() {
        if (below(40) == 0) {
            return below(60) - 30;
        }
        Object[] letters = plain.told.keySet().toArray();
        return letters.length == 0 || below(15) == 0 ? below(26) : (Character) letters[below(letters.length)] - 'a';
    }

    private static int near(int low, int high) {
        return below(30) == 0 ? low - 3 + below(high - low + 7) : low + below(high - low + 1);
    }

    private static void due(int run, String call, long got, long want) {
        if (got != want) {
            Check.due("run " + run + ", text " + latest + ": " + call, got, want);
        } else {
            Check.due(call, got, want);
        }
    }

    private static int step(int run) {
        if (below(60) == 0 || plain.told.isEmpty() && below(3) == 0) {
            return tellOne(run);
        }
        int a = letter();
        int b = letter();
        int w = near(4, 20);
        int what = near(0, 2);
        int i = near(-64, 64);
        int j = below(3) == 0 ? near(-64, 64) : i + below(4);
        if (below(2) == 0) {
            i = near(-5, 5);
            j = i + below(5);
        }
        switch (below(13)) {
            case 0:
                due(run, "kind(" + a + ")", x.kind(a), plain.kind(a));
                due(run, "count(" + what + ")", x.count(what), plain.count(what));
                due(run, "fault(" + what + ")", x.fault(what), what == 0 ? plain.fault : what == 1 ? plain.place : -1);
                return 3;
            case 1:
            case 2:
                due(run, "span(" + a + "," + w + "," + what + ")", x.span(a, w, what), plain.span(a, w, what));
                return 1;
            case 3:
            case 4:
                due(run, "at(" + a + "," + i + "," + j + "," + w + "," + what + ")",
                    x.at(a, i, j, w, what), plain.at(a, i, j, w, what));
                return 1;
            case 5:
                int p = near(0, 16);
                due(run, "ask(" + a + "," + p + "," + what + ")", x.ask(a, p, what), plain.ask(a, p, what));
                return 1;
            case 6:
                due(run, "digits(" + a + ")", x.digits(a), plain.digits(a));
                return 1;
            case 7:
                due(run, "exact(" + a + "," + what + ")", x.exact(a, what), plain.exact(a, what));
                return 1;
            case 8:
                due(run, "compare(" + a + "," + b + ")", x.compare(a, b), plain.compare(a, b));
                return 1;
            case 9:
                due(run, "where(" + a + "," + i + "," + j + ")", x.where(a, i, j), plain.where(a, i, j));
                return 1;
            case 10:
                return askDots(run, a, i, below(2) == 0 ? near(-64, 63) : near(-3, 3));
            case 11:
                return askMachine(run, a);
            default:
                due(run, "off(" + a + ")", x.off(a), plain.off(a));
                return 1;
        }
    }

    private static int askDots(int run, int a, int i, int y) {
        due(run, "dot(" + a + "," + i + "," + y + ")", x.dot(a, i, y), plain.dot(a, i, y));
        if (below(6) == 0) {
            int m = below(3) == 0 ? near(1, 16) : 1 + below(3);
            int kind = near(0, 2);
            due(run, "dots(" + a + "," + i + "," + y + "," + m + "," + kind + ")",
                x.dots(a, i, y, m, kind), plain.dots(a, i, y, m, kind));
        }
        return 2;
    }

    private static int askMachine(int run, int a) {
        double got = Double.NaN;
        int thrown = 0;
        try {
            got = x.machine(a);
        } catch (IndexOutOfBoundsException e) {
            thrown = 1;
        } catch (NoSuchElementException e) {
            thrown = 2;
        }
        int due = a < 0 || a > 25 ? 1 : plain.kind(a) == 1 ? 0 : 2;
        due(run, "machine(" + a + ") throws", thrown, due);
        if (due == 0) {
            Check.dueDouble("run " + run + ", text " + latest + ": machine(" + a + ")", got, plain.machine(a));
        }
        return 1;
    }

    private static int tellOne(int run) {
        String text = below(4) == 0 ? texts.full() : texts.any();
        byte[] bytes = new byte[(text.length() + 19) / 20 * 20];
        for (int k = 0; k < bytes.length; k++) {
            bytes[k] = (byte) (k < text.length() ? text.charAt(k) : below(256));
        }
        int calls = 1;
        for (int from = 0; from < bytes.length; from += 20) {
            int[] five = new int[5];
            for (int k = 0; k < 20; k++) {
                five[k / 4] = five[k / 4] << 8 | bytes[from + k] & 255;
            }
            due(run, "feed", x.feed(five[0], five[1], five[2], five[3], five[4]), plain.feed(five));
            calls++;
        }
        if (below(10) == 0) {
            int n = below(3) == 0 ? -1 - below(5) : plain.tape.length() + 1 + below(9);
            due(run, "text(" + n + ")", x.text(n), plain.text(n));
        }
        latest = text;
        due(run, "text(" + text.length() + ")", x.text(text.length()), plain.text(text.length()));
        due(run, "fault(0)", x.fault(0), plain.fault);
        due(run, "fault(1)", x.fault(1), plain.place);
        return calls + 4;
    }
}
