import java.math.BigInteger;
import java.util.ArrayList;
import java.util.HashMap;
import java.util.List;
import java.util.Map;

/**
 * The document once more, in the plainest words: trees, BigInteger and Math, and nothing kept from
 * call to call. The random test holds the program against it.
 */
final class Plain {
    static final long MIN = Long.MIN_VALUE;

    /** A knot of a tree: what it is, its parts, and a number or letter. */
    static final class Knot {
        final String what;
        final Knot[] parts;
        int n;
        char letter;
        int from;
        int to;

        Knot(String what, Knot... parts) {
            this.what = what;
            this.parts = parts;
        }
    }

    static final class Told {
        final boolean function;
        final Knot knot;

        Told(boolean function, Knot knot) {
            this.function = function;
            this.knot = knot;
        }
    }

    static final class Fault extends Exception {
        private static final long serialVersionUID = 1L;
        final int kind;
        final int place;

        Fault(int kind, int place) {
            this.kind = kind;
            this.place = place;
        }
    }

    static final class TooMuchWork extends RuntimeException {
        private static final long serialVersionUID = 1L;
    }

    final StringBuilder tape = new StringBuilder();
    Map<Character, Told> told = new HashMap<>();
    int knots;
    int fault;
    int place = -1;

    // ---- the text

    private static final String WORDS = " let fun sqrt abs max min if nought area most least ";
    private String text;
    private List<int[]> tokens;
    private int next;
    private int open;
    private int knotsNow;
    private Map<Character, Told> toldNow;
    private boolean inFun;

    int feed(int... five) {
        if (tape.length() + 20 > 500) {
            return -1;
        }
        for (int number : five) {
            for (int k = 3; k >= 0; k--) {
                tape.append((char) (number >>> 8 * k & 255));
            }
        }
        return tape.length();
    }

    int text(int n) {
        if (n < 0 || n > tape.length()) {
            return -2;
        }
        text = tape.substring(0, n);
        tape.setLength(0);
        fault = 0;
        place = -1;
        try {
            readAll();
        } catch (Fault f) {
            fault = f.kind;
            place = f.place;
            return -1;
        }
        told = toldNow;
        knots = knotsNow;
        return told.size();
    }

    private void readAll() throws Fault {
        cut();
        next = 0;
        open = 0;
        knotsNow = 0;
        toldNow = new HashMap<>();
        while (!now().isEmpty()) {
            String word = now();
            if (!word.equals("let") && !word.equals("fun")) {
                throw new Fault(1, nowPlace());
            }
            inFun = word.equals("fun");
            long have = toldNow.values().stream().filter(one -> one.function == inFun).count();
            if (have == (inFun ? 6 : 12)) {
                throw new Fault(2, nowPlace());
            }
            next++;
            if (!isLetter(now())) {
                throw new Fault(1, nowPlace());
            }
            char letter = now().charAt(0);
            if (toldNow.containsKey(letter)) {
                throw new Fault(3, nowPlace());
            }
            next++;
            must("=");
            Knot knot = readE();
            must(";");
            toldNow.put(letter, new Told(inFun, knot));
        }
    }

    private void cut() {
        tokens = new ArrayList<>();
        int at = 0;
        while (at < text.length()) {
            int end = at + 1;
            char c = text.charAt(at);
            if (c == 10 || c == 32) {
                at++;
                continue;
            }
            while (Character.isDigit(c) && c < 128 && end < text.length() && "0123456789".indexOf(text.charAt(end)) >= 0) {
                end++;
            }
            while (c >= 'a' && c <= 'z' && end < text.length() && text.charAt(end) >= 'a' && text.charAt(end) <= 'z') {
                end++;
            }
            tokens.add(new int[] {at, end});
            at = end;
        }
    }

    private String now() {
        return next < tokens.size() ? text.substring(tokens.get(next)[0], tokens.get(next)[1]) : "";
    }

    private int nowPlace() {
        return next < tokens.size() ? tokens.get(next)[0] : text.length();
    }

    private static boolean isLetter(String token) {
        return token.matches("[a-z]") && !token.equals("t");
    }

    private void must(String sign) throws Fault {
        if (!now().equals(sign)) {
            throw new Fault(1, nowPlace());
        }
        if (sign.equals("(")) {
            open++;
            if (open > 8) {
                throw new Fault(2, nowPlace());
            }
        }
        if (sign.equals(")")) {
            open--;
        }
        next++;
    }

    private void countKnot() throws Fault {
        knotsNow++;
        if (knotsNow > 96) {
            throw new Fault(2, nowPlace());
        }
    }

    private Knot readE() throws Fault {
        Knot left = readT();
        while (now().equals("+") || now().equals("-")) {
            String sign = now();
            countKnot();
            next++;
            left = new Knot(sign, left, readT());
        }
        return left;
    }

    private Knot readT() throws Fault {
        Knot left = readU();
        while (now().equals("*") || now().equals("/")) {
            String sign = now();
            countKnot();
            next++;
            left = new Knot(sign, left, readU());
        }
        return left;
    }

    private Knot readU() throws Fault {
        if (!now().equals("-")) {
            return readP();
        }
        countKnot();
        next++;
        return new Knot("neg", readU());
    }

    private Knot readP() throws Fault {
        String token = now();
        if (token.equals("(")) {
            must("(");
            Knot inside = readE();
            must(")");
            return inside;
        }
        if (token.matches("[0-9]+")) {
            if (new BigInteger(token).compareTo(BigInteger.valueOf(999)) > 0) {
                throw new Fault(2, nowPlace());
            }
            countKnot();
            Knot knot = new Knot("N");
            knot.n = Integer.parseInt(token);
            next++;
            return knot;
        }
        if (token.equals("t")) {
            countKnot();
            if (!inFun) {
                throw new Fault(3, nowPlace());
            }
            next++;
            return new Knot("t");
        }
        if (isLetter(token)) {
            return readLetter(token.charAt(0));
        }
        if (token.matches("[a-z]+") && WORDS.contains(" " + token + " ") && !token.equals("let") && !token.equals("fun")) {
            return readWord(token);
        }
        throw new Fault(1, nowPlace());
    }

    private Knot readLetter(char letter) throws Fault {
        countKnot();
        if (!toldNow.containsKey(letter)) {
            throw new Fault(3, nowPlace());
        }
        next++;
        Knot knot;
        if (toldNow.get(letter).function) {
            must("(");
            knot = new Knot("call", readE());
            must(")");
        } else {
            knot = new Knot("number");
        }
        knot.letter = letter;
        return knot;
    }

    private Knot readWord(String word) throws Fault {
        countKnot();
        next++;
        must("(");
        Knot knot;
        switch (word) {
            case "sqrt":
            case "abs":
                knot = new Knot(word, readE());
                break;
            case "max":
            case "min":
                Knot one = readE();
                must(",");
                knot = new Knot(word, one, readE());
                break;
            case "if":
                knot = readIf();
                break;
            default:
                knot = readOver(word);
                break;
        }
        must(")");
        return knot;
    }

    private Knot readIf() throws Fault {
        Knot a = readE();
        String sign = now();
        if (!sign.equals("<") && !sign.equals(">")) {
            throw new Fault(1, nowPlace());
        }
        next++;
        Knot b = readE();
        must(",");
        Knot first = readE();
        must(",");
        Knot second = readE();
        return sign.equals("<") ? new Knot("if", a, b, first, second) : new Knot("if", b, a, first, second);
    }

    private Knot readOver(String word) throws Fault {
        if (!isLetter(now())) {
            throw new Fault(1, nowPlace());
        }
        Knot knot = new Knot(word);
        knot.letter = now().charAt(0);
        if (!toldNow.containsKey(knot.letter) || !toldNow.get(knot.letter).function) {
            throw new Fault(3, nowPlace());
        }
        next++;
        must(",");
        knot.from = readI(-1000);
        must(",");
        knot.to = readI(knot.from);
        return knot;
    }

    private int readI(int above) throws Fault {
        boolean minus = now().equals("-");
        if (minus) {
            next++;
        }
        if (!now().matches("[0-9]+")) {
            throw new Fault(1, nowPlace());
        }
        if (new BigInteger(now()).compareTo(BigInteger.valueOf(64)) > 0) {
            throw new Fault(2, nowPlace());
        }
        int value = Integer.parseInt(now()) * (minus ? -1 : 1);
        if (value <= above) {
            throw new Fault(3, nowPlace());
        }
        next++;
        return value;
    }

    // ---- spans

    int w;
    int work;

    private BigInteger parts() {
        return BigInteger.ONE.shiftLeft(w);
    }

    private static BigInteger big(long n) {
        return BigInteger.valueOf(n);
    }

    private static BigInteger down(BigInteger a, BigInteger b) {
        BigInteger[] both = a.divideAndRemainder(b);
        return both[1].signum() != 0 && both[1].signum() != b.signum() ? both[0].subtract(BigInteger.ONE) : both[0];
    }

    private static BigInteger up(BigInteger a, BigInteger b) {
        return down(a.negate(), b).negate();
    }

    /** {LOW, HIGH}, or null for NONE; the work is left in work, 20001 if there was more. */
    BigInteger[] asked(Knot knot, BigInteger[] t, int bits) {
        w = bits;
        work = 0;
        try {
            return ask(knot, t);
        } catch (TooMuchWork e) {
            return null;
        }
    }

    private BigInteger[] ask(Knot knot, BigInteger[] t) {
        work++;
        if (work > 20000) {
            throw new TooMuchWork();
        }
        BigInteger[] span = raw(knot, t);
        BigInteger most = parts().multiply(big(2048));
        if (span == null || span[0].compareTo(most.negate()) < 0 || span[1].compareTo(most) > 0) {
            return null;
        }
        return span;
    }

    private BigInteger[] raw(Knot knot, BigInteger[] t) {
        switch (knot.what) {
            case "N":
                return point(big(knot.n).multiply(parts()));
            case "t":
                return t;
            case "number":
                return ask(told.get(knot.letter).knot, null);
            case "call":
                BigInteger[] inside = ask(knot.parts[0], t);
                return inside == null ? null : ask(told.get(knot.letter).knot, inside);
            case "if":
                return askIf(knot, t);
            case "nought":
                return nought(knot);
            case "most":
            case "least":
            case "area":
                return pieces(knot);
            default:
                return plainParts(knot, t);
        }
    }

    private static BigInteger[] point(BigInteger at) {
        return new BigInteger[] {at, at};
    }

    private BigInteger[] plainParts(Knot knot, BigInteger[] t) {
        BigInteger[] a = ask(knot.parts[0], t);
        BigInteger[] b = knot.parts.length > 1 ? ask(knot.parts[1], t) : point(BigInteger.ONE);
        if (a == null || b == null) {
            return null;
        }
        switch (knot.what) {
            case "+":
                return new BigInteger[] {a[0].add(b[0]), a[1].add(b[1])};
            case "-":
                return new BigInteger[] {a[0].subtract(b[1]), a[1].subtract(b[0])};
            case "neg":
                return new BigInteger[] {a[1].negate(), a[0].negate()};
            case "*":
                return fourProducts(a, b);
            case "/":
                return fourQuotients(a, b);
            case "sqrt":
                return roots(a);
            case "abs":
                BigInteger one = a[0].abs();
                BigInteger other = a[1].abs();
                boolean hasNought = a[0].signum() <= 0 && a[1].signum() >= 0;
                return new BigInteger[] {hasNought ? BigInteger.ZERO : one.min(other), one.max(other)};
            case "max":
                return new BigInteger[] {a[0].max(b[0]), a[1].max(b[1])};
            case "min":
                return new BigInteger[] {a[0].min(b[0]), a[1].min(b[1])};
            default:
                throw new IllegalStateException(knot.what);
        }
    }

    private BigInteger[] fourProducts(BigInteger[] a, BigInteger[] b) {
        BigInteger least = null;
        BigInteger most = null;
        for (BigInteger x : a) {
            for (BigInteger y : b) {
                BigInteger product = x.multiply(y);
                least = least == null ? product : least.min(product);
                most = most == null ? product : most.max(product);
            }
        }
        return new BigInteger[] {down(least, parts()), up(most, parts())};
    }

    private BigInteger[] fourQuotients(BigInteger[] a, BigInteger[] b) {
        if (b[0].signum() <= 0 && b[1].signum() >= 0) {
            return null;
        }
        BigInteger least = null;
        BigInteger most = null;
        for (BigInteger x : a) {
            for (BigInteger y : b) {
                BigInteger above = x.multiply(parts());
                least = least == null ? down(above, y) : least.min(down(above, y));
                most = most == null ? up(above, y) : most.max(up(above, y));
            }
        }
        return new BigInteger[] {least, most};
    }

    private BigInteger[] roots(BigInteger[] a) {
        if (a[0].signum() < 0) {
            return null;
        }
        BigInteger low = a[0].multiply(parts()).sqrt();
        BigInteger[] high = a[1].multiply(parts()).sqrtAndRemainder();
        return new BigInteger[] {low, high[1].signum() == 0 ? high[0] : high[0].add(BigInteger.ONE)};
    }

    private BigInteger[] askIf(Knot knot, BigInteger[] t) {
        BigInteger[] a = ask(knot.parts[0], t);
        BigInteger[] b = ask(knot.parts[1], t);
        if (a == null || b == null) {
            return null;
        }
        if (a[1].compareTo(b[0]) < 0) {
            return ask(knot.parts[2], t);
        }
        if (a[0].compareTo(b[1]) >= 0) {
            return ask(knot.parts[3], t);
        }
        BigInteger[] one = ask(knot.parts[2], t);
        BigInteger[] other = ask(knot.parts[3], t);
        if (one == null || other == null) {
            return null;
        }
        return new BigInteger[] {one[0].min(other[0]), one[1].max(other[1])};
    }

    private int sign(BigInteger[] span) {
        if (span == null) {
            return 0;
        }
        return span[1].signum() < 0 ? -1 : span[0].signum() > 0 ? 1 : 0;
    }

    private BigInteger[] nought(Knot knot) {
        Knot f = told.get(knot.letter).knot;
        BigInteger left = big(knot.from).multiply(parts());
        BigInteger right = big(knot.to).multiply(parts());
        int atLeft = sign(ask(f, point(left)));
        int atRight = sign(ask(f, point(right)));
        if (atLeft == 0 || atRight == 0 || atLeft == atRight) {
            return null;
        }
        while (right.subtract(left).compareTo(BigInteger.ONE) > 0) {
            BigInteger middle = down(left.add(right), big(2));
            int there = sign(ask(f, point(middle)));
            if (there == 0) {
                break;
            }
            if (there == atLeft) {
                left = middle;
            } else {
                right = middle;
            }
        }
        return new BigInteger[] {left, right};
    }

    private BigInteger end(int from, int to, int piece) {
        BigInteger cut = down(big(to - from).multiply(big(piece)).multiply(parts()), BigInteger.ONE.shiftLeft(w / 4));
        return big(from).multiply(parts()).add(cut);
    }

    private BigInteger[] pieces(Knot knot) {
        Knot f = told.get(knot.letter).knot;
        List<BigInteger> lows = new ArrayList<>();
        List<BigInteger> highs = new ArrayList<>();
        BigInteger low = BigInteger.ZERO;
        BigInteger high = BigInteger.ZERO;
        for (int i = 0; i < 1 << w / 4; i++) {
            BigInteger[] ends = {end(knot.from, knot.to, i), end(knot.from, knot.to, i + 1)};
            BigInteger[] span = ask(f, ends);
            if (span == null) {
                return null;
            }
            lows.add(span[0]);
            highs.add(span[1]);
            low = low.add(down(span[0].multiply(ends[1].subtract(ends[0])), parts()));
            high = high.add(up(span[1].multiply(ends[1].subtract(ends[0])), parts()));
        }
        if (knot.what.equals("area")) {
            return new BigInteger[] {low, high};
        }
        if (knot.what.equals("most")) {
            return new BigInteger[] {java.util.Collections.max(lows), java.util.Collections.max(highs)};
        }
        return new BigInteger[] {java.util.Collections.min(lows), java.util.Collections.min(highs)};
    }

    // ---- the calls

    private Knot named(int letter, boolean function) {
        Told one = letter < 0 || letter > 25 ? null : told.get((char) ('a' + letter));
        return one == null || one.function != function ? null : one.knot;
    }

    int kind(int letter) {
        if (letter < 0 || letter > 25) {
            return -1;
        }
        return named(letter, false) != null ? 1 : named(letter, true) != null ? 2 : 0;
    }

    private long part(BigInteger[] span, int what) {
        if (what == 2) {
            return work;
        }
        return span == null ? MIN : span[what].longValueExact();
    }

    long span(int letter, int bits, int what) {
        Knot knot = named(letter, false);
        if (knot == null || bits < 4 || bits > 20 || what < 0 || what > 2) {
            return MIN;
        }
        return part(asked(knot, null, bits), what);
    }

    long at(int letter, int i, int j, int bits, int what) {
        Knot knot = named(letter, true);
        if (knot == null || bits < 4 || bits > 20 || what < 0 || what > 2 || i < -64 || j > 64 || i > j) {
            return MIN;
        }
        BigInteger[] t = {big(i).shiftLeft(bits), big(j).shiftLeft(bits)};
        return part(asked(knot, t, bits), what);
    }

    long ask(int letter, int p, int what) {
        Knot knot = named(letter, false);
        if (knot == null || p < 0 || p > 16 || what < 0 || what > 2) {
            return MIN;
        }
        BigInteger[] had = null;
        for (int bits : new int[] {4, 8, 12, 16, 20}) {
            if (bits < p) {
                continue;
            }
            BigInteger[] span = asked(knot, null, bits);
            if (span == null) {
                continue;
            }
            had = span;
            if (span[1].subtract(span[0]).compareTo(BigInteger.ONE.shiftLeft(bits - p)) <= 0) {
                return what == 0 ? bits : span[what - 1].longValueExact();
            }
        }
        if (what == 0) {
            return -1;
        }
        return had == null ? MIN : had[what - 1].longValueExact();
    }

    int digits(int letter) {
        Knot knot = named(letter, false);
        if (knot == null) {
            return -1;
        }
        BigInteger[] span = asked(knot, null, 20);
        if (span == null) {
            return -2;
        }
        for (int d = 5; d >= 0; d--) {
            BigInteger ten = BigInteger.TEN.pow(d);
            BigInteger below = BigInteger.ONE.shiftLeft(20);
            if (down(span[0].multiply(ten), below).equals(down(span[1].multiply(ten), below))) {
                return d;
            }
        }
        return -1;
    }

    /** {upper, lower}, or null. */
    private BigInteger[] fraction(Knot knot) {
        BigInteger[] a = null;
        BigInteger[] b = null;
        if (knot.parts.length > 0 && "+-*/neg".contains(knot.what)) {
            a = fraction(knot.parts[0]);
            b = knot.parts.length > 1 ? fraction(knot.parts[1]) : point(BigInteger.ONE);
            if (a == null || b == null) {
                return null;
            }
        }
        switch (knot.what) {
            case "N":
                return new BigInteger[] {big(knot.n), BigInteger.ONE};
            case "number":
                return fraction(told.get(knot.letter).knot);
            case "neg":
                return least(a[0].negate(), a[1]);
            case "+":
                return least(a[0].multiply(b[1]).add(b[0].multiply(a[1])), a[1].multiply(b[1]));
            case "-":
                return least(a[0].multiply(b[1]).subtract(b[0].multiply(a[1])), a[1].multiply(b[1]));
            case "*":
                return least(a[0].multiply(b[0]), a[1].multiply(b[1]));
            case "/":
                return b[0].signum() == 0 ? null : least(a[0].multiply(b[1]), a[1].multiply(b[0]));
            default:
                return null;
        }
    }

    private static BigInteger[] least(BigInteger upper, BigInteger lower) {
        BigInteger common = upper.gcd(lower).multiply(big(lower.signum()));
        BigInteger[] made = {upper.divide(common), lower.divide(common)};
        BigInteger most = BigInteger.TEN.pow(9);
        return made[0].abs().compareTo(most) > 0 || made[1].compareTo(most) > 0 ? null : made;
    }

    long exact(int letter, int what) {
        Knot knot = named(letter, false);
        if (knot == null || what < 0 || what > 1) {
            return MIN;
        }
        BigInteger[] made = fraction(knot);
        return made == null ? MIN : made[what].longValueExact();
    }

    int compare(int a, int b) {
        Knot one = named(a, false);
        Knot other = named(b, false);
        if (one == null || other == null) {
            return Integer.MIN_VALUE;
        }
        for (int bits : new int[] {4, 8, 12, 16, 20}) {
            BigInteger[] first = asked(one, null, bits);
            BigInteger[] second = asked(other, null, bits);
            if (first != null && second != null && first[1].compareTo(second[0]) < 0) {
                return bits;
            }
            if (first != null && second != null && second[1].compareTo(first[0]) < 0) {
                return -bits;
            }
        }
        BigInteger[] first = fraction(one);
        BigInteger[] second = fraction(other);
        if (first != null && second != null && first[0].equals(second[0]) && first[1].equals(second[1])) {
            return 0;
        }
        return a == b && asked(one, null, 20) != null ? 0 : 1;
    }

    int where(int letter, int i, int j) {
        Knot knot = named(letter, true);
        if (knot == null || i < -64 || j > 64 || i >= j) {
            return 0;
        }
        BigInteger[][] spans = new BigInteger[16][];
        BigInteger most = null;
        for (int k = 0; k < 16; k++) {
            w = 16;
            BigInteger[] ends = {end(i, j, k), end(i, j, k + 1)};
            spans[k] = asked(knot, ends, 16);
            if (spans[k] == null) {
                return 0;
            }
            most = most == null ? spans[k][0] : most.max(spans[k][0]);
        }
        int bits = 0;
        for (int k = 0; k < 16; k++) {
            bits += spans[k][1].compareTo(most) >= 0 ? 1 << k : 0;
        }
        return bits;
    }

    int dot(int letter, int x, int y) {
        Knot knot = named(letter, true);
        if (knot == null || x < -64 || x > 63 || y < -64 || y > 63) {
            return -1;
        }
        BigInteger bottom = big(y).shiftLeft(16);
        BigInteger top = big(y + 1).shiftLeft(16);
        BigInteger[] whole = asked(knot, new BigInteger[] {big(x).shiftLeft(16), big(x + 1).shiftLeft(16)}, 16);
        if (whole != null && (whole[0].compareTo(top) > 0 || whole[1].compareTo(bottom) < 0)) {
            return 0;
        }
        for (int i = 0; i <= 16; i++) {
            BigInteger[] there = asked(knot, point(big(16 * x + i).shiftLeft(12)), 16);
            if (there != null && there[0].compareTo(bottom) >= 0 && there[1].compareTo(top) <= 0) {
                return 2;
            }
        }
        return 1;
    }

    int dots(int letter, int x, int y, int m, int kind) {
        if (dot(letter, x, y) < 0 || m < 1 || m > 16 || kind < 0 || kind > 2) {
            return -1;
        }
        int counted = 0;
        for (int k = 0; k < 16; k++) {
            for (int up = 0; up < m; up++) {
                counted += dot(letter, x + k, y + up) == kind ? 1 : 0;
            }
        }
        return counted;
    }

    private double byDoubles(Knot knot, double t) {
        double a = 0;
        double b = 0;
        if (knot.parts.length > 0) {
            a = byDoubles(knot.parts[0], t);
        }
        if (knot.parts.length > 1) {
            b = byDoubles(knot.parts[1], t);
        }
        switch (knot.what) {
            case "N":
                return knot.n;
            case "t":
                return t;
            case "number":
                return byDoubles(told.get(knot.letter).knot, 0);
            case "call":
                return byDoubles(told.get(knot.letter).knot, a);
            case "+":
                return a + b;
            case "-":
                return a - b;
            case "*":
                return a * b;
            case "/":
                return a / b;
            case "neg":
                return -a;
            case "sqrt":
                return Math.sqrt(a);
            case "abs":
                return Math.abs(a);
            case "max":
                return Math.max(a, b);
            case "min":
                return Math.min(a, b);
            case "if":
                return byDoubles(a < b ? knot.parts[2] : knot.parts[3], t);
            default:
                return Double.NaN;
        }
    }

    /** NaN stands for what throws; 0 for no number, as the document has it. */
    double machine(int letter) {
        Knot knot = named(letter, false);
        if (knot == null) {
            return Double.NaN;
        }
        double made = byDoubles(knot, 0);
        return Double.isNaN(made) ? 0.0 : made;
    }

    int off(int letter) {
        Knot knot = named(letter, false);
        if (knot == null) {
            return -1;
        }
        double made = byDoubles(knot, 0);
        BigInteger[] span = asked(knot, null, 20);
        if (Double.isNaN(made) || span == null) {
            return 2;
        }
        if (Double.isInfinite(made)) {
            return made < 0 ? -1 : 1;
        }
        java.math.BigDecimal scaled = new java.math.BigDecimal(made).multiply(new java.math.BigDecimal(1 << 20));
        if (scaled.compareTo(new java.math.BigDecimal(span[0])) < 0) {
            return -1;
        }
        return scaled.compareTo(new java.math.BigDecimal(span[1])) > 0 ? 1 : 0;
    }

    int count(int what) {
        int functions = (int) told.values().stream().filter(one -> one.function).count();
        switch (what) {
            case 0:
                return told.size() - functions;
            case 1:
                return functions;
            case 2:
                return knots;
            case 3:
                return told.size();
            default:
                return -1;
        }
    }
}
