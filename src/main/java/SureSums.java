import java.util.Arrays;
import java.util.NoSuchElementException;

/**
 * A reckoner for numbers that are known only by asking nearer: told as a text, each asked with so
 * many bits gives a span in which it surely lies, or has none.
 */
public final class SureSums {
    public static final int NONE = -1;

    private static final int LETTERS = 26;
    private static final int TAPE_MOST = 500;
    private static final int FEED_BYTES = 20;
    private static final int NOT_SO_MANY = -2;
    private static final int NO_SPAN = -2;
    private static final int LEAST_BITS = 4;
    private static final int MOST_BITS = 20;
    private static final int BITS_STEP = 4;
    private static final int ASKED_MOST = 16;
    private static final int DIGITS_MOST = 5;
    private static final int PLACE_MOST = 64;
    private static final int SQUARE_MOST = 63;
    private static final int SQUARES_ROW = 16;
    private static final int SAME = 0;
    private static final int OPEN = 1;
    private static final int NO_NUMBER = 2;

    private final int[] tape = new int[TAPE_MOST];
    private Program told = new Program();
    private Program spare = new Program();
    private final Reader reader = new Reader(spare);
    private final Spans spans = new Spans(told);
    private final Fractions fractions = new Fractions();
    private final Doubles doubles = new Doubles(told);
    private final Curve curve = new Curve(spans, told);
    private int taped;
    private int latestFault;
    private int latestPlace = NONE;

    public SureSums() {
    }

    public int feed(int a, int b, int c, int d, int e) {
        if (taped + FEED_BYTES > TAPE_MOST) {
            return NONE;
        }
        tapeNumber(a);
        tapeNumber(b);
        tapeNumber(c);
        tapeNumber(d);
        tapeNumber(e);
        return taped;
    }

    private void tapeNumber(int number) {
        for (int shift = 24; shift >= 0 && taped < TAPE_MOST; shift -= 8) {
            tape[taped] = (number >> shift) & 255;
            taped++;
        }
    }

    public int text(int n) {
        if (n < 0 || n > taped) {
            return NOT_SO_MANY;
        }
        taped = 0;
        boolean good = reader.read(tape, n, spare);
        latestFault = reader.faultKind;
        latestPlace = reader.faultPlace;
        if (!good) {
            return NONE;
        }
        Program before = told;
        told = spare;
        spare = before;
        fractions.reckonAll(told);
        doubles.forget(told);
        return told.lines;
    }

    public int fault(int what) {
        if (what == 0) {
            return latestFault;
        }
        return what == 1 ? latestPlace : NONE;
    }

    public int kind(int letter) {
        if (letter < 0 || letter >= LETTERS) {
            return NONE;
        }
        if (numberLine(letter) >= 0) {
            return 1;
        }
        return functionLine(letter) >= 0 ? 2 : 0;
    }

    public long span(int letter, int w, int what) {
        int line = numberLine(letter);
        if (line < 0 || !bitsFit(w) || what < 0 || what > 2) {
            return Long.MIN_VALUE;
        }
        boolean found = spans.reckon(told, line, 0, 0, w);
        return partOfSpan(found, what);
    }

    public long at(int letter, int i, int j, int w, int what) {
        int line = functionLine(letter);
        if (line < 0 || !bitsFit(w) || what < 0 || what > 2) {
            return Long.MIN_VALUE;
        }
        if (i < -PLACE_MOST || j > PLACE_MOST || i > j) {
            return Long.MIN_VALUE;
        }
        boolean found = spans.reckon(told, line, (long) i << w, (long) j << w, w);
        return partOfSpan(found, what);
    }

    private long partOfSpan(boolean found, int what) {
        if (what == 2) {
            return spans.work;
        }
        if (!found) {
            return Long.MIN_VALUE;
        }
        return what == 0 ? spans.foundLow : spans.foundHigh;
    }

    public long ask(int letter, int p, int what) {
        int line = numberLine(letter);
        if (line < 0 || p < 0 || p > ASKED_MOST || what < 0 || what > 2) {
            return Long.MIN_VALUE;
        }
        long given = NONE;
        boolean had = false;
        long low = 0;
        long high = 0;
        for (int w = LEAST_BITS; w <= MOST_BITS && given == NONE; w += BITS_STEP) {
            if (w >= p && spans.reckon(told, line, 0, 0, w)) {
                had = true;
                low = spans.foundLow;
                high = spans.foundHigh;
                given = high - low <= 1L << (w - p) ? w : NONE;
            }
        }
        if (what == 0) {
            return given;
        }
        if (!had) {
            return Long.MIN_VALUE;
        }
        return what == 1 ? low : high;
    }

    public int digits(int letter) {
        int line = numberLine(letter);
        if (line < 0) {
            return NONE;
        }
        if (!spans.reckon(told, line, 0, 0, MOST_BITS)) {
            return NO_SPAN;
        }
        long low = spans.foundLow;
        long high = spans.foundHigh;
        int sure = NONE;
        for (int d = 0; d <= DIGITS_MOST; d++) {
            // A shift of a negative number goes downwards too, as the document asks.
            if (low >> MOST_BITS == high >> MOST_BITS) {
                sure = d;
            }
            low *= 10;
            high *= 10;
        }
        return sure;
    }

    public long exact(int letter, int what) {
        int line = numberLine(letter);
        if (line < 0 || what < 0 || what > 1 || !fractions.known(line)) {
            return Long.MIN_VALUE;
        }
        return what == 0 ? fractions.upperOf(line) : fractions.lowerOf(line);
    }

    public int compare(int a, int b) {
        int first = numberLine(a);
        int second = numberLine(b);
        if (first < 0 || second < 0) {
            return Integer.MIN_VALUE;
        }
        for (int w = LEAST_BITS; w <= MOST_BITS; w += BITS_STEP) {
            int apart = apartBy(first, second, w);
            if (apart != 0) {
                return apart;
            }
        }
        if (fractions.areSame(first, second)) {
            return SAME;
        }
        boolean oneNumber = first == second && spans.reckon(told, first, 0, 0, MOST_BITS);
        return oneNumber ? SAME : OPEN;
    }

    /** w if the first is surely below, -w if it is surely above, else 0. */
    private int apartBy(int first, int second, int w) {
        if (first == second || !spans.reckon(told, first, 0, 0, w)) {
            return 0;
        }
        long low = spans.foundLow;
        long high = spans.foundHigh;
        if (!spans.reckon(told, second, 0, 0, w)) {
            return 0;
        }
        if (high < spans.foundLow) {
            return w;
        }
        return spans.foundHigh < low ? -w : 0;
    }

    public int where(int letter, int i, int j) {
        int line = functionLine(letter);
        if (line < 0 || i < -PLACE_MOST || j > PLACE_MOST || i >= j) {
            return 0;
        }
        return curve.piecesWithMost(told, line, i, j);
    }

    public int dot(int letter, int x, int y) {
        int line = functionLine(letter);
        if (line < 0 || !squareFits(x) || !squareFits(y)) {
            return NONE;
        }
        curve.goTo(told, line, x);
        return curve.kindOfSquare(y);
    }

    public int dots(int letter, int x, int y, int m, int kind) {
        int line = functionLine(letter);
        if (line < 0 || !squareFits(x) || !squareFits(y)) {
            return NONE;
        }
        if (m < 1 || m > SQUARES_ROW || kind < 0 || kind > 2) {
            return NONE;
        }
        int counted = 0;
        for (int k = 0; k < SQUARES_ROW && x + k <= SQUARE_MOST; k++) {
            curve.goTo(told, line, x + k);
            for (int up = 0; up < m && y + up <= SQUARE_MOST; up++) {
                counted += curve.kindOfSquare(y + up) == kind ? 1 : 0;
            }
        }
        return counted;
    }

    public double machine(int letter) throws IndexOutOfBoundsException, NoSuchElementException {
        if (letter < 0 || letter >= LETTERS) {
            throw new IndexOutOfBoundsException("no such letter");
        }
        int line = numberLine(letter);
        if (line < 0) {
            throw new NoSuchElementException("no number of that letter");
        }
        return doubles.reckon(line) ? doubles.found : 0.0;
    }

    public int off(int letter) {
        int line = numberLine(letter);
        if (line < 0) {
            return NONE;
        }
        if (!doubles.reckon(line) || !spans.reckon(told, line, 0, 0, MOST_BITS)) {
            return NO_NUMBER;
        }
        // Both ends have at most 32 bits, so that they are exact as doubles.
        double parts = (double) (1L << MOST_BITS);
        if (doubles.found < (double) spans.foundLow / parts) {
            return -1;
        }
        return doubles.found > (double) spans.foundHigh / parts ? 1 : 0;
    }

    public int count(int what) {
        switch (what) {
            case 0:
                return told.numbers;
            case 1:
                return told.functions;
            case 2:
                return told.knots;
            case 3:
                return told.lines;
            default:
                return NONE;
        }
    }

    private int numberLine(int letter) {
        int line = told.lineOfLetter(letter);
        return line >= 0 && !told.isFunction(line) ? line : NONE;
    }

    private int functionLine(int letter) {
        int line = told.lineOfLetter(letter);
        return told.isFunction(line) ? line : NONE;
    }

    private static boolean bitsFit(int w) {
        return w >= LEAST_BITS && w <= MOST_BITS;
    }

    private static boolean squareFits(int place) {
        return place >= -PLACE_MOST && place <= SQUARE_MOST;
    }

    /**
     * The told lines as code: each knot stands behind its parts, so that a line is asked in one
     * loop, and only a letter's line inside another needs a call.
     */
    private static final class Program {
        static final int NUMBERS_MOST = 12;
        static final int FUNCTIONS_MOST = 6;
        static final int LINES_MOST = 18;
        static final int KNOTS_MOST = 96;
        /** Each knot is one code, and two marks more if it is an if: room for a text of mere ifs. */
        static final int CODE_MOST = 3 * KNOTS_MOST;
        /** A line uses those ahead of it alone, so that each if of a text is open once at a time. */
        static final int CHOICES_MOST = KNOTS_MOST;

        static final int CONSTANT = 0;
        static final int VARIABLE = 1;
        static final int NUMBER_LINE = 2;
        static final int CALL = 3;
        static final int NOUGHT = 4;
        static final int AREA = 5;
        static final int MOST = 6;
        static final int LEAST = 7;
        static final int NEGATE = 8;
        static final int ROOT = 9;
        static final int ABSOLUTE = 10;
        static final int ADD = 11;
        static final int SUBTRACT = 12;
        static final int MULTIPLY = 13;
        static final int DIVIDE = 14;
        static final int GREATER_ONE = 15;
        static final int LESSER_ONE = 16;
        static final int IF_BELOW = 17;
        static final int IF_ABOVE = 18;
        /** Between the two choices of an if: a mark, no knot. Its argument is the place of the JOIN. */
        static final int SECOND = 19;
        /** Behind the second choice of an if: a mark, no knot. */
        static final int JOIN = 20;

        private final int[] lineOf = new int[LETTERS];
        private final boolean[] function = new boolean[LINES_MOST];
        private final int[] starts = new int[LINES_MOST];
        private final int[] ends = new int[LINES_MOST];
        private final int[] ops = new int[CODE_MOST];
        private final int[] arguments = new int[CODE_MOST];
        private final int[] froms = new int[CODE_MOST];
        private final int[] tos = new int[CODE_MOST];
        private int size;
        private int lines;
        private int numbers;
        private int functions;
        private int knots;

        Program() {
            clear();
        }

        private void clear() {
            Arrays.fill(lineOf, NONE);
            size = 0;
            lines = 0;
            numbers = 0;
            functions = 0;
            knots = 0;
        }

        private int lineOfLetter(int letter) {
            return letter >= 0 && letter < LETTERS ? lineOf[letter] : NONE;
        }

        private boolean isFunction(int line) {
            return line >= 0 && line < lines && function[line];
        }

        private boolean isLine(int line) {
            return line >= 0 && line < lines;
        }

        private void tellLine(int letter, boolean asFunction, int start) {
            if (lines >= LINES_MOST || letter < 0 || letter >= LETTERS) {
                return;
            }
            lineOf[letter] = lines;
            function[lines] = asFunction;
            starts[lines] = start;
            ends[lines] = size;
            lines++;
            functions += asFunction ? 1 : 0;
            numbers += asFunction ? 0 : 1;
        }

        /** Where the new code stands. */
        private int add(int op, int argument) {
            return addOver(op, argument, 0, 0);
        }

        private int addOver(int op, int argument, int from, int to) {
            int place = size;
            if (place < CODE_MOST) {
                ops[place] = op;
                arguments[place] = argument;
                froms[place] = from;
                tos[place] = to;
                size++;
            }
            return place;
        }

        private void point(int place, int target) {
            if (place >= 0 && place < size) {
                arguments[place] = target;
            }
        }

        private int argumentAt(int place) {
            return place >= 0 && place < size ? arguments[place] : 0;
        }
    }

    /** A text cut into tokens. What is no token is one of its own kind, for the reader to come upon. */
    private static final class Tokens {
        static final int NUMBER_MOST = 999;

        /** The kinds of tokens; a sign's kind is its own byte, which is above all of these. */
        static final int END = 0;
        static final int BAD = 1;
        static final int NUMBER = 2;
        static final int LETTER = 3;
        static final int LET = 4;
        static final int FUN = 5;
        static final int SQRT = 6;
        static final int ABS = 7;
        static final int MAX = 8;
        static final int MIN = 9;
        static final int IF = 10;
        static final int NOUGHT = 11;
        static final int AREA = 12;
        static final int MOST = 13;
        static final int LEAST = 14;

        private final int[] kinds = new int[TAPE_MOST + 1];
        private final int[] places = new int[TAPE_MOST + 1];
        /** Of a number its value, of a letter its number. */
        private final int[] values = new int[TAPE_MOST + 1];
        private int size;

        private void cut(int[] bytes, int length) {
            size = 0;
            int place = 0;
            for (int k = 0; k < length && place < length; k++) {
                int sign = byteAt(bytes, place);
                if (sign == ' ' || sign == '\n') {
                    place++;
                } else if (isDigit(sign)) {
                    place = takeNumber(bytes, place, length);
                } else if (isSmall(sign)) {
                    place = takeWord(bytes, place, length);
                } else {
                    add(isSign(sign) ? sign : BAD, place, 0);
                    place++;
                }
            }
            add(END, length, 0);
        }

        private void add(int tokenKind, int place, int value) {
            if (size <= TAPE_MOST) {
                kinds[size] = tokenKind;
                places[size] = place;
                values[size] = value;
                size++;
            }
        }

        /** The place behind the number. */
        private int takeNumber(int[] bytes, int start, int length) {
            int value = 0;
            int end = start;
            for (; end < length && isDigit(byteAt(bytes, end)); end++) {
                // Cut at the first value that is too much, so that a long row can't run over.
                value = Math.min(value * 10 + byteAt(bytes, end) - '0', NUMBER_MOST + 1);
            }
            add(NUMBER, start, value);
            return end;
        }

        /** The place behind the word. */
        private int takeWord(int[] bytes, int start, int length) {
            int end = start;
            while (end < length && isSmall(byteAt(bytes, end))) {
                end++;
            }
            if (end - start == 1) {
                add(LETTER, start, byteAt(bytes, start) - 'a');
            } else {
                add(wordKind(bytes, start, end), start, 0);
            }
            return end;
        }

        private static int wordKind(int[] bytes, int start, int end) {
            if (isWord(bytes, start, end, "let")) {
                return LET;
            }
            if (isWord(bytes, start, end, "fun")) {
                return FUN;
            }
            if (isWord(bytes, start, end, "sqrt")) {
                return SQRT;
            }
            if (isWord(bytes, start, end, "abs")) {
                return ABS;
            }
            if (isWord(bytes, start, end, "max")) {
                return MAX;
            }
            if (isWord(bytes, start, end, "min")) {
                return MIN;
            }
            return isWord(bytes, start, end, "if") ? IF : overKind(bytes, start, end);
        }

        private static int overKind(int[] bytes, int start, int end) {
            if (isWord(bytes, start, end, "nought")) {
                return NOUGHT;
            }
            if (isWord(bytes, start, end, "area")) {
                return AREA;
            }
            if (isWord(bytes, start, end, "most")) {
                return MOST;
            }
            return isWord(bytes, start, end, "least") ? LEAST : BAD;
        }

        private static boolean isWord(int[] bytes, int start, int end, String word) {
            if (end - start != word.length()) {
                return false;
            }
            for (int k = 0; k < word.length(); k++) {
                if (byteAt(bytes, start + k) != word.charAt(k)) {
                    return false;
                }
            }
            return true;
        }

        private static int byteAt(int[] bytes, int place) {
            return place >= 0 && place < bytes.length ? bytes[place] : 0;
        }

        private static boolean isDigit(int sign) {
            return sign >= '0' && sign <= '9';
        }

        private static boolean isSmall(int sign) {
            return sign >= 'a' && sign <= 'z';
        }

        private static boolean isSign(int sign) {
            switch (sign) {
                case ';':
                case '=':
                case '+':
                case '-':
                case '*':
                case '/':
                case '(':
                case ')':
                case ',':
                case '<':
                case '>':
                    return true;
                default:
                    return false;
            }
        }
    }

    /** Reads a text into a program, up to its first fault. */
    private static final class Reader {
        private static final int WRONG_TOKEN = 1;
        private static final int TOO_MUCH = 2;
        private static final int WRONG_LETTER = 3;

        private static final int SUMS = 0;
        private static final int PRODUCTS = 1;
        private static final int BRACKETS_MOST = 8;
        private static final int BOUND_MOST = 64;
        private static final int T = 't' - 'a';

        private final Tokens tokens = new Tokens();
        private Program into;
        private int next;
        private int token;
        private int tokenValue;
        private int open;
        private boolean inFunction;
        private int bound;
        private int faultKind;
        private int faultPlace = NONE;

        Reader(Program into) {
            this.into = into;
        }

        private boolean read(int[] tape, int n, Program program) {
            tokens.cut(tape, n);
            into = program;
            into.clear();
            next = 0;
            open = 0;
            faultKind = 0;
            faultPlace = NONE;
            advance();
            for (int k = 0; k <= Program.LINES_MOST && token != Tokens.END; k++) {
                if (!line()) {
                    return false;
                }
            }
            return true;
        }

        /** The last token, the end, stays the token for ever. */
        private void advance() {
            if (next < tokens.size) {
                token = tokens.kinds[next];
                tokenValue = tokens.values[next];
                next++;
            }
        }

        /** At the token; since they are looked at in order, the first fault found is the first along the text. */
        private boolean fail(int kindOfFault) {
            faultKind = kindOfFault;
            faultPlace = next >= 1 && next <= tokens.size ? tokens.places[next - 1] : 0;
            return false;
        }

        private boolean line() {
            if (token != Tokens.LET && token != Tokens.FUN) {
                return fail(WRONG_TOKEN);
            }
            inFunction = token == Tokens.FUN;
            if (inFunction ? into.functions >= Program.FUNCTIONS_MOST : into.numbers >= Program.NUMBERS_MOST) {
                return fail(TOO_MUCH);
            }
            advance();
            if (token != Tokens.LETTER || tokenValue == T) {
                return fail(WRONG_TOKEN);
            }
            int letter = tokenValue;
            if (into.lineOfLetter(letter) >= 0) {
                return fail(WRONG_LETTER);
            }
            advance();
            int start = into.size;
            if (!expect('=') || !chain(SUMS)) {
                return false;
            }
            into.tellLine(letter, inFunction, start);
            return expect(';');
        }

        /** A whole E by SUMS: products with + and - between them; by PRODUCTS: parts with * and /. */
        private boolean chain(int level) {
            int one = level == SUMS ? '+' : '*';
            int other = level == SUMS ? '-' : '/';
            boolean good = level == SUMS ? chain(PRODUCTS) : part();
            for (int k = 0; k <= Program.KNOTS_MOST && good && (token == one || token == other); k++) {
                int op = opBetween(token);
                good = knot() && (level == SUMS ? chain(PRODUCTS) : part());
                into.add(op, 0);
            }
            return good;
        }

        private static int opBetween(int sign) {
            switch (sign) {
                case '+':
                    return Program.ADD;
                case '-':
                    return Program.SUBTRACT;
                case '*':
                    return Program.MULTIPLY;
                default:
                    return Program.DIVIDE;
            }
        }

        /** Signs ahead are counted, not gone into: a text may have more of them than calls may stand open. */
        private boolean part() {
            int signs = 0;
            for (; signs <= Program.KNOTS_MOST && token == '-'; signs++) {
                if (!knot()) {
                    return false;
                }
            }
            boolean good;
            switch (token) {
                case '(':
                    good = openBracket() && chain(SUMS) && closeBracket();
                    break;
                case Tokens.NUMBER:
                    good = constant();
                    break;
                case Tokens.LETTER:
                    good = tokenValue == T ? variable() : letter();
                    break;
                case Tokens.SQRT:
                case Tokens.ABS:
                    good = ofOne(token == Tokens.SQRT ? Program.ROOT : Program.ABSOLUTE);
                    break;
                case Tokens.MAX:
                case Tokens.MIN:
                    good = ofTwo(token == Tokens.MAX ? Program.GREATER_ONE : Program.LESSER_ONE);
                    break;
                case Tokens.IF:
                    good = choice();
                    break;
                default:
                    good = over(opOver(token));
                    break;
            }
            for (int k = 0; k < signs; k++) {
                into.add(Program.NEGATE, 0);
            }
            return good;
        }

        private static int opOver(int word) {
            switch (word) {
                case Tokens.NOUGHT:
                    return Program.NOUGHT;
                case Tokens.AREA:
                    return Program.AREA;
                case Tokens.MOST:
                    return Program.MOST;
                case Tokens.LEAST:
                    return Program.LEAST;
                default:
                    return NONE;
            }
        }

        /** The token is a knot's own: counts it and goes behind it. */
        private boolean knot() {
            if (into.knots >= Program.KNOTS_MOST) {
                return fail(TOO_MUCH);
            }
            into.knots++;
            advance();
            return true;
        }

        private boolean constant() {
            int value = tokenValue;
            if (value > Tokens.NUMBER_MOST) {
                return fail(TOO_MUCH);
            }
            into.add(Program.CONSTANT, value);
            return knot();
        }

        /** Of two faults at one place the lesser one counts: too much is looked for ahead of a wrong letter. */
        private boolean variable() {
            if (into.knots < Program.KNOTS_MOST && !inFunction) {
                return fail(WRONG_LETTER);
            }
            into.add(Program.VARIABLE, 0);
            return knot();
        }

        private boolean letter() {
            int line = into.lineOfLetter(tokenValue);
            if (into.knots < Program.KNOTS_MOST && line < 0) {
                return fail(WRONG_LETTER);
            }
            boolean good = knot();
            if (into.isFunction(line)) {
                good = good && openBracket() && chain(SUMS) && closeBracket();
                into.add(Program.CALL, line);
            } else {
                into.add(Program.NUMBER_LINE, line);
            }
            return good;
        }

        private boolean ofOne(int op) {
            boolean good = knot() && openBracket() && chain(SUMS) && closeBracket();
            into.add(op, 0);
            return good;
        }

        private boolean ofTwo(int op) {
            boolean good = knot() && openBracket() && chain(SUMS) && expect(',') && chain(SUMS) && closeBracket();
            into.add(op, 0);
            return good;
        }

        private boolean choice() {
            if (!knot() || !openBracket() || !chain(SUMS)) {
                return false;
            }
            if (token != '<' && token != '>') {
                return fail(WRONG_TOKEN);
            }
            int op = token == '<' ? Program.IF_BELOW : Program.IF_ABOVE;
            advance();
            if (!chain(SUMS) || !expect(',')) {
                return false;
            }
            int choosing = into.add(op, 0);
            if (!chain(SUMS) || !expect(',')) {
                return false;
            }
            int second = into.add(Program.SECOND, 0);
            if (!chain(SUMS)) {
                return false;
            }
            int join = into.add(Program.JOIN, 0);
            into.point(choosing, second);
            into.point(second, join);
            return closeBracket();
        }

        private boolean over(int op) {
            if (op == NONE) {
                return fail(WRONG_TOKEN);
            }
            if (!knot() || !openBracket()) {
                return false;
            }
            if (token != Tokens.LETTER || tokenValue == T) {
                return fail(WRONG_TOKEN);
            }
            int line = into.lineOfLetter(tokenValue);
            if (!into.isFunction(line)) {
                return fail(WRONG_LETTER);
            }
            advance();
            if (!expect(',') || !boundAbove(-BOUND_MOST - 1)) {
                return false;
            }
            int from = bound;
            if (!expect(',') || !boundAbove(from)) {
                return false;
            }
            into.addOver(op, line, from, bound);
            return closeBracket();
        }

        private boolean boundAbove(int least) {
            boolean below = token == '-';
            if (below) {
                advance();
            }
            if (token != Tokens.NUMBER) {
                return fail(WRONG_TOKEN);
            }
            if (tokenValue > BOUND_MOST) {
                return fail(TOO_MUCH);
            }
            bound = below ? -tokenValue : tokenValue;
            if (bound <= least) {
                return fail(WRONG_LETTER);
            }
            advance();
            return true;
        }

        private boolean openBracket() {
            if (token != '(') {
                return fail(WRONG_TOKEN);
            }
            if (open >= BRACKETS_MOST) {
                return fail(TOO_MUCH);
            }
            open++;
            advance();
            return true;
        }

        private boolean closeBracket() {
            if (token != ')') {
                return fail(WRONG_TOKEN);
            }
            open--;
            advance();
            return true;
        }

        private boolean expect(int wanted) {
            if (token != wanted) {
                return fail(WRONG_TOKEN);
            }
            advance();
            return true;
        }
    }

    /** Asks lines for their spans. */
    private static final class Spans {
        /** A span whose low end is above its high one stands for none. */
        private static final long NO_LOW = 1;
        private static final long NO_HIGH = 0;
        private static final int WORK_MOST = 20000;
        private static final long VALUE_MOST = 2048;
        /** The greatest number under a root is 2048 times 2 to the 40, whose root has 26 bits. */
        private static final int ROOT_BIT = 26;
        private static final int HALVINGS_MOST = 64;
        /** Each told knot holds one value at most. */
        private static final int VALUES_MOST = Program.KNOTS_MOST + 4;

        private static final int FIRST_ALONE = 1;
        private static final int SECOND_ALONE = 2;
        private static final int BOTH = 3;

        private final long[] lows = new long[VALUES_MOST];
        private final long[] highs = new long[VALUES_MOST];
        private final int[] choices = new int[Program.CHOICES_MOST];
        private int top;
        private int chosen;
        private Program program;
        private int bits;
        private long limit;
        private int work;
        private long foundLow;
        private long foundHigh;

        Spans(Program program) {
            this.program = program;
        }

        /** Whether there is a span; its ends are found then, and the work in any case. */
        private boolean reckon(Program of, int line, long tLow, long tHigh, int w) {
            program = of;
            bits = w;
            limit = VALUE_MOST << w;
            work = 0;
            top = 0;
            chosen = 0;
            run(line, tLow, tHigh, 0);
            return take();
        }

        /** Takes the last span off the row; whether it is one. */
        private boolean take() {
            if (top < 1) {
                return false;
            }
            top--;
            foundLow = lows[top];
            foundHigh = highs[top];
            return foundLow <= foundHigh;
        }

        /** Lays the line's span on the row. Lines use earlier ones alone, which keeps the depth low. */
        private void run(int line, long tLow, long tHigh, int depth) {
            if (!program.isLine(line) || depth > Program.LINES_MOST) {
                push(NO_LOW, NO_HIGH);
                return;
            }
            int valuesBefore = top;
            int chosenBefore = chosen;
            int end = Math.min(program.ends[line], program.size);
            for (int place = Math.max(program.starts[line], 0); place < end && work <= WORK_MOST; place++) {
                int op = program.ops[place];
                if (op == Program.SECOND || op == Program.JOIN) {
                    place = Math.max(place, passMark(op, place));
                } else {
                    work++;
                    if (op == Program.VARIABLE) {
                        push(tLow, tHigh);
                    } else {
                        place = Math.max(place, perform(op, place, depth));
                    }
                }
            }
            if (work > WORK_MOST) {
                top = valuesBefore;
                chosen = chosenBefore;
                push(NO_LOW, NO_HIGH);
            }
        }

        /** The last place of the code that is dealt with by this. */
        private int perform(int op, int place, int depth) {
            int argument = program.argumentAt(place);
            switch (op) {
                case Program.CONSTANT:
                    push((long) argument << bits, (long) argument << bits);
                    return place;
                case Program.NUMBER_LINE:
                    run(argument, 0, 0, depth + 1);
                    return place;
                case Program.CALL:
                    call(argument, depth + 1);
                    return place;
                case Program.NOUGHT:
                    nought(argument, place, depth + 1);
                    return place;
                case Program.AREA:
                case Program.MOST:
                case Program.LEAST:
                    overPieces(op, argument, place, depth + 1);
                    return place;
                case Program.NEGATE:
                case Program.ROOT:
                case Program.ABSOLUTE:
                    ofOne(op);
                    return place;
                case Program.IF_BELOW:
                case Program.IF_ABOVE:
                    return choose(op, argument, place);
                default:
                    ofTwo(op);
                    return place;
            }
        }

        /** Every knot's span goes through here, since none may reach beyond the limit. */
        private void push(long low, long high) {
            if (top < VALUES_MOST) {
                boolean within = low >= -limit && high <= limit;
                lows[top] = within ? low : NO_LOW;
                highs[top] = within ? high : NO_HIGH;
                top++;
            }
        }

        private void call(int line, int depth) {
            if (top < 1) {
                return;
            }
            top--;
            if (lows[top] > highs[top]) {
                push(NO_LOW, NO_HIGH);
            } else {
                run(line, lows[top], highs[top], depth);
            }
        }

        private void ofOne(int op) {
            if (top < 1) {
                return;
            }
            top--;
            long low = lows[top];
            long high = highs[top];
            if (low > high || op == Program.ROOT && low < 0) {
                push(NO_LOW, NO_HIGH);
            } else if (op == Program.NEGATE) {
                push(-high, -low);
            } else if (op == Program.ROOT) {
                push(rootDown(low << bits), rootUp(high << bits));
            } else if (low <= 0 && high >= 0) {
                push(0, Math.max(-low, high));
            } else {
                push(Math.min(Math.abs(low), Math.abs(high)), Math.max(Math.abs(low), Math.abs(high)));
            }
        }

        private void ofTwo(int op) {
            if (top < 2) {
                return;
            }
            top -= 2;
            long aLow = lows[top];
            long aHigh = highs[top];
            long bLow = lows[top + 1];
            long bHigh = highs[top + 1];
            if (aLow > aHigh || bLow > bHigh) {
                push(NO_LOW, NO_HIGH);
                return;
            }
            switch (op) {
                case Program.ADD:
                    push(aLow + bLow, aHigh + bHigh);
                    break;
                case Program.SUBTRACT:
                    push(aLow - bHigh, aHigh - bLow);
                    break;
                case Program.MULTIPLY:
                    pushProduct(aLow, aHigh, bLow, bHigh);
                    break;
                case Program.DIVIDE:
                    pushQuotient(aLow, aHigh, bLow, bHigh);
                    break;
                case Program.GREATER_ONE:
                    push(Math.max(aLow, bLow), Math.max(aHigh, bHigh));
                    break;
                default:
                    push(Math.min(aLow, bLow), Math.min(aHigh, bHigh));
                    break;
            }
        }

        private void pushProduct(long aLow, long aHigh, long bLow, long bHigh) {
            long one = aLow * bLow;
            long two = aLow * bHigh;
            long three = aHigh * bLow;
            long four = aHigh * bHigh;
            long least = Math.min(Math.min(one, two), Math.min(three, four));
            long greatest = Math.max(Math.max(one, two), Math.max(three, four));
            push(partsDown(least), partsUp(greatest));
        }

        private void pushQuotient(long aLow, long aHigh, long bLow, long bHigh) {
            if (bLow <= 0 && bHigh >= 0) {
                push(NO_LOW, NO_HIGH);
                return;
            }
            long low = aLow << bits;
            long high = aHigh << bits;
            long leastLow = Math.min(quotientDown(low, bLow), quotientDown(low, bHigh));
            long leastHigh = Math.min(quotientDown(high, bLow), quotientDown(high, bHigh));
            long mostLow = Math.max(quotientUp(low, bLow), quotientUp(low, bHigh));
            long mostHigh = Math.max(quotientUp(high, bLow), quotientUp(high, bHigh));
            push(Math.min(leastLow, leastHigh), Math.max(mostLow, mostHigh));
        }

        /** By 2 to the bits; a shift goes downwards for negative ones too. */
        private long partsDown(long value) {
            return value >> bits;
        }

        private long partsUp(long value) {
            return -(-value >> bits);
        }

        private static long quotientDown(long value, long divisor) {
            return divisor == 0 ? 0 : Math.floorDiv(value, divisor);
        }

        private static long quotientUp(long value, long divisor) {
            return divisor == 0 ? 0 : -Math.floorDiv(-value, divisor);
        }

        private static long rootDown(long square) {
            long root = 0;
            for (int bit = ROOT_BIT; bit >= 0; bit--) {
                long tried = root + (1L << bit);
                if (tried * tried <= square) {
                    root = tried;
                }
            }
            return root;
        }

        private static long rootUp(long square) {
            long root = rootDown(square);
            return root * root == square ? root : root + 1;
        }

        private int choose(int op, int second, int place) {
            if (top < 2 || chosen >= Program.CHOICES_MOST) {
                return place;
            }
            top -= 2;
            int lesser = op == Program.IF_BELOW ? top : top + 1;
            int greater = op == Program.IF_BELOW ? top + 1 : top;
            if (lows[top] > highs[top] || lows[top + 1] > highs[top + 1]) {
                push(NO_LOW, NO_HIGH);
                return program.argumentAt(second);
            }
            if (highs[lesser] < lows[greater]) {
                choices[chosen] = FIRST_ALONE;
            } else if (lows[lesser] >= highs[greater]) {
                choices[chosen] = SECOND_ALONE;
            } else {
                choices[chosen] = BOTH;
            }
            int goOn = choices[chosen] == SECOND_ALONE ? second : place;
            chosen++;
            return goOn;
        }

        private int passMark(int op, int place) {
            if (chosen < 1) {
                return place;
            }
            int choice = choices[chosen - 1];
            if (op == Program.SECOND) {
                chosen -= choice == FIRST_ALONE ? 1 : 0;
                return choice == FIRST_ALONE ? program.argumentAt(place) : place;
            }
            chosen--;
            if (choice == BOTH) {
                joinTwo();
            }
            return place;
        }

        private void joinTwo() {
            if (top < 2) {
                return;
            }
            top -= 2;
            if (lows[top] > highs[top] || lows[top + 1] > highs[top + 1]) {
                push(NO_LOW, NO_HIGH);
            } else {
                push(Math.min(lows[top], lows[top + 1]), Math.max(highs[top], highs[top + 1]));
            }
        }

        private void nought(int line, int place, int depth) {
            long left = (long) program.froms[place] << bits;
            long right = (long) program.tos[place] << bits;
            int leftSign = signOver(line, left, depth);
            int rightSign = signOver(line, right, depth);
            if (leftSign * rightSign != -1) {
                push(NO_LOW, NO_HIGH);
                return;
            }
            boolean sure = true;
            for (int k = 0; k < HALVINGS_MOST && sure && right - left > 1; k++) {
                long middle = (left + right) >> 1;
                int sign = signOver(line, middle, depth);
                sure = sign != 0;
                left = sign == leftSign ? middle : left;
                right = sign == rightSign ? middle : right;
            }
            push(left, right);
        }

        /** -1 or 1 if the function is surely below or above 0 there, else 0. */
        private int signOver(int line, long t, int depth) {
            run(line, t, t, depth);
            if (!take()) {
                return 0;
            }
            if (foundHigh < 0) {
                return -1;
            }
            return foundLow > 0 ? 1 : 0;
        }

        private void overPieces(int op, int line, int place, int depth) {
            int pieces = 1 << (bits / 4);
            long low = 0;
            long high = 0;
            for (int piece = 0; piece < pieces; piece++) {
                long left = pieceEnd(program.froms[place], program.tos[place], piece, bits);
                long right = pieceEnd(program.froms[place], program.tos[place], piece + 1, bits);
                run(line, left, right, depth);
                if (!take()) {
                    push(NO_LOW, NO_HIGH);
                    return;
                }
                if (op == Program.AREA) {
                    low += partsDown(foundLow * (right - left));
                    high += partsUp(foundHigh * (right - left));
                } else if (piece == 0) {
                    low = foundLow;
                    high = foundHigh;
                } else if (op == Program.MOST) {
                    low = Math.max(low, foundLow);
                    high = Math.max(high, foundHigh);
                } else {
                    low = Math.min(low, foundLow);
                    high = Math.min(high, foundHigh);
                }
            }
            push(low, high);
        }

        private static long pieceEnd(int from, int to, int piece, int w) {
            long fromStart = ((long) (to - from) * piece << w) >> (w / 4);
            return ((long) from << w) + fromStart;
        }
    }

    /** What is sure of a function's curve: pieces that may hold the most, squares it goes through. */
    private static final class Curve {
        private static final int BITS = 16;
        private static final int PIECES = 16;
        private static final int PLACES = 17;
        private static final int PLACE_SHIFT = 4;

        private static final int SURE_NOT = 0;
        private static final int UNSURE = 1;
        private static final int SURE = 2;

        private final Spans spans;
        private final long[] lows = new long[PLACES];
        private final long[] highs = new long[PLACES];
        private Program program;
        private int line;
        private int column;
        private boolean hasWhole;
        private long wholeLow;
        private long wholeHigh;
        private int placesAsked;

        Curve(Spans spans, Program program) {
            this.spans = spans;
            this.program = program;
        }

        private int piecesWithMost(Program of, int function, int from, int to) {
            for (int piece = 0; piece < PIECES; piece++) {
                long left = Spans.pieceEnd(from, to, piece, BITS);
                long right = Spans.pieceEnd(from, to, piece + 1, BITS);
                if (!spans.reckon(of, function, left, right, BITS)) {
                    return 0;
                }
                lows[piece] = spans.foundLow;
                highs[piece] = spans.foundHigh;
            }
            long greatest = lows[0];
            for (int piece = 1; piece < PIECES; piece++) {
                greatest = Math.max(greatest, lows[piece]);
            }
            int found = 0;
            for (int piece = 0; piece < PIECES; piece++) {
                found |= highs[piece] >= greatest ? 1 << piece : 0;
            }
            return found;
        }

        /** All squares of one column share what is asked of the function there. */
        private void goTo(Program of, int function, int x) {
            program = of;
            line = function;
            column = x;
            placesAsked = 0;
            hasWhole = spans.reckon(of, function, (long) x << BITS, (long) (x + 1) << BITS, BITS);
            wholeLow = spans.foundLow;
            wholeHigh = spans.foundHigh;
        }

        private int kindOfSquare(int y) {
            long bottom = (long) y << BITS;
            long ceiling = (long) (y + 1) << BITS;
            if (hasWhole && (wholeLow > ceiling || wholeHigh < bottom)) {
                return SURE_NOT;
            }
            for (int place = 0; place < PLACES; place++) {
                if (place >= placesAsked) {
                    long t = ((long) column << BITS) + ((long) place << (BITS - PLACE_SHIFT));
                    boolean found = spans.reckon(program, line, t, t, BITS);
                    lows[place] = found ? spans.foundLow : Spans.NO_LOW;
                    highs[place] = found ? spans.foundHigh : Spans.NO_HIGH;
                    placesAsked = place + 1;
                }
                if (lows[place] <= highs[place] && lows[place] >= bottom && highs[place] <= ceiling) {
                    return SURE;
                }
            }
            return UNSURE;
        }
    }

    /** The numbers that are fractions for sure. A lower number 0 stands for none. */
    private static final class Fractions {
        private static final long PART_MOST = 1_000_000_000L;
        private static final int DIVISIONS_MOST = 128;
        private static final int VALUES_MOST = Program.KNOTS_MOST + 4;

        private final long[] uppers = new long[Program.LINES_MOST];
        private final long[] lowers = new long[Program.LINES_MOST];
        private final long[] upperRow = new long[VALUES_MOST];
        private final long[] lowerRow = new long[VALUES_MOST];
        private int top;

        private boolean known(int line) {
            return line >= 0 && line < Program.LINES_MOST && lowers[line] != 0;
        }

        private long upperOf(int line) {
            return known(line) ? uppers[line] : 0;
        }

        private long lowerOf(int line) {
            return known(line) ? lowers[line] : 0;
        }

        private boolean areSame(int one, int other) {
            return known(one) && known(other) && uppers[one] == uppers[other] && lowers[one] == lowers[other];
        }

        /** In the order of the lines, so that each finds those that it is made of. */
        private void reckonAll(Program program) {
            Arrays.fill(lowers, 0);
            for (int line = 0; line < program.lines && line < Program.LINES_MOST; line++) {
                if (!program.isFunction(line) && run(program, line) && top == 1) {
                    uppers[line] = upperRow[0];
                    lowers[line] = lowerRow[0];
                }
            }
        }

        private boolean run(Program program, int line) {
            top = 0;
            boolean good = program.isLine(line);
            int end = good ? Math.min(program.ends[line], program.size) : 0;
            int start = good ? Math.max(program.starts[line], 0) : 0;
            for (int place = start; place < end && good; place++) {
                good = perform(program.ops[place], program.argumentAt(place));
            }
            return good;
        }

        /** False as soon as the number can't be exact. */
        private boolean perform(int op, int argument) {
            switch (op) {
                case Program.CONSTANT:
                    return push(argument, 1);
                case Program.NUMBER_LINE:
                    return push(upperOf(argument), lowerOf(argument));
                case Program.NEGATE:
                    if (top < 1) {
                        return false;
                    }
                    top--;
                    return push(-upperRow[top], lowerRow[top]);
                case Program.ADD:
                case Program.SUBTRACT:
                case Program.MULTIPLY:
                case Program.DIVIDE:
                    return ofTwo(op);
                default:
                    return false;
            }
        }

        /** No part is above 10 to the 9, so that no product or sum of two runs over. */
        private boolean ofTwo(int op) {
            if (top < 2) {
                return false;
            }
            top -= 2;
            long aUpper = upperRow[top];
            long aLower = lowerRow[top];
            long bUpper = upperRow[top + 1];
            long bLower = lowerRow[top + 1];
            switch (op) {
                case Program.ADD:
                    return push(aUpper * bLower + bUpper * aLower, aLower * bLower);
                case Program.SUBTRACT:
                    return push(aUpper * bLower - bUpper * aLower, aLower * bLower);
                case Program.MULTIPLY:
                    return push(aUpper * bUpper, aLower * bLower);
                default:
                    return push(aUpper * bLower, aLower * bUpper);
            }
        }

        private boolean push(long upper, long lower) {
            if (lower == 0 || top >= VALUES_MOST) {
                return false;
            }
            long common = lower < 0 ? -commonPart(upper, lower) : commonPart(upper, lower);
            if (common == 0) {
                return false;
            }
            upperRow[top] = upper / common;
            lowerRow[top] = lower / common;
            boolean fits = Math.abs(upperRow[top]) <= PART_MOST && lowerRow[top] <= PART_MOST;
            top++;
            return fits;
        }

        /** The greatest number that divides both; each two divisions halve it, so that they end soon. */
        private static long commonPart(long one, long other) {
            long a = Math.abs(one);
            long b = Math.abs(other);
            for (int k = 0; k < DIVISIONS_MOST && b != 0; k++) {
                long rest = a % b;
                a = b;
                b = rest;
            }
            return a;
        }
    }

    /**
     * What the machine's doubles make of the numbers. No number (NaN) is carried as a mark beside
     * the value, and no double operation here ever gives it.
     */
    private static final class Doubles {
        private static final int UNKNOWN = 0;
        private static final int A_NUMBER = 1;
        private static final int NO_NUMBER_AT_ALL = 2;
        private static final int VALUES_MOST = Program.KNOTS_MOST + 4;
        private static final int SCALINGS_MOST = 1200;
        /** The pairs of bits of a whole number below 2 to the 54, and as many of nought behind them. */
        private static final int ROOT_PAIRS = 27;

        private final double[] results = new double[Program.LINES_MOST];
        private final int[] states = new int[Program.LINES_MOST];
        private final double[] values = new double[VALUES_MOST];
        private final boolean[] lost = new boolean[VALUES_MOST];
        private int top;
        private Program program;
        private double found;

        Doubles(Program program) {
            this.program = program;
        }

        private void forget(Program of) {
            program = of;
            Arrays.fill(states, UNKNOWN);
        }

        /** Whether the machine has a number there, which is found then. */
        private boolean reckon(int line) {
            top = 0;
            numberLine(line, 0);
            boolean good = top == 1 && !lost[0];
            found = good ? values[0] : 0.0;
            return good;
        }

        /** Each number is worked out once for a text: worked out anew each time it could take too long. */
        private void numberLine(int line, int depth) {
            if (!program.isLine(line) || line >= Program.LINES_MOST) {
                pushLost();
                return;
            }
            if (states[line] == UNKNOWN) {
                run(line, 0.0, false, depth);
                keep(line);
            }
            if (states[line] == A_NUMBER) {
                push(results[line]);
            } else {
                pushLost();
            }
        }

        private void keep(int line) {
            if (top < 1 || line < 0 || line >= Program.LINES_MOST) {
                return;
            }
            top--;
            results[line] = values[top];
            states[line] = lost[top] ? NO_NUMBER_AT_ALL : A_NUMBER;
        }

        private void run(int line, double t, boolean tLost, int depth) {
            if (!program.isLine(line) || depth > Program.LINES_MOST) {
                pushLost();
                return;
            }
            int end = Math.min(program.ends[line], program.size);
            for (int place = Math.max(program.starts[line], 0); place < end; place++) {
                int op = program.ops[place];
                if (op == Program.VARIABLE) {
                    pushEither(t, tLost);
                } else {
                    place = Math.max(place, perform(op, place, depth));
                }
            }
        }

        /** The last place of the code that is dealt with by this. */
        private int perform(int op, int place, int depth) {
            int argument = program.argumentAt(place);
            switch (op) {
                case Program.CONSTANT:
                    push((double) argument);
                    return place;
                case Program.NUMBER_LINE:
                    numberLine(argument, depth + 1);
                    return place;
                case Program.CALL:
                    call(argument, depth + 1);
                    return place;
                case Program.NOUGHT:
                case Program.AREA:
                case Program.MOST:
                case Program.LEAST:
                    pushLost();
                    return place;
                case Program.NEGATE:
                case Program.ROOT:
                case Program.ABSOLUTE:
                    ofOne(op);
                    return place;
                case Program.IF_BELOW:
                case Program.IF_ABOVE:
                    return isBelow(op) ? place : argument;
                case Program.SECOND:
                    return argument;
                case Program.JOIN:
                    return place;
                default:
                    ofTwo(op);
                    return place;
            }
        }

        private void push(double value) {
            pushEither(value, false);
        }

        private void pushLost() {
            pushEither(0.0, true);
        }

        private void pushEither(double value, boolean isLost) {
            if (top < VALUES_MOST) {
                values[top] = value;
                lost[top] = isLost;
                top++;
            }
        }

        private void call(int line, int depth) {
            if (top >= 1) {
                top--;
                run(line, values[top], lost[top], depth);
            }
        }

        private boolean isBelow(int op) {
            if (top < 2) {
                return false;
            }
            top -= 2;
            if (lost[top] || lost[top + 1]) {
                return false;
            }
            return op == Program.IF_BELOW ? values[top] < values[top + 1] : values[top + 1] < values[top];
        }

        private void ofOne(int op) {
            if (top < 1) {
                return;
            }
            top--;
            double a = values[top];
            if (lost[top] || op == Program.ROOT && a < 0) {
                pushLost();
            } else if (op == Program.NEGATE) {
                push(-a);
            } else if (op == Program.ROOT) {
                push(a == 0 || infinite(a) ? a : root(a));
            } else {
                // 0 less a, since the machine's own abs of a nought below 0 is one above.
                push(a <= 0 ? 0.0 - a : a);
            }
        }

        private void ofTwo(int op) {
            if (top < 2) {
                return;
            }
            top -= 2;
            double a = values[top];
            double b = values[top + 1];
            if (lost[top] || lost[top + 1] || losesNumber(op, a, b)) {
                pushLost();
                return;
            }
            switch (op) {
                case Program.ADD:
                    push(a + b);
                    break;
                case Program.SUBTRACT:
                    push(a - b);
                    break;
                case Program.MULTIPLY:
                    push(a * b);
                    break;
                case Program.DIVIDE:
                    push(a / b);
                    break;
                case Program.GREATER_ONE:
                    push(greater(a, b));
                    break;
                default:
                    push(-greater(-a, -b));
                    break;
            }
        }

        /** Where the machine would give no number for two numbers. */
        private static boolean losesNumber(int op, double a, double b) {
            boolean bothInfinite = infinite(a) && infinite(b);
            switch (op) {
                case Program.ADD:
                    return bothInfinite && a > 0 != b > 0;
                case Program.SUBTRACT:
                    return bothInfinite && a > 0 == b > 0;
                case Program.MULTIPLY:
                    return infinite(a) && b == 0 || a == 0 && infinite(b);
                case Program.DIVIDE:
                    return bothInfinite || a == 0 && b == 0;
                default:
                    return false;
            }
        }

        private static boolean infinite(double a) {
            return a > 1.7976931348623157E308 || a < -1.7976931348623157E308;
        }

        private static double greater(double a, double b) {
            if (a == 0 && b == 0) {
                // A nought above 0 is the greater one, and it is what the sum of both is.
                return a + b;
            }
            return a >= b ? a : b;
        }

        /**
         * The double next to the root of a finite number above 0, as the machine's own root is. It
         * is worked out by whole numbers: steps with doubles could miss the last bit.
         */
        private static double root(double square) {
            double scaled = square;
            int twos = 0;
            // 2 to the 54 and to the 52: between them a double is a whole number.
            for (int k = 0; k < SCALINGS_MOST && scaled >= 18014398509481984.0; k++) {
                scaled = scaled * 0.25;
                twos++;
            }
            for (int k = 0; k < SCALINGS_MOST && scaled < 4503599627370496.0; k++) {
                scaled = scaled * 4.0;
                twos--;
            }
            double root = (double) wholeRoot((long) scaled);
            for (int k = ROOT_PAIRS - 1; k > twos; k--) {
                root = root * 0.5;
            }
            for (int k = ROOT_PAIRS - 1; k < twos; k++) {
                root = root * 2.0;
            }
            return root;
        }

        /** The root of a number from 2 to the 52 to 2 to the 54, times 2 to the 26, to the next whole. */
        private static long wholeRoot(long square) {
            long root = 0;
            long rest = 0;
            for (int pair = ROOT_PAIRS - 1; pair >= -ROOT_PAIRS; pair--) {
                rest = rest * 4 + (pair >= 0 ? square >> (2 * pair) & 3 : 0);
                long tried = root * 4 + 1;
                root = root * 2;
                if (rest >= tried) {
                    rest -= tried;
                    root++;
                }
            }
            // The last bit is a half; it can't be a tie, since the root of an even square is even.
            return (root + 1) >> 1;
        }
    }
}
