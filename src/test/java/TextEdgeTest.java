import java.nio.charset.StandardCharsets;

/** The boundary cases of promises 1 to 5 and 17, and of what a TEXT is, each sentence by itself. */
public final class TextEdgeTest {
    public static void main(String[] args) {
        promise1NewObject();
        promise2HowMany();
        promise2BeyondFull();
        promise2HighestFirst();
        promise2BytesAbove127();
        promise3FirstBytes();
        promise3EmptyThen();
        promise3NotSoMany();
        promise3InPlaceOfWhatWasTold();
        promise3NoneWithFault();
        promise3Lines();
        promise3FullTape();
        promise3Letters();
        promise3ToldOnce();
        promise3Words();
        promise3Numbers();
        promise3Bounds();
        promise3Blanks();
        promise3AheadAlone();
        promise3InFunctionsAlone();
        promise4LatestText();
        promise4AnotherWhat();
        promise4NoToken();
        promise4MoreMustCome();
        promise4BehindLAndWords();
        promise4NumberBeyond();
        promise4Lets13AndFuns7();
        promise4NinthBracket();
        promise4Knot97();
        promise4KnotsOfAllKinds();
        promise4ToldAlready();
        promise4NotTold();
        promise4OverOfNumber();
        promise4TNotInFunction();
        promise4SecondNotAbove();
        promise4FirstAlongTheText();
        promise4InEachPart();
        promise4OfOnePlaceTheLeast();
        promise4BracketBehindLetters();
        promise5Kinds();
        promise17Counts();
        lastOfAllCalls();
        fullTextsOneBehindAnother();
        Edge.finish();
    }

    private static void promise1NewObject() {
        Edge.promise(1, "No numbers, no functions; an empty TAPE.");
        SureSums x = new SureSums();
        for (int letter = 0; letter < 26; letter++) {
            Edge.due("kind(" + letter + ")", x.kind(letter), 0);
            Edge.due("span(" + letter + ", 4, 0)", x.span(letter, 4, 0), Edge.MIN);
            Edge.due("span(" + letter + ", 4, 2)", x.span(letter, 4, 2), Edge.MIN);
            Edge.due("at(" + letter + ", 0, 1, 4, 0)", x.at(letter, 0, 1, 4, 0), Edge.MIN);
            Edge.due("ask(" + letter + ", 0, 0)", x.ask(letter, 0, 0), Edge.MIN);
            Edge.due("digits(" + letter + ")", x.digits(letter), -1);
            Edge.due("exact(" + letter + ", 0)", x.exact(letter, 0), Edge.MIN);
            Edge.due("exact(" + letter + ", 1)", x.exact(letter, 1), Edge.MIN);
            Edge.due("compare(" + letter + ", " + letter + ")", x.compare(letter, letter), Edge.LEAST_INT);
            Edge.due("where(" + letter + ", 0, 1)", x.where(letter, 0, 1), 0);
            Edge.due("dot(" + letter + ", 0, 0)", x.dot(letter, 0, 0), -1);
            Edge.due("dots(" + letter + ", 0, 0, 1, 0)", x.dots(letter, 0, 0, 1, 0), -1);
            Edge.due("machine(" + letter + ") throws", Edge.thrownByMachine(x, letter), 2);
            Edge.due("off(" + letter + ")", x.off(letter), -1);
        }
        for (int what = 0; what < 4; what++) {
            Edge.due("count(" + what + ")", x.count(what), 0);
        }
        Edge.due("fault(0)", x.fault(0), 0);
        Edge.due("fault(1)", x.fault(1), -1);
        Edge.due("text(1)", x.text(1), -2);
        Edge.due("text(0)", x.text(0), 0);
        Edge.due("the first feed", x.feed(0, 0, 0, 0, 0), 20);
    }

    private static void promise2HowMany() {
        Edge.promise(2, "Twenty bytes come behind the TAPE, .. how many it has");
        SureSums x = new SureSums();
        for (int k = 1; k <= 25; k++) {
            Edge.due("feed " + k, x.feed(k, k, k, k, k), 20 * k);
        }
    }

    private static void promise2BeyondFull() {
        Edge.promise(2, "NONE, and none come, if it would have more than 500");
        SureSums x = new SureSums();
        Check.feed(x, " ".repeat(492) + "let a=7;");
        for (int k = 0; k < 3; k++) {
            Edge.due("feed beyond 500", x.feed(0x24242424, 0x24242424, 0x24242424, 0x24242424, 0x24242424), -1);
        }
        Edge.due("text(501)", x.text(501), -2);
        Edge.due("text(500) is what was there", x.text(500), 1);
        Edge.due("exact(0, 0)", x.exact(0, 0), 7);
        Edge.due("feed into the emptied TAPE", x.feed(0, 0, 0, 0, 0), 20);
        // 480 bytes: twenty more are 500, which is no more than 500
        SureSums y = new SureSums();
        Check.feed(y, " ".repeat(480));
        Edge.due("feed up to 500", y.feed(0, 0, 0, 0, 0), 500);
    }

    private static void promise2HighestFirst() {
        Edge.promise(2, "four of each number, the highest first");
        for (int place = 0; place < 20; place++) {
            Edge.due("the place of the one sign that is no token", placeOf(0x24, place, 1), place);
        }
    }

    /** Twenty blanks with one other byte among them, fed behind other blanks: where the fault is. */
    private static int placeOf(int one, int place, int feedsAhead) {
        int[] five = new int[5];
        for (int k = 0; k < 20; k++) {
            five[k / 4] = five[k / 4] << 8 | (k == place ? one : 32);
        }
        SureSums x = new SureSums();
        for (int k = 1; k < feedsAhead; k++) {
            x.feed(0x20202020, 0x20202020, 0x20202020, 0x20202020, 0x20202020);
        }
        x.feed(five[0], five[1], five[2], five[3], five[4]);
        Edge.due("text", x.text(20 * feedsAhead), -1);
        Edge.due("fault(0)", x.fault(0), 1);
        return x.fault(1);
    }

    private static void promise2BytesAbove127() {
        Edge.promise(2, "Twenty bytes come behind the TAPE, four of each number");
        // 138 and 160 are blanks less their highest bit, 225 a letter, 177 a digit, 187 the end of a line
        for (int one : new int[] {128, 138, 160, 177, 187, 225, 255}) {
            for (int place = 0; place < 4; place++) {
                Edge.due("the place of byte " + one, placeOf(one, place, 3), 40 + place);
            }
        }
        // the highest bit of a number stays in its own byte: blanks behind it are blanks
        SureSums x = new SureSums();
        x.feed(0x80202020, 0, 0, 0, 0);
        Edge.due("text(4)", x.text(4), -1);
        Edge.due("fault(1)", x.fault(1), 0);
        x.feed(-1, -1, -1, -1, -1);
        Edge.due("text(20) of bytes 255", x.text(20), -1);
        Edge.due("fault(1)", x.fault(1), 0);
    }

    private static void promise3FirstBytes() {
        Edge.promise(3, "The TAPE's first n bytes (it is empty then) are the TEXT");
        String lines = "let a=1;let b=2;$$$$";
        for (int n = 0; n <= 20; n++) {
            SureSums x = new SureSums();
            Check.feed(x, lines);
            boolean whole = n == 0 || n == 8 || n == 16;
            Edge.due("text(" + n + ")", x.text(n), whole ? n / 8 : -1);
            Edge.due("text(1) then", x.text(1), -2);
        }
        // what stands behind the first n bytes is no part of the last word or number
        String all = "fun f=sqrt(t);let a=abs(123)+max(nought(f,-64,64),min(7,if(1<2,area(f,10,20),most(f,0,999))));let b=least(f,1,64);";
        for (int n = 0; n <= all.length(); n++) {
            SureSums x = new SureSums();
            SureSums alone = new SureSums();
            Check.feed(x, all);
            Edge.due("text(" + n + ") of more", x.text(n), Check.tell(alone, all.substring(0, n)));
            Edge.due("fault(0)", x.fault(0), alone.fault(0));
            Edge.due("fault(1)", x.fault(1), alone.fault(1));
        }
        cut("let a=100;", 8, 1, 8);
        cut("let a=1000;", 9, 1, 9);
        cut("let a=sqrt(1);", 7, 3, 6);
        cut("let a=sqrt(1);", 8, 1, 6);
        cut("let a=1;let b=ab;", 15, 1, 15);
    }

    /** The fault of a text of n bytes where the TAPE has more. */
    private static void cut(String tape, int n, int kind, int place) {
        SureSums x = new SureSums();
        Check.feed(x, tape);
        Edge.due("text(" + n + ") of " + tape, x.text(n), -1);
        Edge.due("fault(0)", x.fault(0), kind);
        Edge.due("fault(1)", x.fault(1), place);
    }

    private static void promise3EmptyThen() {
        Edge.promise(3, "(it is empty then)");
        SureSums x = new SureSums();
        for (int n : new int[] {0, 1, 8, 40}) {
            Check.feed(x, "let a=1;                                ");
            x.text(n);
            Edge.due("text(1) behind text(" + n + ")", x.text(1), -2);
            Edge.due("text(0) behind it", x.text(0), 0);
            Edge.due("feed behind it", x.feed(0, 0, 0, 0, 0), 20);
            Edge.due("a text with a fault", x.text(20), -1);
            Edge.due("text(1) behind the fault", x.text(1), -2);
        }
    }

    private static void promise3NotSoMany() {
        Edge.promise(3, "-2, and the TAPE stays: there are not so many, n is below 0");
        SureSums x = Edge.told("let z=5;");
        Check.feed(x, "let a=1;let b=2;    let c=3;    ");
        for (int n : new int[] {41, 42, 60, 500, 501, 65576, Edge.MOST_INT, -1, -20, -40, Edge.LEAST_INT, Edge.LEAST_INT + 40}) {
            Edge.due("text(" + n + ")", x.text(n), -2);
            Edge.due("kind(25), as before", x.kind(25), 1);
            Edge.due("kind(0), as before", x.kind(0), 0);
        }
        Edge.due("feed: the TAPE has stayed", x.feed(0, 0, 0, 0, 0), 60);
        Edge.due("text(32)", x.text(32), 3);
        Edge.due("text(-1) of an empty TAPE", x.text(-1), -2);
        Edge.due("text(1) of an empty TAPE", x.text(1), -2);
    }

    private static void promise3InPlaceOfWhatWasTold() {
        Edge.promise(3, "are the TEXT, in place of what was told");
        SureSums x = Edge.told("let a=1;fun b=t;let c=sqrt(2);");
        Edge.due("text", Check.tell(x, "fun a=t;let c=7/2;"), 2);
        Edge.due("kind(a)", x.kind(0), 2);
        Edge.due("kind(b)", x.kind(1), 0);
        Edge.due("exact(c, 0)", x.exact(2, 0), 7);
        Edge.due("machine(a) throws", Edge.thrownByMachine(x, 0), 2);
        Edge.dueDouble("machine(c)", x.machine(2), 3.5);
        Edge.due("text(0)", x.text(0), 0);
        for (int letter = 0; letter < 26; letter++) {
            Edge.due("kind(" + letter + ") behind an empty text", x.kind(letter), 0);
        }
        for (int what = 0; what < 4; what++) {
            Edge.due("count(" + what + ") behind an empty text", x.count(what), 0);
        }
        Edge.due("what was told is no more told ahead", Check.tell(x, "let b=c;"), -1);
        Edge.due("fault(0)", x.fault(0), 3);
        // nothing of a text goes on in the next one: what was EXACT, how many brackets were open, how many KNOTS there were
        Edge.due("a text", Check.tell(x, "let a=1;let b=2;let c=a+b;"), 3);
        Edge.due("exact(c, 0)", x.exact(2, 0), 3);
        Edge.due("another", Check.tell(x, "let a=sqrt(1);let b=1;let c=a+b;"), 3);
        Edge.due("exact(a, 0)", x.exact(0, 0), Edge.MIN);
        Edge.due("exact(b, 0)", x.exact(1, 0), 1);
        Edge.due("exact(c, 0)", x.exact(2, 0), Edge.MIN);
        Edge.due("compare(a, b)", x.compare(0, 1), 1);
        Edge.due("brackets left open", Check.tell(x, "let a=((((((((1"), -1);
        Edge.due("as many again", Check.tell(x, "let a=" + "(".repeat(8) + "1" + ")".repeat(8) + ";"), 1);
        Edge.due("too many KNOTS", Check.tell(x, "let a=" + Edge.ones(97) + ";"), -1);
        Edge.due("as many as there may be", Check.tell(x, "let a=-" + Edge.ones(95) + ";"), 1);
        Edge.due("as many again", Check.tell(x, "let a=-" + Edge.ones(95) + ";"), 1);
        Edge.due("count(2)", x.count(2), 96);
        Edge.due("too many LINES", Check.tell(x, lines("let ", "abcdefghijkl") + "let"), -1);
        Edge.due("as many as there may be", Check.tell(x, lines("let ", "abcdefghijkl")), 12);
    }

    private static void promise3NoneWithFault() {
        Edge.promise(3, "NONE with a FAULT");
        SureSums x = Edge.told("let a=5;fun f=t+a;let b=f(a)/3;");
        String[] faulty = {"let", "let a=1000;", "fun a=t;let f=1;let c=z;", "let b=1;let b=2;", ";"};
        for (String text : faulty) {
            Edge.due("text of " + text, Check.tell(x, text), -1);
            Edge.due("kind(a)", x.kind(0), 1);
            Edge.due("kind(b)", x.kind(1), 1);
            Edge.due("kind(c)", x.kind(2), 0);
            Edge.due("kind(f)", x.kind(5), 2);
            Edge.due("count(0)", x.count(0), 2);
            Edge.due("count(1)", x.count(1), 1);
            Edge.due("count(2)", x.count(2), 8);
            Edge.due("count(3)", x.count(3), 3);
            Edge.due("span(b, 4, 0)", x.span(1, 4, 0), 53);
            Edge.due("at(f, 1, 1, 4, 0)", x.at(5, 1, 1, 4, 0), 96);
            Edge.due("exact(a, 0)", x.exact(0, 0), 5);
            Edge.dueDouble("machine(b)", x.machine(1), 10.0 / 3.0);
        }
    }

    private static void promise3Lines() {
        Edge.promise(3, "how many LINES");
        StringBuilder text = new StringBuilder();
        SureSums x = new SureSums();
        Edge.due("no LINES", Check.tell(x, ""), 0);
        Edge.due("no LINES but blanks", Check.tell(x, " \n "), 0);
        for (int lines = 1; lines <= 18; lines++) {
            char letter = (char) (lines <= 12 ? 'a' + lines - 1 : 'm' + lines - 12);
            text.append(lines <= 12 ? "let " : "fun ").append(letter).append("=1;");
            Edge.due("text of " + text, Check.tell(x, text.toString()), lines);
        }
    }

    private static void promise3FullTape() {
        Edge.promise(3, "The TAPE's first n bytes .. are the TEXT");
        String start = "let a=12;" + " ".repeat(479);
        SureSums x = new SureSums();
        Edge.due("500 bytes", Check.tell(x, start + "let b=a*999;"), 2);
        Edge.due("exact(b)", x.exact(1, 0), 11988);
        Edge.due("500 bytes", Check.tell(x, start + "let b=a*1000"), -1);
        Edge.due("fault(0)", x.fault(0), 2);
        Edge.due("fault(1)", x.fault(1), 496);
        Edge.due("500 bytes, and more must come", Check.tell(x, start + " let b=a*999"), -1);
        Edge.due("fault(0)", x.fault(0), 1);
        Edge.due("fault(1)", x.fault(1), 500);
        Edge.due("500 digits", Check.tell(x, "let a=" + "0".repeat(491) + "42;"), 1);
        Edge.due("exact(a)", x.exact(0, 0), 42);
        Edge.due("500 digits, too much", Check.tell(x, "let a=" + "9".repeat(494)), -1);
        Edge.due("fault(0)", x.fault(0), 2);
        Edge.due("fault(1)", x.fault(1), 6);
        Edge.due("one word", Check.tell(x, "l".repeat(500)), -1);
        Edge.due("fault(1)", x.fault(1), 0);
        Edge.due("500 tokens", Check.tell(x, ";".repeat(500)), -1);
        Edge.due("fault(1)", x.fault(1), 0);
    }

    private static void promise3Letters() {
        Edge.promise(3, "L: a letter a .. z, but t");
        for (int sign = 0; sign < 256; sign++) {
            String one = new String(new byte[] {(byte) sign}, StandardCharsets.ISO_8859_1);
            boolean letter = sign >= 'a' && sign <= 'z' && sign != 't';
            if (sign == 10 || sign == 32) {
                Edge.fault("let " + one + "=1;", 1, 5);
                Edge.fault("fun " + one + "=1;", 1, 5);
            } else if (letter) {
                Edge.due("kind of " + one, Edge.told("let " + one + "=1;").kind(sign - 'a'), 1);
                Edge.due("kind of " + one, Edge.told("fun " + one + "=1;").kind(sign - 'a'), 2);
            } else {
                Edge.fault("let " + one + "=1;", 1, 4);
                Edge.fault("fun " + one + "=1;", 1, 4);
            }
        }
    }

    private static void promise3ToldOnce() {
        Edge.promise(3, "each told once, at most 12 numbers (let) and 6 functions (fun)");
        String lets = lines("let ", "abcdefghijkl");
        String funs = lines("fun ", "mnopqr");
        Edge.due("12 numbers", Edge.told(lets).count(0), 12);
        Edge.due("6 functions", Edge.told(funs).count(1), 6);
        Edge.due("both", Edge.told(lets + funs).count(3), 18);
        Edge.due("both", Edge.told(funs + lets).count(3), 18);
        Edge.fault("let a=1;let a=1;", 3, 12);
        Edge.fault(lets + "fun l=1;", 3, 100);
    }

    private static String lines(String word, String letters) {
        StringBuilder made = new StringBuilder();
        for (char letter : letters.toCharArray()) {
            made.append(word).append(letter).append("=1;");
        }
        return made.toString();
    }

    private static void promise3Words() {
        Edge.promise(3, "Words: small letters in a row (a L is a row of one)");
        Edge.good("let a=1;let b=a;");
        Edge.fault("let a=1;let b=aa;", 1, 14);
        Edge.fault("let a=1;let b=a a;", 1, 16);
        Edge.fault("leta=1;", 1, 0);
        Edge.fault("le t a=1;", 1, 0);
        Edge.fault("let ab=1;", 1, 4);
        Edge.fault("fun f=tt;", 1, 6);
        Edge.fault("let a=s qrt(1);", 3, 6);
        Edge.fault("let a=1;letb=1;", 1, 8);
        // a digit ends a word, and a letter a number
        Edge.fault("let1=1;", 1, 3);
        Edge.fault("let a=1b;", 1, 7);
    }

    private static void promise3Numbers() {
        Edge.promise(3, "N: digits, 0 .. 999");
        for (int n : new int[] {0, 1, 9, 10, 99, 100, 998, 999}) {
            Edge.due("N " + n, Edge.told("let a=" + n + ";").exact(0, 0), n);
            Edge.due("N 00" + n, Edge.told("let a=00" + n + ";").exact(0, 0), n);
        }
        Edge.fault("let a=/1;", 1, 6);
        Edge.fault("let a=:;", 1, 6);
        Edge.fault("let a=1:;", 1, 7);
    }

    private static void promise3Bounds() {
        Edge.promise(3, "N: digits, .. (of an I 0 .. 64)");
        for (int[] both : new int[][] {{-64, 64}, {-64, -63}, {63, 64}, {-1, 0}, {0, 1}, {-64, 0}, {0, 64}, {-1, 1}}) {
            SureSums x = Edge.told("fun f=t;let a=least(f," + both[0] + "," + both[1] + ");");
            Edge.due("LOW from " + both[0] + " to " + both[1], x.span(0, 4, 0), both[0] * 16L);
        }
        Edge.good("fun f=t;let a=area(f,-064,0064);");
        Edge.good("fun f=t;let a=area(f, - 1 , - 0 );");
    }

    private static void promise3Blanks() {
        Edge.promise(3, "Blanks 10, 32.");
        for (int sign = 0; sign < 256; sign++) {
            String one = new String(new byte[] {(byte) sign}, StandardCharsets.ISO_8859_1);
            if (sign == 10 || sign == 32) {
                Edge.good(one + "let" + one + one + "a" + one + "=1" + one + ";" + one);
                Edge.fault("let a=1" + one + "1;", 1, 8);
            } else {
                Edge.fault(one, 1, 0);
                behindNumber(sign, "let a=1" + one + ";");
            }
        }
    }

    /** The sign stands behind a number and ahead of the line's end. */
    private static void behindNumber(int sign, String text) {
        if (sign >= '0' && sign <= '9') {
            Edge.good(text);
        } else if ("+-*/;".indexOf(sign) >= 0) {
            Edge.fault(text, 1, 8);
        } else {
            Edge.fault(text, 1, 7);
        }
    }

    private static void promise3AheadAlone() {
        Edge.promise(3, "A LINE may have numbers and functions told in LINES ahead alone");
        Edge.good("let a=1;let b=a;let c=a+b;");
        Edge.good("fun f=t;fun g=f(t);let a=g(1);fun h=a*t;");
        Edge.fault("let a=a;", 3, 6);
        Edge.fault("let a=b;let b=1;", 3, 6);
        Edge.fault("fun f=f(t);", 3, 6);
        Edge.fault("fun f=g(t);fun g=t;", 3, 6);
        Edge.fault("fun f=area(f,0,1);", 3, 11);
        Edge.fault("let a=1+a;", 3, 8);
    }

    private static void promise3InFunctionsAlone() {
        Edge.promise(3, "t stands in functions alone");
        Edge.good("fun f=t;");
        Edge.fault("let a=t;", 3, 6);
        Edge.fault("fun f=t;let a=t;", 3, 14);
        Edge.fault("fun f=t;let a=f(t);", 3, 16);
        Edge.good("fun f=t;let a=1;fun g=t+f(t);");
    }

    private static void promise4LatestText() {
        Edge.promise(4, "Of the latest text() that was not -2, what 0: its FAULT (0), 1: its place (NONE without).");
        SureSums x = new SureSums();
        Edge.due("text(-1)", x.text(-1), -2);
        Edge.due("fault(0) as of a new object", x.fault(0), 0);
        Edge.due("fault(1)", x.fault(1), -1);
        Edge.due("text with a fault at 0", Check.tell(x, "$"), -1);
        for (int n : new int[] {-1, 1, 501}) {
            Edge.due("text(" + n + ")", x.text(n), -2);
            Edge.due("fault(0) stays", x.fault(0), 1);
            Edge.due("fault(1) stays", x.fault(1), 0);
        }
        Edge.due("text with another", Check.tell(x, "let a=z;"), -1);
        Edge.due("fault(0)", x.fault(0), 3);
        Edge.due("fault(1)", x.fault(1), 6);
        Edge.due("feed", x.feed(0, 0, 0, 0, 0), 20);
        Edge.due("fault(1) behind feed", x.fault(1), 6);
        Edge.due("text without", x.text(0), 0);
        Edge.due("fault(0)", x.fault(0), 0);
        Edge.due("fault(1)", x.fault(1), -1);
    }

    private static void promise4AnotherWhat() {
        Edge.promise(4, "NONE for another what.");
        SureSums x = new SureSums();
        Check.tell(x, "let a=1000;");
        for (int what : new int[] {-1, 2, 3, 256, 65536, Edge.LEAST_INT, Edge.MOST_INT}) {
            Edge.due("fault(" + what + ")", x.fault(what), -1);
        }
        Edge.due("fault(0)", x.fault(0), 2);
        Edge.due("fault(1)", x.fault(1), 6);
    }

    private static void promise4NoToken() {
        Edge.promise(4, "1 a TOKEN that is none (a word that is none of these, too) or can't stand there");
        for (String word : "le lett fu func sqr sqrtt ab abss ma maxx mi mins iff nough noughts are areas mos mostt leas leasts".split(" ")) {
            Edge.fault("let a=" + word + "(1);", 1, 6);
            Edge.fault(word + " a=1;", 1, 0);
        }
        for (String word : "let fun sqrt abs max min if nought area most least".split(" ")) {
            if (!word.equals("let") && !word.equals("fun")) {
                Edge.fault(word + " a=1;", 1, 0);
            }
            Edge.fault("let " + word + "=1;", 1, 4);
            Edge.fault("let a=1 " + word + ";", 1, 8);
        }
        for (String sign : "= ; + * / ) , < >".split(" ")) {
            Edge.fault("let a=" + sign + "1;", 1, 6);
            Edge.fault("let a=-" + sign + "1;", 1, 7);
            Edge.fault("let a=(" + sign + "1);", 1, 7);
        }
        for (String sign : "= , < > ( )".split(" ")) {
            Edge.fault("let a=1" + sign + "1;", 1, 7);
        }
        Edge.fault("let a=sqrt();", 1, 11);
        Edge.fault("let a=sqrt(1,1);", 1, 12);
        Edge.fault("let a=max(1);", 1, 11);
        Edge.fault("let a=max(1,2,3);", 1, 13);
        Edge.fault("let a=if(1,2,3);", 1, 10);
        Edge.fault("let a=if(1<2);", 1, 12);
        Edge.fault("let a=if(1<2,3);", 1, 14);
        Edge.fault("let a=if(1<2,3,4,5);", 1, 16);
        Edge.fault("let a=if(1<2>3,4,5);", 1, 12);
        Edge.fault("fun f=t;let a=area(f,0);", 1, 22);
        Edge.fault("fun f=t;let a=area(f,0,1,2);", 1, 24);
        Edge.fault("fun f=t;let a=area(f,--1,1);", 1, 22);
        Edge.fault("fun f=t;let a=area(f,+1,2);", 1, 21);
        Edge.fault("let b=1;fun f=t;let a=area(f,b,2);", 1, 29);
    }

    /** A text cut at each place: n bytes of it, and the same with a blank behind them. */
    private static void promise4MoreMustCome() {
        Edge.promise(4, "the length, if more must come;");
        String text = "let a=(-2)*(3+4);";
        for (int n = 3; n < text.length(); n++) {
            Edge.fault(text.substring(0, n), 1, n);
            Edge.fault(text.substring(0, n) + " \n", 1, n + 2);
        }
        String over = "fun f=t;let a=area(f,-1,2);";
        for (int n : new int[] {3, 4, 5, 6, 7, 11, 12, 13, 14, 18, 19, 20, 21, 22, 23, 24, 25, 26}) {
            Edge.fault(over.substring(0, n), 1, n);
        }
        String choice = "let a=if(1<2,max(3,4),5);";
        for (int n : new int[] {8, 9, 10, 11, 12, 13, 16, 17, 18, 19, 20, 21, 22, 23, 24}) {
            Edge.fault(choice.substring(0, n), 1, n);
        }
        Edge.fault("let a=1;let", 1, 11);
        Edge.fault("let a=1;fun ", 1, 12);
    }

    private static void promise4BehindLAndWords() {
        Edge.promise(4, "= behind L, ( behind a word that wants it)");
        Edge.fault("let a", 1, 5);
        Edge.fault("let a 1;", 1, 6);
        Edge.fault("let a;", 1, 5);
        Edge.fault("let a+1;", 1, 5);
        Edge.fault("fun f(t)=t;", 1, 5);
        for (String word : "sqrt abs max min if nought area most least".split(" ")) {
            int behind = 6 + word.length();
            Edge.fault("let a=" + word, 1, behind);
            Edge.fault("let a=" + word + ";", 1, behind);
            Edge.fault("let a=" + word + " 1;", 1, behind + 1);
            Edge.fault("let a=" + word + ")", 1, behind);
            Edge.fault("let a=" + word + word.charAt(0) + "(1);", 1, 6);
        }
    }

    private static void promise4NumberBeyond() {
        Edge.promise(4, "2 too much (at it): a number beyond what is said");
        String[] beyond = {"1000", "0001000", "1001", "9999", "65536", "65537", "2147483647", "2147483648", "4294967296", "4294967297",
            "9223372036854775808", "18446744073709551616", "18446744073709551617", "1000000000000000000000000000000000000000"};
        for (String n : beyond) {
            Edge.fault("let a=" + n + ";", 2, 6);
            Edge.fault("let a= 1 - " + n, 2, 11);
            Edge.fault("fun f=t;let a=area(f," + n + ",1);", 2, 21);
            Edge.fault("fun f=t;let a=area(f,0,-" + n + ");", 2, 24);
        }
        Edge.fault("fun f=t;let a=area(f,65,66);", 2, 21);
        Edge.fault("fun f=t;let a=area(f,-65,6);", 2, 22);
        Edge.fault("fun f=t;let a=area(f,0,65);", 2, 23);
        Edge.fault("fun f=t;let a=area(f,-64,999);", 2, 25);
        Edge.fault("fun f=t;let a=area(f,0,-65);", 2, 24);
    }

    private static void promise4Lets13AndFuns7() {
        Edge.promise(4, "a 13th let, a 7th fun (at the word)");
        String lets = lines("let ", "abcdefghijkl");
        String funs = lines("fun ", "mnopqr");
        Edge.fault(lets + "let", 2, 96);
        Edge.fault(lets + "let z=1;", 2, 96);
        Edge.fault(lets + " let a=1;", 2, 97);
        Edge.fault(lets + funs + "let z=1;", 2, 144);
        Edge.fault(funs + "fun", 2, 48);
        Edge.fault(funs + "fun z=1;", 2, 48);
        Edge.fault(funs + lets + "fun z=1;", 2, 144);
        Edge.fault(lets + funs + "x", 1, 144);
        Edge.good(lets + "fun z=1;");
        Edge.good(funs + "let z=1;");
    }

    private static void promise4NinthBracket() {
        Edge.promise(4, "a ninth '(' open (of any kind)");
        String eight = "(".repeat(8);
        String closed = ")".repeat(8);
        Edge.good("let a=" + eight + "1" + closed + ";");
        Edge.good("let a=" + eight + "1" + closed + "+" + eight + "1" + closed + ";let b=" + eight + "1" + closed + ";");
        Edge.good("let a=" + "((1)+".repeat(7) + "(1)" + ")".repeat(7) + ";");
        Edge.fault("let a=" + eight + "(", 2, 14);
        Edge.fault("fun f=t;let a=" + eight + "f(", 2, 23);
        for (String word : "sqrt abs max min if nought area most least".split(" ")) {
            Edge.fault("let a=" + eight + word + "(", 2, 14 + word.length());
            String nine = "let a=" + "abs(".repeat(8) + word;
            Edge.fault(nine + "(", 2, nine.length());
        }
        Edge.good("fun f=t;let a=" + "f(".repeat(8) + "1" + closed + ";");
        Edge.good("let a=" + "max(0,".repeat(8) + "1" + closed + ";");
        Edge.good("let a=" + "if(0<1,".repeat(8) + "1" + ",1)".repeat(8) + ";");
        Edge.good("fun f=t;let a=" + "(".repeat(7) + "area(f,0,1)" + ")".repeat(7) + ";");
        Edge.good("let a=" + "(".repeat(7) + "(1)-(1)" + ")".repeat(7) + ";");
    }

    private static void promise4Knot97() {
        Edge.promise(4, "a 97th KNOT of the whole text");
        Edge.due("96 KNOTS", Edge.told("let a=-" + Edge.ones(95) + ";").count(2), 96);
        Edge.fault("let a=--" + Edge.ones(95) + ";", 2, 6 + 96);
        Edge.fault("let a=" + Edge.ones(95) + "+1;", 2, 6 + 96);
        Edge.due("96 - and nothing else", Edge.told("let a=" + "-".repeat(95) + "1;").count(2), 96);
        Edge.fault("let a=" + "-".repeat(96) + "1;", 2, 6 + 96);
        Edge.fault("let a=" + "-".repeat(97) + "1;", 2, 6 + 96);
        // over all LINES: 8 of 11 knots each are 88, and 7 more are 95
        StringBuilder lines = new StringBuilder();
        for (char letter = 'a'; letter < 'i'; letter++) {
            lines.append("let ").append(letter).append('=').append(Edge.ones(11)).append(';');
        }
        lines.append("fun i=").append(Edge.ones(7)).append(';');
        Edge.due("95 KNOTS", Edge.told(lines.toString()).count(2), 95);
        Edge.due("96 KNOTS", Edge.told(lines + "let z=1;").count(2), 96);
        Edge.fault(lines + "let z=1;let y=1;", 2, lines.length() + 8 + 6);
        // too much comes ahead of what must come, and the text up to it is good
        Edge.fault(lines + "let z=1+", 2, lines.length() + 7);
    }

    /** Each kind of knot as the 96th, and as the 97th. */
    private static void promise4KnotsOfAllKinds() {
        Edge.promise(4, "(each P that isn't in mere ( ), each + - * / between two, each - ahead of one; the < or > of an if is none of its own)");
        String ahead95 = "fun f=t;let b=1;let c=" + Edge.ones(93) + ";";
        String ahead96 = "fun f=t;let b=1;let c=-" + Edge.ones(93) + ";";
        int at95 = ahead95.length() + 6;
        int at96 = ahead96.length() + 6;
        for (String alone : new String[] {"1", "b", "nought(f,0,1)", "area(f,0,1)", "most(f,0,1)", "least(f,-1,1)", "((((1))))", "(b)"}) {
            Edge.due("96 KNOTS with " + alone, Edge.told(ahead95 + "let a=" + alone + ";").count(2), 96);
            int brackets = alone.lastIndexOf('(') == 0 || alone.startsWith("((") ? alone.lastIndexOf('(') + 1 : 0;
            Edge.fault(ahead96 + "let a=" + alone + ";", 2, at96 + brackets);
        }
        Edge.due("96 KNOTS with t", Edge.told(ahead95 + "fun a=t;").count(2), 96);
        Edge.fault(ahead96 + "fun a=t;", 2, at96);
        for (String word : new String[] {"sqrt(", "abs(", "max(", "min(", "if(", "f(", "-"}) {
            Edge.fault(ahead95 + "let a=" + word + "1", 2, at95 + word.length());
            Edge.fault(ahead96 + "let a=" + word + "1", 2, at96);
        }
        for (String sign : new String[] {"+", "-", "*", "/"}) {
            Edge.fault(ahead95 + "let a=1" + sign + "1;", 2, at95 + 1);
            Edge.fault(ahead95 + "let a=b " + sign + "1;", 2, at95 + 2);
        }
        String ahead91 = "let c=" + Edge.ones(91) + ";";
        Edge.due("an if of 5 KNOTS", Edge.told(ahead91 + "let a=if(1<1,1,1);").count(2), 96);
        Edge.due("an if of 5 KNOTS", Edge.told(ahead91 + "let a=if(1>1,1,1);").count(2), 96);
        Edge.fault("let c=-" + Edge.ones(91) + ";let a=if(1<1,1,1);", 2, 6 + 92 + 1 + 6 + 9);
    }

    private static void promise4ToldAlready() {
        Edge.promise(4, "3 a L told already (behind let, fun)");
        Edge.fault("let a=1;let a=2;", 3, 12);
        Edge.fault("let a=1;fun a=2;", 3, 12);
        Edge.fault("fun a=1;let a=2;", 3, 12);
        Edge.fault("fun a=1;fun a", 3, 12);
        Edge.fault("let z=1;let a=1;let \n z", 3, 22);
    }

    private static void promise4NotTold() {
        Edge.promise(4, "a L that isn't told ahead");
        Edge.fault("let a=b;", 3, 6);
        Edge.fault("let a=b(1);", 3, 6);
        Edge.fault("let a=1;let b=a+z;", 3, 16);
        Edge.fault("let a=area(f,0,1);", 3, 11);
        Edge.fault("let a=area(a,0,1);", 3, 11);
        Edge.fault("let a=1;let c=a+c", 3, 16);
    }

    private static void promise4OverOfNumber() {
        Edge.promise(4, "in OVER that of a number (at it)");
        for (String word : "nought area most least".split(" ")) {
            Edge.fault("let b=1;let a=" + word + "(b,0,1);", 3, 15 + word.length());
            Edge.fault("let b=1;fun a=" + word + "( b", 3, 16 + word.length());
            Edge.good("fun b=1;let a=" + word + "(b,0,1);");
        }
    }

    private static void promise4TNotInFunction() {
        Edge.promise(4, "t not in a function");
        Edge.fault("let a=t;", 3, 6);
        Edge.fault("let a=1+(2*-t);", 3, 12);
        Edge.fault("fun f=t;let a=f(1)+t;", 3, 19);
        Edge.fault("let a=t(1);", 3, 6);
        Edge.fault("fun a=t(1);", 1, 7);
    }

    private static void promise4SecondNotAbove() {
        Edge.promise(4, "the second I not above the first (at its N)");
        Edge.fault("fun f=t;let a=area(f,0,0);", 3, 23);
        Edge.fault("fun f=t;let a=area(f,1,0);", 3, 23);
        Edge.fault("fun f=t;let a=area(f,0,-1);", 3, 24);
        Edge.fault("fun f=t;let a=area(f,0,-0);", 3, 24);
        Edge.fault("fun f=t;let a=area(f,-0,0);", 3, 24);
        Edge.fault("fun f=t;let a=area(f,-1,- \n 1);", 3, 28);
        Edge.fault("fun f=t;let a=area(f,-63,-64);", 3, 26);
        Edge.fault("fun f=t;let a=area(f,-64,-64);", 3, 26);
        Edge.fault("fun f=t;let a=area(f,64,64);", 3, 24);
        Edge.fault("fun f=t;let a=area(f,64,-64", 3, 25);
        Edge.good("fun f=t;let a=area(f,-64,-63);");
        Edge.good("fun f=t;let a=area(f,63,64);");
        Edge.good("fun f=t;let a=area(f,-1,0);");
    }

    private static void promise4FirstAlongTheText() {
        Edge.promise(4, "FAULTS, the first along the text");
        Edge.fault("let a=z+1000+$", 3, 6);
        Edge.fault("let a=1000+z+$", 2, 6);
        Edge.fault("let a=$+1000+z", 1, 6);
        Edge.fault("let a=1 let a=2;", 1, 8);
        Edge.fault("let a=1;let a=1000;", 3, 12);
        Edge.fault("let b=1;let a=area(b,65,64);", 3, 19);
        Edge.fault("fun f=t;let a=area(f,65,z);", 2, 21);
        Edge.fault("let a=(((((((((((1;", 2, 14);
        Edge.fault("let a=(1;let a=2;", 1, 8);
    }

    /** A fault in each part of each E, with a good text ahead of it and another fault behind it. */
    private static void promise4InEachPart() {
        Edge.promise(4, "FAULTS, the first along the text .. with its place");
        String[] parts = {"?", "(?)", "-?", "?+1", "1+?", "?-1", "1-?", "?*1", "1*?", "?/1", "1/?", "sqrt(?)", "abs(?)", "max(?,1)", "max(1,?)",
            "min(?,1)", "min(1,?)", "if(?<1,2,3)", "if(1<?,2,3)", "if(1>2,?,3)", "if(1>2,3,?)", "f(?)", "f(1)+f(?)", "-(1-(2*?))"};
        for (String part : parts) {
            String ahead = "fun f=t;let b=1;let a=" + part.substring(0, part.indexOf('?'));
            String behind = part.substring(part.indexOf('?') + 1) + ";let c=$";
            int place = ahead.length();
            Edge.fault(ahead + "z" + behind, 3, place);
            Edge.fault(ahead + "t" + behind, 3, place);
            Edge.fault(ahead + "1000" + behind, 2, place);
            Edge.fault(ahead + "$" + behind, 1, place);
            Edge.fault(ahead + "sqrt" + behind, 1, place + 4);
            Edge.fault(ahead + "area(b" + behind, 3, place + 5);
            Edge.fault(ahead + "area(f,65" + behind, 2, place + 7);
            Edge.fault(ahead + "area(f,0,0" + behind, 3, place + 9);
            Edge.fault(ahead + "area(f,0,1" + behind.replace(")", ";"), 1, place + 10);
            Edge.fault(ahead + "b" + behind, 1, (ahead + "b" + behind).indexOf('$'));
            Edge.fault(ahead, 1, place);
        }
    }

    private static void promise4OfOnePlaceTheLeast() {
        Edge.promise(4, "(of one place the least)");
        String full = "let b=-" + Edge.ones(95) + ";";
        int behind = full.length() + 6;
        Edge.fault(full + "let a=z;", 2, behind);
        Edge.fault(full + "let a=t;", 2, behind);
        Edge.fault(full + "let a=a;", 2, behind);
        Edge.fault(full + "let a=1000;", 2, behind);
        Edge.fault(full + "let a=foo;", 1, behind);
        Edge.fault(full + "let a=;", 1, behind);
        Edge.fault(full + "let a=let;", 1, behind);
        Edge.fault(full + "let a=", 1, behind);
        Edge.fault("let a=1 1000;", 1, 8);
        Edge.fault("let 1000=1;", 1, 4);
        Edge.fault("1000", 1, 0);
        Edge.fault("let a=((((((((1(", 1, 15);
        Edge.fault("fun f=t;let a=area(f,0,-65);", 2, 24);
        Edge.fault("fun f=t;let a=area(f,64,1000);", 2, 24);
        Edge.fault("let a=area(t,0,1);", 1, 11);
        Edge.fault("let a=1;let a 1000;", 3, 12);
        Edge.fault(lines("let ", "abcdefghijkl") + "let a=1;", 2, 96);
    }

    private static void promise4BracketBehindLetters() {
        Edge.promise(4, "(Behind a function's L a ( must come, unless it is in OVER; behind a number's none can.)");
        Edge.fault("fun f=t;let a=f;", 1, 15);
        Edge.fault("fun f=t;let a=f", 1, 15);
        Edge.fault("fun f=t;let a=f+1;", 1, 15);
        Edge.fault("fun f=t;let a=f();", 1, 16);
        Edge.fault("fun f=t;let a=f(1,2);", 1, 17);
        Edge.fault("fun f=t;let a=area(f(1),0,1);", 1, 20);
        Edge.fault("let b=1;let a=b(1);", 1, 15);
        Edge.fault("let b=1;let a=b (1);", 1, 16);
        Edge.good("fun f=t;let a=f(1)+area(f,0,1);");
        Edge.good("fun f=t;let a=f \n (1);");
    }

    private static void promise5Kinds() {
        Edge.promise(5, "What a letter 0 .. 25 is: 0 nothing, 1 a number, 2 a function; NONE: no such one.");
        SureSums x = Edge.told("let a=1;fun z=t;let s=2;fun u=1;");
        for (int letter = 0; letter < 26; letter++) {
            int due = letter == 0 || letter == 18 ? 1 : letter == 25 || letter == 20 ? 2 : 0;
            Edge.due("kind(" + letter + ")", x.kind(letter), due);
        }
        for (int letter : Edge.NO_LETTERS) {
            Edge.due("kind(" + letter + ")", x.kind(letter), -1);
            Edge.due("kind(" + letter + ") of a new object", new SureSums().kind(letter), -1);
        }
    }

    private static void promise17Counts() {
        Edge.promise(17, "0 numbers, 1 functions, 2 KNOTS, 3 LINES.");
        SureSums x = Edge.told("let a=(1);fun f=-t;fun g=f(t)*area(f,0,1);");
        Edge.due("count(0)", x.count(0), 1);
        Edge.due("count(1)", x.count(1), 2);
        Edge.due("count(2)", x.count(2), 1 + 2 + 4);
        Edge.due("count(3)", x.count(3), 3);
        Edge.due("text with a fault", Check.tell(x, "let b=1;let c=2+"), -1);
        Edge.due("count(2) behind it", x.count(2), 7);
        Edge.due("text with no LINE", x.text(0), 0);
        Edge.due("count(2) behind it", x.count(2), 0);
        Edge.promise(17, "NONE for another what.");
        for (int what : new int[] {-1, 4, 5, 256, 65536, Edge.LEAST_INT, Edge.MOST_INT}) {
            Edge.due("count(" + what + ")", x.count(what), -1);
            Edge.due("count(" + what + ") of a new object", new SureSums().count(what), -1);
        }
    }

    /** "An object is used for at most 512 calls after it has been made." */
    private static void lastOfAllCalls() {
        Edge.promise(3, "An object is used for at most 512 calls");
        SureSums x = new SureSums();
        int calls = 0;
        // each round is a feed, a text and two looks; the 512th call is the last look
        while (calls < 512) {
            int n = calls % 900 + 1;
            int digits = 0x30303020 + (n / 100 << 24) + (n / 10 % 10 << 16) + (n % 10 << 8);
            Edge.due("feed, call " + (calls + 1), x.feed(0x6c657420, 0x613d2020, digits, 0x3b202020, 0x20202020), 20);
            Edge.due("text, call " + (calls + 2), x.text(13), 1);
            Edge.due("exact, call " + (calls + 3), x.exact(0, 0), n);
            Edge.due("span, call " + (calls + 4), x.span(0, 20, 1), (long) n << 20);
            calls += 4;
        }
    }

    /** Each fills the TAPE nearly and has 96 KNOTS: 25 feeds, a text and three looks, as often as 512 calls allow. */
    private static void fullTextsOneBehindAnother() {
        Edge.promise(3, "The TAPE's first n bytes (it is empty then) are the TEXT, in place of what was told");
        SureSums x = new SureSums();
        for (int k = 0; k < 17; k++) {
            String text = "let a=-" + Edge.ones(93) + "-" + k % 9 + ";" + (k % 4 == 3 ? "$" : "");
            text = " ".repeat(500 - text.length()) + text;
            // -1, 46 ones and less the digit; with a fault the one ahead stays
            boolean good = k % 4 != 3;
            long due = 45 - (good ? k : k - 1) % 9;
            Edge.due("text " + k, Check.tell(x, text), good ? 1 : -1);
            Edge.due("count(2) of text " + k, x.count(2), 96);
            Edge.due("exact of text " + k, x.exact(0, 0), due);
            Edge.due("span of text " + k, x.span(0, 4, 0), due * 16);
        }
    }
}
