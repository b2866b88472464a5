import java.util.ArrayList;
import java.util.List;
import java.util.Random;

/**
 * Promises 6 to 9, 11 to 13, 15 and 16 where a text has as many ifs as 96 KNOTS can hold, or as many in one another
 * as eight brackets and the LINES ahead let them: each answer by hand, or held against the plain form.
 */
public final class IfsTest {
    /** An if is a knot of four parts: n of them in one another, with nothing but numbers, have 4 n + 1 knots. */
    private static final int IFS_MOST = 23;
    private static final int FIRST = 0;
    private static final int SECOND = 1;
    private static final int OPEN = 2;

    public static void main(String[] args) {
        ofTheIssues();
        manyInEachPlace();
        fullTexts();
        beyondFull();
        deepOverNumbers();
        deepOverFunctions();
        deepOverPieces();
        deepOverAllLines();
        manyShortLines();
        openIfsInCurves();
        twoTextsInTurn();
        againstPlain();
        Check.finish();
    }

    /** All numbers and functions of a text, against the plain form. */
    private static void likePlain(String text) {
        SureSums x = new SureSums();
        Plain plain = new Plain();
        plain.tape.append(text);
        Check.due("text of " + text, Check.tell(x, text), plain.text(text.length()));
        for (int what = 0; what < 4; what++) {
            Check.due("count(" + what + ") of " + text, x.count(what), plain.count(what));
        }
        for (char c = 'a'; c <= 'z'; c++) {
            int letter = c - 'a';
            if (plain.kind(letter) == 1) {
                numberLikePlain(x, plain, letter, text);
            } else if (plain.kind(letter) == 2) {
                functionLikePlain(x, plain, letter, text);
            }
        }
    }

    private static void numberLikePlain(SureSums x, Plain plain, int letter, String text) {
        String of = " of " + (char) ('a' + letter) + " in " + text;
        for (int w = 4; w <= 20; w += 4) {
            for (int what = 0; what < 3; what++) {
                Check.due("span by " + w + ", " + what + of, x.span(letter, w, what), plain.span(letter, w, what));
            }
        }
        for (int what = 0; what < 3; what++) {
            Check.due("ask " + what + of, x.ask(letter, 9, what), plain.ask(letter, 9, what));
        }
        Check.due("digits" + of, x.digits(letter), plain.digits(letter));
        Check.due("exact" + of, x.exact(letter, 0), plain.exact(letter, 0));
        Check.due("off" + of, x.off(letter), plain.off(letter));
        Check.dueDouble("machine" + of, x.machine(letter), plain.machine(letter));
        for (int other = 0; other < 26; other++) {
            Check.due("compare with " + other + of, x.compare(letter, other), plain.compare(letter, other));
        }
    }

    private static void functionLikePlain(SureSums x, Plain plain, int letter, String text) {
        String of = " of " + (char) ('a' + letter) + " in " + text;
        for (int w = 4; w <= 20; w += 8) {
            for (int what = 0; what < 3; what++) {
                Check.due("at 0, 1 by " + w + ", " + what + of, x.at(letter, 0, 1, w, what), plain.at(letter, 0, 1, w, what));
                Check.due("at 1, 1 by " + w + ", " + what + of, x.at(letter, 1, 1, w, what), plain.at(letter, 1, 1, w, what));
            }
        }
        Check.due("where" + of, x.where(letter, -1, 2), plain.where(letter, -1, 2));
        Check.due("dot" + of, x.dot(letter, 0, 3), plain.dot(letter, 0, 3));
    }

    /** The number a of a text by 4 bits, and what the machine makes of it. */
    private static void number(String text, char letter, int value) {
        SureSums x = Check.told(text);
        int a = letter - 'a';
        Check.due("LOW of " + text, x.span(a, 4, 0), value * 16L);
        Check.due("HIGH of " + text, x.span(a, 4, 1), value * 16L);
        Check.due("LOW by 20 of " + text, x.span(a, 20, 0), (long) value << 20);
        Check.due("ask of " + text, x.ask(a, 16, 1), (long) value << 16);
        Check.due("digits of " + text, x.digits(a), 5);
        Check.due("off of " + text, x.off(a), 0);
        Check.due("compare with itself of " + text, x.compare(a, a), 0);
        Check.dueDouble("machine of " + text, x.machine(a), value);
        likePlain(text);
    }

    private static void ofTheIssues() {
        String many = "let a=if(if(if(if(1<0,5,1)<if(1<0,5,0),5,1)<if(1<0,5,0),if(1<0,5,5),if(1<0,5,1))<if(if(1<0,5,1)<if(1<0,5,0)"
            + ",if(1<0,5,5),if(1<0,5,0)),if(if(1<0,5,1)<if(1<0,5,0),if(1<0,5,5),if(1<0,5,5)),if(if(1<0,5,1)<if(1<0,5,0)"
            + ",if(1<0,5,5),if(1<0,5,7)))+1;";
        number(many, 'a', 8);
        String deep = "let a=" + nest(8, FIRST, "3") + ";let b=" + nest(8, FIRST, "a") + ";let c=" + nest(5, FIRST, "b") + ";";
        number(deep, 'c', 3);
    }

    /** n ifs in one another round the innermost part, which is where each chooses it. */
    private static String nest(int n, int how, String inner) {
        String made = inner;
        for (int k = 0; k < n; k++) {
            switch (how) {
                case FIRST:
                    made = k % 2 == 0 ? "if(0<1," + made + ",9)" : "if(1>0," + made + ",9)";
                    break;
                case SECOND:
                    made = k % 2 == 0 ? "if(1<0,9," + made + ")" : "if(0>0,9," + made + ")";
                    break;
                default:
                    made = k % 2 == 0 ? "if(t<t," + made + ",9)" : "if(t>t,9," + made + ")";
                    break;
            }
        }
        return made;
    }

    /** n ifs round a part that is one of the two compared. */
    private static String nestCompared(int n, String inner) {
        String made = inner;
        for (int k = 0; k < n; k++) {
            made = k % 2 == 0 ? "if(" + made + "<9,3,9)" : "if(9>" + made + ",3,9)";
        }
        return made;
    }

    private static void manyInEachPlace() {
        for (int n = 1; n <= 8; n++) {
            number("let a=" + nest(n, FIRST, "3") + ";", 'a', 3);
            number("let a=" + nest(n, SECOND, "3") + ";", 'a', 3);
            number("let a=" + nestCompared(n, "3") + ";", 'a', 3);
            // beside one another: what stands behind must find its place
            number("let a=" + nest(n, FIRST, "3") + "+" + nest(n, SECOND, "4") + "*" + nestCompared(Math.min(n, 6), "3") + ";", 'a', 15);
        }
    }

    /** Each time 23 ifs, and what else has room in 96 knots. */
    private static void fullTexts() {
        String[] full = {
            "let a=" + tree(IFS_MOST, FIRST, 3) + ";",
            "let a=" + tree(IFS_MOST, SECOND, 3) + ";",
            "let a=---" + tree(IFS_MOST, SECOND, 3) + ";",
            "let a=" + tree(IFS_MOST, FIRST, 3) + "+1;",
            "let a=2*" + tree(IFS_MOST, SECOND, 3) + ";",
            "let a=-(" + tree(IFS_MOST, SECOND, 3) + "-1);"
        };
        int[] values = {3, 3, -3, 4, 6, -2};
        for (int k = 0; k < full.length; k++) {
            Check.dueTrue(full[k] + " has room on the tape", full[k].length() <= 500);
            number(full[k], 'a', values[k]);
        }
        Check.due("knots", Check.told(full[0]).count(2), 93);
        Check.due("knots", Check.told(full[2]).count(2), 96);
    }

    /** A tree of n ifs, all of one value, each part with a like number of them. */
    private static String tree(int n, int how, int value) {
        if (n == 0) {
            return Integer.toString(value);
        }
        int[] share = new int[4];
        for (int k = 0; k < n - 1; k++) {
            share[k % 4]++;
        }
        String low = tree(share[0], how, how == FIRST ? 0 : 1);
        String high = tree(share[1], how, how == FIRST ? 1 : 0);
        String chosen = tree(share[2], how, value);
        String other = tree(share[3], how, 8);
        return "if(" + low + "<" + high + "," + (how == FIRST ? chosen + "," + other : other + "," + chosen) + ")";
    }

    private static void beyondFull() {
        SureSums x = new SureSums();
        String text = "let a=----" + tree(IFS_MOST, FIRST, 3) + ";";
        Check.due("a 97th knot", Check.tell(x, text), -1);
        Check.due("is too much", x.fault(0), 2);
        Check.due("at it", x.fault(1), text.lastIndexOf('8'));
        Check.due("24 ifs", Check.tell(x, "let a=" + tree(IFS_MOST + 1, FIRST, 3) + ";"), -1);
        Check.due("are too much", x.fault(0), 2);
        Check.due("nothing is told", x.count(2), 0);
        Check.due("ifs nine deep", Check.tell(x, "let a=" + nest(9, FIRST, "3") + ";"), -1);
        Check.due("are too much", x.fault(0), 2);
    }

    private static void deepOverNumbers() {
        for (int how = FIRST; how <= SECOND; how++) {
            // 33 + 33 + 29 knots, 23 ifs open at once
            String three = "let a=" + nest(8, how, "3") + ";let b=" + nest(8, how, "a") + ";let c=" + nest(7, how, "b") + ";";
            number(three, 'c', 3);
            Check.due("knots", Check.told(three).count(2), 95);
            number(three.replace(";let c=", ";let c=-"), 'c', -3);
        }
        String compared = "let a=" + nestCompared(8, "3") + ";let b=" + nestCompared(8, "a") + ";let c=" + nestCompared(7, "b") + ";";
        number(compared, 'c', 3);
        // the second part of each is open, while the next one is asked
        String behind = "let a=" + nest(8, SECOND, "3") + ";let b=" + nest(8, FIRST, "a") + ";let c=" + nest(7, SECOND, "b+0") + ";";
        Check.due("97 knots", Check.tell(new SureSums(), behind), -1);
        number(behind.replace("b+0", "b"), 'c', 3);
    }

    private static void deepOverFunctions() {
        // seven ifs and a call's own bracket: 29 + 30 + 30 knots, and the number
        String text = "fun f=" + nest(7, OPEN, "t") + ";fun g=" + nest(7, OPEN, "f(t)") + ";fun h=" + nest(7, OPEN, "g(t)") + ";let a=h(3);";
        SureSums x = Check.told(text);
        Check.due("knots", x.count(2), 91);
        // over one place none of both is below: the second each time, which is 9 for the outmost
        Check.due("h at 2", x.at(7, 2, 2, 4, 0), 144);
        Check.due("h from 0 to 1, LOW", x.at(7, 0, 1, 4, 0), 0);
        Check.due("h from 0 to 1, HIGH", x.at(7, 0, 1, 4, 1), 144);
        likePlain(text);
        // each outer if open while the inner ones are: 8 + 7 + 7 + 1
        String calls = "fun f=" + nest(8, FIRST, "t") + ";fun g=" + nest(7, FIRST, "f(t)") + ";let a=" + nest(7, FIRST, "g(3)") + ";";
        number(calls, 'a', 3);
        number(calls.replace("fun f=", "let b=2;fun f="), 'a', 3);
        String seconds = "fun f=" + nest(8, SECOND, "t") + ";fun g=" + nest(7, SECOND, "f(t)") + ";let a=" + nest(7, SECOND, "g(3)") + ";";
        number(seconds, 'a', 3);
        likePlain("fun f=" + nest(8, OPEN, "t") + ";fun g=" + nest(7, OPEN, "f(t)") + ";let a=" + nest(7, FIRST, "least(g,0,1)") + ";");
    }

    private static void deepOverPieces() {
        for (String over : new String[] {"nought", "area", "most", "least"}) {
            likePlain("fun f=" + nest(8, FIRST, "t-1") + ";fun g=" + nest(7, FIRST, over + "(f,0,3)") + "-1;let a="
                + nest(7, FIRST, over + "(g,-1,2)") + ";");
            likePlain("fun f=" + nest(8, OPEN, "t") + ";fun g=" + nest(7, OPEN, over + "(f,0,3)") + ";let a="
                + nest(7, SECOND, over + "(g,-1,2)") + ";");
        }
        String text = "fun f=" + nest(8, FIRST, "t") + ";let b=" + nest(7, FIRST, "most(f,0,3)") + ";let a=" + nest(7, SECOND, "b") + ";";
        Check.due("the most of t", Check.told(text).span(0, 4, 1), 48);
        Check.due("and at least", Check.told(text).span(0, 4, 0), 24);
    }

    /** 18 lines, each of the one ahead: one if each (5 or 6 knots), as far as they go. */
    private static void deepOverAllLines() {
        StringBuilder text = new StringBuilder("fun n=" + nest(1, FIRST, "t") + ";");
        for (char c = 'o'; c < 't'; c++) {
            text.append("fun ").append(c).append('=').append(nest(1, c % 2, (char) (c - 1) + "(t)")).append(';');
        }
        text.append("let a=").append(nest(1, FIRST, "s(3)")).append(';');
        for (char c = 'b'; c <= 'm'; c++) {
            text.append("let ").append(c).append('=');
            text.append(c <= 'k' ? nest(1, c % 2, Character.toString(c - 1)) : Character.toString(c - 1)).append(';');
        }
        // 5 + 5 * 6 + 6 are 41 knots, ten numbers of 5 are 91, and l is 92
        String lines = text.substring(0, text.lastIndexOf("let m"));
        number(lines, 'l', 3);
        Check.due("lines", Check.told(lines).count(3), 18);
        Check.due("knots", Check.told(lines).count(2), 92);
    }

    /** 18 lines with 19 ifs, no two in one another but over the lines. */
    private static void manyShortLines() {
        StringBuilder text = new StringBuilder();
        for (char c = 'a'; c <= 'h'; c++) {
            text.append("let ").append(c).append("=if(").append(c == 'a' ? '0' : (char) (c - 1)).append("<9,");
            text.append(c == 'a' ? "3" : Character.toString(c - 1)).append(",8)+if(1<0,9,0);");
        }
        number(text.toString(), 'h', 3);
    }

    private static void openIfsInCurves() {
        // 4 bits tell nothing of thirds: each if is open there, none by more bits
        String close = "let b=1/3*3;let a=" + nest(8, FIRST, "3").replace("0<1", "b<1").replace("1>0", "1>b") + "+"
            + nest(8, SECOND, "5").replace("1<0", "b<1").replace("0>0", "1>b") + "*" + nest(4, FIRST, "1").replace("0<1", "b<1") + ";";
        likePlain(close);
        likePlain("fun f=" + nest(8, OPEN, "t*t") + "+" + nest(8, OPEN, "0-t") + ";let a=most(f,-1,1);let b=least(f,0,2);");
        likePlain("fun f=" + nest(8, OPEN, "1/t") + "+" + nest(8, OPEN, "sqrt(t)") + ";let a=most(f,1,2);let b=least(f,0,2);");
    }

    /** What a full text leaves behind is nothing to the next one. */
    private static void twoTextsInTurn() {
        SureSums x = new SureSums();
        String full = "let a=---" + tree(IFS_MOST, SECOND, 3) + ";";
        String small = "let a=if(0<1,5,6);";
        for (int k = 0; k < 3; k++) {
            Check.due("the full text", Check.tell(x, full), 1);
            Check.due("its span", x.span(0, 4, 0), -48);
            Check.dueDouble("its machine's number", x.machine(0), -3.0);
            Check.due("the small text", Check.tell(x, small), 1);
            Check.due("its span", x.span(0, 4, 0), 80);
            Check.dueDouble("its machine's number", x.machine(0), 5.0);
            Check.due("too much", Check.tell(x, "let a=" + tree(IFS_MOST + 1, FIRST, 3) + ";"), -1);
            Check.due("the span stays", x.span(0, 4, 0), 80);
        }
    }

    /** Random texts of mostly ifs, most of them of 90 to 96 knots. */
    private static void againstPlain() {
        List<Integer> knots = new ArrayList<>();
        for (int k = 0; k < 400 && Check.wrongSoFar() < 20; k++) {
            String text = new Texts(new Random(96000 + k)).full();
            likePlain(text);
            knots.add(Check.told(text).count(2));
        }
        Check.dueTrue("many have 96 knots", knots.stream().filter(n -> n == 96).count() > 50);
        Check.dueTrue("most have 90 or more", knots.stream().filter(n -> n >= 90).count() > 250);
    }
}
