/** The boundary cases of promises 9 to 11, of DIGITS, EXACT and what is COMPARED, each sentence by itself. */
public final class NumberEdgeTest {
    private static final long MIN = Edge.MIN;
    /** 1000, a million and 10 to the 9. */
    private static final String THOUSANDS = "let b=500+500;let c=b*b;let d=c*b;";

    public static void main(String[] args) {
        promise9Greatest();
        promise9Down();
        promise9None();
        promise9NoSpan();
        promise9Refused();
        promise10OnlyThese();
        promise10LeastTerms();
        promise10UpTo();
        promise10AllThatComeAhead();
        promise10ByNought();
        promise10BeyondSpans();
        promise10Refused();
        promise11Apart();
        promise11LeastBits();
        promise11NoneByFewBits();
        promise11Same();
        promise11SameNumber();
        promise11Open();
        promise11Refused();
        Edge.finish();
    }

    private static void digits(String text, int due) {
        Edge.due("digits of " + text, Edge.told(text).digits(0), due);
    }

    private static void promise9Greatest() {
        Edge.promise(9, "the greatest d 0 .. 5 such that LOW and HIGH times 10 to the d, by 2 to the 20, down, are the same");
        // an area of 31/64 .. 33/64: its first digit behind the point is 4 or 5, and so on
        digits("fun f=t;let a=area(f,0,1);", 0);
        digits("fun f=t;let a=area(f,0,1)/10;", 1);
        digits("fun f=t;let a=area(f,0,1)/100;", 2);
        digits("fun f=t;let a=area(f,0,1)/500/2;", 3);
        digits("fun f=t;let a=area(f,0,1)/100/100;", 4);
        digits("fun f=t;let a=area(f,0,1)/500/200;", 5);
        // 5 is the most, though more of them would be the same
        digits("let a=1;", 5);
        digits("let a=0;", 5);
        digits("let a=-999;", 5);
        digits("let a=512*4;", 5);
        digits("let a=-512*4;", 5);
    }

    private static void promise9Down() {
        Edge.promise(9, "times 10 to the d, by 2 to the 20, down, are the same");
        // a part less than 1 up to 1, 1 up to two parts more
        digits("let a=min(1/3*3,1);", -1);
        digits("let a=max(1/3*3,1);", 5);
        // -1 up to a part more is all -1 downwards, a part less than -1 is -2
        digits("let a=max(-1/3*3,-1);", 5);
        digits("let a=min(-1/3*3,-1);", -1);
        digits("let a=-1/3;", 5);
        // -1 part .. 0 and 0 .. 1 part
        digits("let a=min(1/3-1/3,0);", -1);
        digits("let a=max(1/3-1/3,0);", 5);
        // -0.4 and -0.6 are both -1, downwards
        digits("let b=1/3*3;let a=if(b<1,-2/5,-3/5);", 0);
        digits("let b=1/3*3;let a=if(b<1,2/5,-2/5);", -1);
    }

    private static void promise9None() {
        Edge.promise(9, "(none, if not even for 0)");
        digits("let a=1/3*3;", -1);
        digits("let a=1/3-1/3;", -1);
        digits("let b=1/3*3;let a=if(b<1,1,2);", -1);
        digits("let b=1/3*3;let a=if(b<1,0,2)*512*2;", -1);
    }

    private static void promise9NoSpan() {
        Edge.promise(9, "-2: it has no span by 20.");
        digits("let a=1/0;", -2);
        digits("let a=999*999;", -2);
        digits("let a=sqrt(-1);", -2);
        SureSums x = Edge.told("fun f=t;fun g=area(f,0,1);fun h=area(g,0,1);let a=area(h,0,1);let b=1/(1/17);");
        Edge.due("one by 16", x.span(0, 16, 0) == MIN ? 0 : 1, 1);
        Edge.due("and none by 20", x.digits(0), -2);
        Edge.due("none by 4", x.span(1, 4, 0), MIN);
        Edge.due("but one by 20", x.digits(1) >= -1 ? 1 : 0, 1);
    }

    private static void promise9Refused() {
        Edge.promise(9, "NONE: none, no such number");
        SureSums x = Edge.told("let a=1/0;fun f=1;");
        Edge.due("digits of a function", x.digits(5), -1);
        Edge.due("digits of nothing", x.digits(1), -1);
        Edge.due("digits of t", x.digits(19), -1);
        for (int letter : Edge.NO_LETTERS) {
            Edge.due("digits(" + letter + ")", x.digits(letter), -1);
        }
    }

    private static void exact(String text, long upper, long lower) {
        SureSums x = Edge.told(text);
        Edge.due("upper of " + text, x.exact(0, 0), upper);
        Edge.due("lower of " + text, x.exact(0, 1), lower);
    }

    private static void inexact(String text) {
        exact(text, MIN, MIN);
    }

    private static void promise10OnlyThese() {
        Edge.promise(10, "a number whose E (and those that it is made of) has only N, L of numbers, + - * / and - ahead");
        exact("let b=2;let a=-(b+3)*4/(5-1);", -5, 1);
        for (String other : new String[] {"sqrt(4)", "abs(1)", "max(1,1)", "min(1,1)", "if(0<1,1,1)", "f(1)", "nought(f,-1,2)",
            "area(g,0,1)", "most(g,0,1)", "least(g,0,1)"}) {
            String ahead = "fun f=t;fun g=1;let b=" + other + ";let a=";
            inexact(ahead + other + ";");
            inexact(ahead + "-" + other + ";");
            inexact(ahead + "1+" + other + ";");
            inexact(ahead + "0*(" + other + ");");
            inexact(ahead + "b;");
            inexact(ahead + "b-b;");
            exact(ahead + "7;", 7, 1);
        }
        inexact("let b=sqrt(1);let c=b;let d=c;let a=d;");
    }

    private static void promise10LeastTerms() {
        Edge.promise(10, "a fraction in least terms .. 0: the upper, 1: the lower number (above 0)");
        exact("let a=0;", 0, 1);
        exact("let a=-0;", 0, 1);
        exact("let a=0/999;", 0, 1);
        exact("let a=0/-999;", 0, 1);
        exact("let a=1/3-1/3;", 0, 1);
        exact("let a=6/4;", 3, 2);
        exact("let a=6/-4;", -3, 2);
        exact("let a=-6/4;", -3, 2);
        exact("let a=-6/-4;", 3, 2);
        exact("let a=999/999;", 1, 1);
        exact("let a=1/-1;", -1, 1);
        exact("let a=1/6+1/3;", 1, 2);
        exact("let a=1/6-2/3;", -1, 2);
        exact("let a=2/3*(3/2);", 1, 1);
        exact("let a=2/3/(-4/3);", -1, 2);
    }

    private static void promise10UpTo() {
        Edge.promise(10, "with all that come ahead up to 10 to the 9 above and below (else, .. not EXACT)");
        exact(THOUSANDS + "let a=d;", 1000000000L, 1);
        exact(THOUSANDS + "let a=-d;", -1000000000L, 1);
        exact(THOUSANDS + "let a=1/d;", 1, 1000000000L);
        exact(THOUSANDS + "let a=-1/d;", -1, 1000000000L);
        exact(THOUSANDS + "let a=d-1;", 999999999L, 1);
        exact(THOUSANDS + "let a=(d-1)/d;", 999999999L, 1000000000L);
        exact(THOUSANDS + "let a=d/(d-1);", 1000000000L, 999999999L);
        inexact(THOUSANDS + "let a=d+1;");
        inexact(THOUSANDS + "let a=-d-1;");
        inexact(THOUSANDS + "let a=1/d/2;");
        inexact(THOUSANDS + "let a=-1/d/2;");
        inexact(THOUSANDS + "let a=d+1/2;");
        inexact(THOUSANDS + "let a=1/d+1;");
        // as they are worked out 10 to the 18 and above, and in least terms again within
        exact(THOUSANDS + "let a=d*(1/d);", 1, 1);
        exact(THOUSANDS + "let a=d/d;", 1, 1);
        exact(THOUSANDS + "let a=1/d/(1/d);", 1, 1);
        exact(THOUSANDS + "let a=1/d+(d-1)/d;", 1, 1);
        exact(THOUSANDS + "let a=(d-1)/d-1/d;", 499999999L, 500000000L);
        exact(THOUSANDS + "let a=(d-1)/d*(d/(d-1));", 1, 1);
        inexact(THOUSANDS + "let a=d*d;");
        inexact(THOUSANDS + "let a=d/(1/d);");
        inexact(THOUSANDS + "let a=1/d/d;");
        inexact(THOUSANDS + "let a=-d*d;");
        inexact(THOUSANDS + "let a=(d-1)/d+d/(d-1);");
        inexact(THOUSANDS + "let a=d/(d-1)-(d-1)/d;");
    }

    private static void promise10AllThatComeAhead() {
        Edge.promise(10, "with all that come ahead up to 10 to the 9");
        inexact(THOUSANDS + "let a=(d+1)-1;");
        inexact(THOUSANDS + "let a=d*2/2;");
        inexact(THOUSANDS + "let a=0*(d+1);");
        inexact(THOUSANDS + "let a=(1/d/2)*2;");
        inexact(THOUSANDS + "let e=d+1;let a=e;");
        inexact(THOUSANDS + "let e=d+1;let a=e-e;");
        inexact(THOUSANDS + "let e=d+1;let f=e;let a=f/f;let g=0;");
        // beside one that isn't, another is
        exact(THOUSANDS + "let e=d+1;let a=d;", 1000000000L, 1);
        exact("let e=1/0;let f=sqrt(2);let a=2/4;", 1, 2);
    }

    private static void promise10ByNought() {
        Edge.promise(10, "(else, or with / by 0: not EXACT)");
        inexact("let a=1/0;");
        inexact("let a=0/0;");
        inexact("let a=1/-0;");
        inexact("let a=1/(2-2);");
        inexact("let a=1/(1/3-1/3);");
        inexact("let a=1/0*0;");
        inexact("let b=1/0;let a=b;");
        inexact("let b=0;let a=1/b;");
    }

    private static void promise10BeyondSpans() {
        Edge.promise(10, "A number EXACT, what 0: the upper, 1: the lower number");
        // no span by any bits, and a fraction all the same
        SureSums x = Edge.told("let a=999*999;");
        Edge.due("span", x.span(0, 20, 0), MIN);
        Edge.due("upper", x.exact(0, 0), 998001);
        Edge.due("lower", x.exact(0, 1), 1);
    }

    private static void promise10Refused() {
        Edge.promise(10, "Long.MIN_VALUE: it isn't, no such ones.");
        SureSums x = Edge.told("let a=3/7;fun f=1;let c=sqrt(1);");
        for (int what : new int[] {-1, 2, 3, 256, 257, Edge.LEAST_INT, Edge.MOST_INT}) {
            Edge.due("exact(a, " + what + ")", x.exact(0, what), MIN);
        }
        for (int what = 0; what < 2; what++) {
            Edge.due("exact of what isn't", x.exact(2, what), MIN);
            Edge.due("exact of a function", x.exact(5, what), MIN);
            Edge.due("exact of nothing", x.exact(1, what), MIN);
            for (int letter : Edge.NO_LETTERS) {
                Edge.due("exact(" + letter + ", " + what + ")", x.exact(letter, what), MIN);
            }
        }
    }

    /** Both ways round: the first below, and the second. */
    private static void apart(String lines, char below, char above, int w) {
        SureSums x = Edge.told(lines);
        Edge.due("compare " + below + ", " + above + " of " + lines, x.compare(below - 'a', above - 'a'), w);
        Edge.due("compare " + above + ", " + below + " of " + lines, x.compare(above - 'a', below - 'a'), -w);
    }

    private static void promise11Apart() {
        Edge.promise(11, "w if the first is below, -w if it is above (APART)");
        apart("let a=1;let b=2;", 'a', 'b', 4);
        apart("let a=-2;let b=-1;", 'a', 'b', 4);
        apart("let a=-512*4;let b=512*4;", 'a', 'b', 4);
        apart("let a=-1;let b=sqrt(2);", 'a', 'b', 4);
        Edge.promise(11, "by which one's HIGH is below the other's LOW");
        // by 4 bits 0..1 and 2..2, 0..1 and 1..1, 1..1 and 1..2
        apart("let a=1/17;let b=1/8;", 'a', 'b', 4);
        apart("let a=1/17;let b=1/16;", 'a', 'b', 12);
        apart("let a=1/16;let b=1/15;", 'a', 'b', 8);
        apart("let a=-1/16;let b=-1/17;", 'a', 'b', 12);
    }

    /** b is one part above 1 by w bits, and less than one part by four bits less. */
    private static void promise11LeastBits() {
        Edge.promise(11, "APART by the least w of 4, 8 .. 20");
        apart("let a=1;let b=1+1/16;", 'a', 'b', 4);
        apart("let a=1;let b=1+1/17;", 'a', 'b', 8);
        apart("let a=1;let b=1+1/256;", 'a', 'b', 8);
        apart("let a=1;let b=1+1/257;", 'a', 'b', 12);
        apart("let a=1-1/64/64;let b=1;", 'a', 'b', 12);
        apart("let a=1;let b=1+1/64/65;", 'a', 'b', 16);
        apart("let a=1;let b=1+1/256/256;", 'a', 'b', 16);
        apart("let a=1;let b=1+1/256/257;", 'a', 'b', 20);
        apart("let a=1;let b=1+1/32/32/32/32;", 'a', 'b', 20);
        Edge.due("beyond 20 bits", Edge.told("let a=1;let b=1+1/32/32/32/33;").compare(0, 1), 1);
        Edge.due("beyond 20 bits", Edge.told("let a=1;let b=1+1/32/32/32/33;").compare(1, 0), 1);
    }

    private static void promise11NoneByFewBits() {
        Edge.promise(11, "APART by the least w of 4, 8 .. 20 by which one's HIGH is below the other's LOW");
        // by 4 bits a has none, or b, or both
        apart("let a=-1/(1/17);let b=1;", 'a', 'b', 8);
        apart("let a=1;let b=1/(1/17);", 'a', 'b', 8);
        apart("let a=-1/(1/17);let b=1/(1/17);", 'a', 'b', 8);
        // by 20 bits there is too much WORK, by 4 not
        apart("fun f=t;fun g=area(f,0,1);fun h=area(g,0,1);let a=area(h,0,1);let b=2;", 'a', 'b', 4);
    }

    private static void promise11Same() {
        Edge.promise(11, "SAME: both EXACT and equal");
        Edge.due("1/3*3, 1", Edge.told("let a=1/3*3;let b=1;").compare(0, 1), 0);
        Edge.due("2/4, 3/6", Edge.told("let a=2/4;let b=3/6;").compare(0, 1), 0);
        Edge.due("0, -0", Edge.told("let a=0;let b=-0;").compare(0, 1), 0);
        Edge.due("without a span", Edge.told("let a=999*999;let b=999*998+999;").compare(0, 1), 0);
        Edge.due("10 to the 9", Edge.told(THOUSANDS + "let a=b*c;").compare(0, 3), 0);
        // 1 by 10 to the 9 beside 0: only by fractions could they be told apart, and they may not
        Edge.due("not equal", Edge.told(THOUSANDS + "let a=1/d;let e=0;").compare(0, 4), 1);
        Edge.due("the upper alone", Edge.told(THOUSANDS + "let a=1/d;let e=1/(d-1);").compare(0, 4), 1);
        Edge.due("the lower alone", Edge.told(THOUSANDS + "let a=1/d;let e=3/d;").compare(0, 4), 1);
        Edge.due("without the sign", Edge.told(THOUSANDS + "let a=1/d;let e=-1/d;").compare(0, 4), 1);
        Edge.due("one alone EXACT", Edge.told("let a=sqrt(4);let b=2;").compare(0, 1), 1);
        Edge.due("none EXACT", Edge.told("let a=sqrt(4);let b=sqrt(4);").compare(0, 1), 1);
    }

    private static void promise11SameNumber() {
        Edge.promise(11, "(or the same number, if it has a span by 20); else OPEN");
        SureSums x = Edge.told("let a=sqrt(2);let b=1/0;let c=999*999;let d=sqrt(-1);let e=a;");
        Edge.due("a, a", x.compare(0, 0), 0);
        Edge.due("b, b: no span", x.compare(1, 1), 1);
        Edge.due("c, c: no span, but EXACT", x.compare(2, 2), 0);
        Edge.due("d, d: no span", x.compare(3, 3), 1);
        Edge.due("a, e: told as the same, but another number", x.compare(0, 4), 1);
        SureSums y = Edge.told("fun f=t;fun g=area(f,0,1);fun h=area(g,0,1);let a=area(h,0,1);let b=1/(1/17)*sqrt(1);");
        Edge.due("a span by 16 alone", y.compare(0, 0), 1);
        Edge.due("none by 4, but one by 20", y.compare(1, 1), 0);
    }

    private static void promise11Open() {
        Edge.promise(11, "1 OPEN");
        SureSums x = Edge.told("let a=1/0;let b=1;let c=999*999;let d=1/3*3;let e=if(d<1,5,7);let f=6;let g=5;let h=7;let i=8;let j=4;");
        Edge.due("no span", x.compare(0, 1), 1);
        Edge.due("no span", x.compare(1, 0), 1);
        Edge.due("no span beyond 2048", x.compare(1, 2), 1);
        Edge.due("no span beyond 2048", x.compare(2, 1), 1);
        Edge.due("two without", x.compare(0, 2), 1);
        Edge.due("5..7, 6", x.compare(4, 5), 1);
        Edge.due("5..7, 5", x.compare(4, 6), 1);
        Edge.due("5..7, 7", x.compare(4, 7), 1);
        Edge.due("5..7, 8", x.compare(4, 8), 4);
        Edge.due("5..7, 4", x.compare(4, 9), -4);
    }

    private static void promise11Refused() {
        Edge.promise(11, "Integer.MIN_VALUE: no such ones.");
        SureSums x = Edge.told("let a=1;fun f=t;");
        for (int other : new int[] {1, 5, 19, 25}) {
            Edge.due("compare(a, " + other + ")", x.compare(0, other), Edge.LEAST_INT);
            Edge.due("compare(" + other + ", a)", x.compare(other, 0), Edge.LEAST_INT);
            Edge.due("compare(" + other + ", itself)", x.compare(other, other), Edge.LEAST_INT);
        }
        for (int letter : Edge.NO_LETTERS) {
            Edge.due("compare(a, " + letter + ")", x.compare(0, letter), Edge.LEAST_INT);
            Edge.due("compare(" + letter + ", a)", x.compare(letter, 0), Edge.LEAST_INT);
            Edge.due("compare(" + letter + ", itself)", x.compare(letter, letter), Edge.LEAST_INT);
        }
    }
}
