/** The boundary cases of promises 6 to 8, of SPANS, WORK and what is ASKED, each sentence by itself. */
public final class SpanEdgeTest {
    private static final long MIN = Edge.MIN;
    private static final int F = 5;

    public static void main(String[] args) {
        promise6Bits();
        promise6What();
        promise6NoSuchOnes();
        promise6WorkBesideNone();
        promise6Limits();
        promise6LimitsOfEachE();
        promise6NoneInOne();
        promise6Numbers();
        promise6DownAndUp();
        promise6MaxMin();
        promise6QuotientByNought();
        promise6Roots();
        promise6WithoutSign();
        promise6Choices();
        promise6ChoicesNotAsked();
        promise6Calls();
        promise6NoughtEnds();
        promise6NoughtHalvings();
        promise6Pieces();
        promise6PiecesNone();
        promise6Area();
        promise6Work();
        promise6WorkOf20000();
        promise6WorkInOvers();
        promise7Places();
        promise7Refused();
        promise7NoneAndWork();
        promise8BitsAtLeast();
        promise8WideEnough();
        promise8GivenUp();
        promise8Had();
        promise8Refused();
        Edge.finish();
    }

    private static void promise6Bits() {
        Edge.promise(6, "Of a number by w (4 .. 20)");
        SureSums x = Edge.told("let a=999;let b=-1/3;");
        for (int w = 4; w <= 20; w++) {
            Edge.due("span(a, " + w + ", 0)", x.span(0, w, 0), 999L << w);
            Edge.due("span(a, " + w + ", 1)", x.span(0, w, 1), 999L << w);
            Edge.due("span(a, " + w + ", 2)", x.span(0, w, 2), 1);
            // 2 to the w is no number of threes
            Edge.due("span(b, " + w + ", 0)", x.span(1, w, 0), -(1L << w) / 3 - 1);
            Edge.due("span(b, " + w + ", 1)", x.span(1, w, 1), -(1L << w) / 3);
        }
        for (int w : new int[] {3, 21, 0, -1, -4, 36, 68, 84, 260, 65540, Edge.LEAST_INT, Edge.LEAST_INT + 4, Edge.MOST_INT}) {
            for (int what = 0; what < 3; what++) {
                Edge.due("span(a, " + w + ", " + what + ")", x.span(0, w, what), MIN);
            }
        }
    }

    private static void promise6What() {
        Edge.promise(6, "what 0: LOW, 1: HIGH, 2: WORK .. Long.MIN_VALUE: .. no such ones");
        SureSums x = Edge.told("let a=1/3;");
        Edge.due("span(a, 4, 0)", x.span(0, 4, 0), 5);
        Edge.due("span(a, 4, 1)", x.span(0, 4, 1), 6);
        Edge.due("span(a, 4, 2)", x.span(0, 4, 2), 3);
        for (int what : new int[] {-1, 3, 4, 256, 258, Edge.LEAST_INT, Edge.MOST_INT}) {
            Edge.due("span(a, 4, " + what + ")", x.span(0, 4, what), MIN);
        }
    }

    private static void promise6NoSuchOnes() {
        Edge.promise(6, "Long.MIN_VALUE: .. no such ones.");
        SureSums x = Edge.told("let a=1;fun f=1;let z=2;");
        Edge.due("span(z, 4, 0)", x.span(25, 4, 0), 32);
        for (int what = 0; what < 3; what++) {
            Edge.due("a function's", x.span(F, 4, what), MIN);
            Edge.due("a letter's that is nothing", x.span(1, 4, what), MIN);
            Edge.due("t's", x.span(19, 4, what), MIN);
            for (int letter : Edge.NO_LETTERS) {
                Edge.due("span(" + letter + ", 4, " + what + ")", x.span(letter, 4, what), MIN);
            }
        }
    }

    private static void promise6WorkBesideNone() {
        Edge.promise(6, "Long.MIN_VALUE: NONE (of 0, 1)");
        SureSums x = Edge.told("let a=1/0;let b=999*999;");
        for (int letter = 0; letter < 2; letter++) {
            Edge.due("LOW", x.span(letter, 20, 0), MIN);
            Edge.due("HIGH", x.span(letter, 20, 1), MIN);
            Edge.due("WORK", x.span(letter, 20, 2), 3);
        }
    }

    /** By 4 and by 20 bits a little more than 2048 is beyond it by one part. */
    private static void promise6Limits() {
        Edge.promise(6, "and if LOW is below -2048 or HIGH above 2048 (times 2 to the w)");
        for (int w = 4; w <= 20; w++) {
            Edge.span("let a=512*4;", w, 2048L << w, 2048L << w);
            Edge.span("let a=-512*4;", w, -2048L << w, -2048L << w);
            Edge.none("let a=512*4+1/999;", w);
            Edge.none("let a=-512*4-1/999;", w);
        }
        // one part beyond, and one within
        Edge.none("let a=512*4+1/16;", 4);
        Edge.none("let a=-512*4-1/16;", 4);
        Edge.span("let a=512*4-1/16;", 4, 32767, 32767);
        Edge.span("let a=1/16-512*4;", 4, -32767, -32767);
        Edge.span("let b=32*32;let a=512*4-1/b/b;", 20, (2048L << 20) - 1, (2048L << 20) - 1);
        Edge.span("let b=32*32;let a=1/b/b-512*4;", 20, 1 - (2048L << 20), 1 - (2048L << 20));
        Edge.none("let b=32*32;let a=512*4+1/b/b;", 20);
        Edge.none("let b=32*32;let a=-512*4-1/b/b;", 20);
        // HIGH alone is beyond: 2047 + 15..18 parts of 16; LOW alone
        Edge.none("let b=1/3*3;let a=512*4-1+b;", 4);
        Edge.none("let b=1/3*3;let a=1-512*4-b;", 4);
    }

    private static void promise6LimitsOfEachE() {
        Edge.promise(6, "Each E has one by w, .. NONE, .. if LOW is below -2048 or HIGH above 2048");
        for (int w = 4; w <= 20; w += 8) {
            Edge.none("let a=999*3-999*3;", w);
            Edge.none("let a=999*999/999;", w);
            Edge.none("let a=min(1,999+999+999);", w);
            Edge.none("let a=sqrt(999*3);", w);
            Edge.none("let a=abs(-999*3);", w);
            Edge.none("let a=if(1<999*3,1,2);", w);
            Edge.none("let a=if(1<2,999*3,2);", w);
            Edge.none("let b=999*3;let a=b-b;", w);
            Edge.none("fun f=1;let a=f(999*3);", w);
            Edge.none("fun f=t*999;let a=f(3);", w);
            Edge.none("fun f=t*999;let a=most(f,0,3);", w);
            Edge.none("fun f=999;let a=area(f,0,3);", w);
            Edge.none("fun f=-999;let a=area(f,0,3);", w);
            Edge.none("let a=999/(1/3);", w);
            // 2997, and by few bits the divisor has 0 in it
            Edge.none("let a=1/(1/999/3);", w);
            Edge.span("fun f=512;let a=area(f,0,4);", w, 2048L << w, 2048L << w);
            Edge.span("fun f=-512;let a=area(f,0,4);", w, -2048L << w, -2048L << w);
            Edge.none("fun f=512+1/999;let a=area(f,0,4);", w);
            Edge.none("fun f=-512-1/999;let a=area(f,0,4);", w);
            Edge.span("let a=64*32;", w, 2048L << w, 2048L << w);
            Edge.span("let a=512/(1/4);", w, 2048L << w, 2048L << w);
            Edge.span("let a=512/(-1/4);", w, -2048L << w, -2048L << w);
            Edge.none("let a=513/(1/4);", w);
            Edge.none("let a=513/(-1/4);", w);
        }
    }

    private static void promise6NoneInOne() {
        Edge.promise(6, "all its parts are asked, left to right; with NONE in one it is NONE");
        for (String sign : new String[] {"+", "-", "*", "/"}) {
            Edge.none("let a=1/0" + sign + "1;", 4);
            Edge.none("let a=1" + sign + "(1/0);", 4);
            Edge.work("let a=1/0" + sign + "(1+1);", 4, 3 + 1 + 3);
            Edge.work("let a=(1+1)" + sign + "(1/0);", 4, 3 + 1 + 3);
        }
        for (String word : new String[] {"max", "min"}) {
            Edge.none("let a=" + word + "(1/0,1);", 4);
            Edge.none("let a=" + word + "(1,1/0);", 4);
            Edge.work("let a=" + word + "(1/0,1+1);", 4, 7);
        }
        for (String word : new String[] {"-(", "sqrt(", "abs("}) {
            Edge.none("let a=" + word + "1/0);", 4);
            Edge.work("let a=" + word + "1/0);", 4, 4);
        }
        Edge.none("let b=1/0;let a=b*0;", 4);
        Edge.work("let b=1/0;let a=b*0;", 4, 6);
        // each E that may be NONE, in each place of each other
        String lines = "fun f=t;fun g=1/t;let p=1/17;let q=1/16;let n=1/0;let a=";
        for (String part : new String[] {"1/0", "n", "-n", "sqrt(-1)", "sqrt(n)", "abs(n)", "max(n,1)", "min(1,n)", "if(n<1,2,3)", "if(1>n,2,3)",
            "if(1<2,n,3)", "if(2<1,3,n)", "if(p<q,n,3)", "if(p<q,3,n)", "f(n)", "g(0)", "nought(f,0,1)", "area(g,0,1)", "most(g,0,1)",
            "least(g,0,1)", "999*3", "-999*3"}) {
            for (String in : new String[] {"?", "7+?", "?+7", "7-(?)", "7*(?)", "7/(?)", "(?)/7", "-(?)", "sqrt(?)", "abs(?)", "max(7,?)",
                "max(?,7)", "min(7,?)", "min(?,7)", "f(?)", "if(?<7,7,7)", "if(7<?,7,7)", "if(1<2,?,7)", "if(2<1,7,?)", "if(p<q,?,7)",
                "if(p<q,7,?)", "7+max(7,7+(?))"}) {
                Edge.none(lines + in.replace("?", part) + ";", 4);
            }
            Edge.span(lines + "if(1<2,7," + part + ");", 4, 112, 112);
            Edge.span(lines + "7+if(2<1," + part + ",7);", 4, 224, 224);
        }
    }

    private static void promise6Numbers() {
        Edge.promise(6, "N: N .. N (times 2 to the w). a + b, a - b, - a: ends together.");
        Edge.span("let a=0;", 4, 0, 0);
        Edge.span("let a=-0;", 20, 0, 0);
        Edge.span("let a=999;", 20, 999L << 20, 999L << 20);
        Edge.span("let a=-999;", 20, -999L << 20, -999L << 20);
        // 5..6 with 5..6, less 5..6, and the ends changed
        Edge.span("let b=1/3;let a=b+b;", 4, 10, 12);
        Edge.span("let b=1/3;let a=b-b;", 4, -1, 1);
        Edge.span("let b=1/3;let a=-b;", 4, -6, -5);
        Edge.span("let b=1/3;let a=---b;", 4, -6, -5);
    }

    private static void promise6DownAndUp() {
        Edge.promise(6, "(down and up: to whole numbers downwards, upwards)");
        // 1 by 17 is less than one part by 4 bits, on both sides of 0
        Edge.span("let a=1/17;", 4, 0, 1);
        Edge.span("let a=-1/17;", 4, -1, 0);
        Edge.span("let a=1/16;", 4, 1, 1);
        Edge.span("let a=-1/16;", 4, -1, -1);
        Edge.span("let a=1/15;", 4, 1, 2);
        Edge.span("let a=-1/15;", 4, -2, -1);
        // products: 1 by 16 of 1, of 15, of 16, of 17 parts
        Edge.span("let b=1/16;let a=b*b;", 4, 0, 1);
        Edge.span("let b=1/16;let a=-b*b;", 4, -1, 0);
        Edge.span("let b=1/16;let a=b*(15*b);", 4, 0, 1);
        Edge.span("let b=1/16;let a=b*(16*b);", 4, 1, 1);
        Edge.span("let b=1/16;let a=-b*(16*b);", 4, -1, -1);
        Edge.span("let b=1/16;let a=b*(17*b);", 4, 1, 2);
        Edge.span("let b=1/16;let a=-b*(17*b);", 4, -2, -1);
        Edge.promise(6, "a * b: of the four products of ends the least down, the greatest up (by 2 to the w)");
        // 0..1 and -1..0 by 4 bits, and 5..6: each sign with each
        Edge.span("let b=1/3;let c=1/17;let a=b*c;", 4, 0, 1);
        Edge.span("let b=1/3;let c=-1/17;let a=b*c;", 4, -1, 0);
        Edge.span("let b=1/3;let c=8*(b-b);let a=b*c;", 4, -3, 3);
        Edge.span("let b=1/3;let c=8*(b-b);let a=c*b;", 4, -3, 3);
        Edge.span("let b=1/3;let c=8*(b-b);let a=-b*c;", 4, -3, 3);
        // -8..8 by -16..24: -12..12 is not to be, -8 * 24 is the least, 8 * 24 the most
        Edge.span("let b=1/3-1/3;let c=8*b;let d=20*b+1/4;let a=c*d;", 4, -12, 12);
        Edge.span("let b=1/3-1/3;let c=8*b+1/8;let d=20*b+1/4;let a=c*d;", 4, -10, 15);
        Edge.promise(6, "of the four quotients (ends of a times 2 to the w by ends of b) the least down, the greatest up");
        // -6..10 by 5..6, by -6..-5
        Edge.span("let b=1/3;let c=8*(b-b)+1/8;let a=c/b;", 4, -20, 32);
        Edge.span("let b=1/3;let c=8*(b-b)+1/8;let a=c/-b;", 4, -32, 20);
        Edge.span("let b=1/3;let a=2/b;", 4, 85, 103);
        Edge.span("let b=1/3;let a=-2/b;", 4, -103, -85);
        Edge.span("let b=1/3;let a=b/2;", 4, 2, 3);
        Edge.span("let b=1/3;let a=-b/2;", 4, -3, -2);
    }

    private static void promise6MaxMin() {
        Edge.promise(6, "max, min: of both LOWS, of both HIGHS");
        // 5..6 and 0..1, -1..1 and 0..0, 0..10 and 4..4
        Edge.span("let a=max(1/3,1/17);", 4, 5, 6);
        Edge.span("let a=max(1/17,1/3);", 4, 5, 6);
        Edge.span("let a=min(1/3,1/17);", 4, 0, 1);
        Edge.span("let a=min(1/17,1/3);", 4, 0, 1);
        Edge.span("let b=1/3-1/3;let a=max(b,0);", 4, 0, 1);
        Edge.span("let b=1/3-1/3;let a=min(0,b);", 4, -1, 0);
        Edge.span("let b=5*(1/3-1/3+1/16);let a=max(b,1/4);", 4, 4, 10);
        Edge.span("let b=5*(1/3-1/3+1/16);let a=min(1/4,b);", 4, 0, 4);
        Edge.span("let a=max(-1/3,-1/3);", 4, -6, -5);
        Edge.span("let a=min(-1/3,-1/3);", 4, -6, -5);
    }

    private static void promise6QuotientByNought() {
        Edge.promise(6, "a / b: NONE if b's span has 0 in it");
        Edge.none("let a=1/0;", 4);
        Edge.none("let a=0/0;", 20);
        Edge.none("let a=1/-0;", 20);
        // LOW is 0; HIGH is 0; both sides
        Edge.none("let a=1/(1/17);", 4);
        Edge.none("let a=1/(-1/17);", 4);
        Edge.none("let b=1/3;let a=1/(b-b);", 4);
        // LOW is one part, HIGH is one part below 0
        Edge.span("let a=1/(1/16);", 4, 256, 256);
        Edge.span("let a=1/(-1/16);", 4, -256, -256);
        Edge.span("let a=1/(1/15);", 4, 128, 256);
        Edge.span("let a=1/(-1/15);", 4, -256, -128);
        Edge.span("let a=1/(1/17);", 5, 512, 1024);
        Edge.span("let a=0/(1/16);", 4, 0, 0);
    }

    private static void promise6Roots() {
        Edge.promise(6, "sqrt: NONE if LOW is below 0; the roots of LOW, HIGH times 2 to the w, down and up");
        Edge.span("let a=sqrt(0);", 4, 0, 0);
        Edge.span("let a=sqrt(-0);", 20, 0, 0);
        Edge.span("let a=sqrt(1/17);", 4, 0, 4);
        Edge.none("let a=sqrt(-1/17);", 4);
        Edge.none("let a=sqrt(-1/16);", 4);
        Edge.none("let b=1/3;let a=sqrt(b-b);", 20);
        Edge.none("let a=sqrt(-1);", 4);
        // 64 parts have a root of whole parts, 63 and 65 have not: 31.74 and 32.24
        Edge.span("let a=sqrt(4);", 4, 32, 32);
        Edge.span("let a=sqrt(4-1/16);", 4, 31, 32);
        Edge.span("let a=sqrt(4+1/16);", 4, 32, 33);
        Edge.span("let a=sqrt(1/16);", 4, 4, 4);
        Edge.span("let a=sqrt(1);", 20, 1 << 20, 1 << 20);
        // the greatest there is: 2048, whose root is 45.25
        Edge.span("let a=sqrt(512*4);", 4, 724, 725);
        Edge.span("let a=sqrt(512*4);", 20, 47453132, 47453133);
        Edge.span("let b=32*32;let a=sqrt(1/b/b);", 20, 1 << 10, 1 << 10);
        Edge.span("let a=sqrt(45*45);", 20, 45L << 20, 45L << 20);
    }

    private static void promise6WithoutSign() {
        Edge.promise(6, "abs: 0 .. the greater of both without sign, if 0 is in it; else both without sign");
        Edge.span("let a=abs(0);", 4, 0, 0);
        Edge.span("let a=abs(1/17);", 4, 0, 1);
        Edge.span("let a=abs(-1/17);", 4, 0, 1);
        Edge.span("let b=1/3;let a=abs(b-b);", 4, 0, 1);
        // -1..2, -2..1: the greater without sign is 2
        Edge.span("let b=1/3-1/3;let a=abs(b+1/17);", 4, 0, 2);
        Edge.span("let b=1/3-1/3;let a=abs(b-1/17);", 4, 0, 2);
        Edge.span("let a=abs(1/16);", 4, 1, 1);
        Edge.span("let a=abs(-1/16);", 4, 1, 1);
        Edge.span("let a=abs(-1/15);", 4, 1, 2);
        Edge.span("let a=abs(1/15);", 4, 1, 2);
        Edge.span("let a=abs(-512*4);", 20, 2048L << 20, 2048L << 20);
    }

    /** By 4 bits p is 0..1, q is 1..1, r is 2..2. */
    private static void promise6Choices() {
        Edge.promise(6, "if a < b: if a's HIGH is below b's LOW the first E; if a's LOW is b's HIGH at least the second; else from the lesser LOW to the greater HIGH");
        String lines = "let p=1/17;let q=1/16;let r=1/8;let a=";
        Edge.span(lines + "if(p<r,3,5);", 4, 48, 48);
        Edge.span(lines + "if(q<r,3,5);", 4, 48, 48);
        Edge.span(lines + "if(p<q,3,5);", 4, 48, 80);
        Edge.span(lines + "if(q<p,3,5);", 4, 80, 80);
        Edge.span(lines + "if(q<q,3,5);", 4, 80, 80);
        Edge.span(lines + "if(p<p,3,5);", 4, 48, 80);
        Edge.span(lines + "if(r<p,3,5);", 4, 80, 80);
        Edge.span(lines + "if(p<q,5,3);", 4, 48, 80);
        Edge.promise(6, "a > b as b < a");
        Edge.span(lines + "if(r>p,3,5);", 4, 48, 48);
        Edge.span(lines + "if(r>q,3,5);", 4, 48, 48);
        Edge.span(lines + "if(q>p,3,5);", 4, 48, 80);
        Edge.span(lines + "if(p>q,3,5);", 4, 80, 80);
        Edge.span(lines + "if(q>q,3,5);", 4, 80, 80);
        Edge.span(lines + "if(p>r,3,5);", 4, 80, 80);
        Edge.promise(6, "else from the lesser LOW to the greater HIGH of both (NONE if one is)");
        Edge.span(lines + "if(p<q,r-p,q);", 4, 1, 2);
        Edge.span(lines + "if(p<q,-r,p-q);", 4, -2, 0);
        Edge.span(lines + "if(p<q,7,7);", 4, 112, 112);
        Edge.none(lines + "if(p<q,1/0,5);", 4);
        Edge.none(lines + "if(p<q,5,1/0);", 4);
    }

    private static void promise6ChoicesNotAsked() {
        Edge.promise(6, "(The E that isn't chosen isn't asked; with NONE in a or b none of both.)");
        Edge.span("let a=if(1<2,3,1/0);", 4, 48, 48);
        Edge.span("let a=if(2<1,1/0,3);", 4, 48, 48);
        Edge.work("let a=if(1<2,3,1+1+1);", 4, 4);
        Edge.work("let a=if(2<1,1+1+1,3);", 4, 4);
        Edge.work("let a=if(1<2,1+1+1,3);", 4, 8);
        Edge.work("let a=if(2<1,3,1+1+1);", 4, 8);
        Edge.none("let a=if(1/0<2,3,4);", 4);
        Edge.none("let a=if(2<1/0,3,4);", 4);
        Edge.none("let a=if(1/0>2,3,4);", 4);
        Edge.work("let a=if(1/0<1+1,1+1,1+1);", 4, 1 + 3 + 3);
        Edge.work("let a=if(1+1>1/0,1+1,1+1);", 4, 1 + 3 + 3);
        // both asked, the second even if the first is NONE: p is 0..1 by 4 bits
        Edge.work("let p=1/17;let a=if(p<1/16,1/0,1+1);", 4, 1 + 4 + 3 + 3 + 3);
    }

    private static void promise6Calls() {
        Edge.promise(6, "L(E): that of the function's E, t having E's span (not asked, if that is NONE)");
        Edge.none("fun f=5;let a=f(1/0);", 4);
        Edge.work("fun f=5+t;let a=f(1/0);", 4, 1 + 3);
        Edge.work("fun f=5+t;let a=f(1/1);", 4, 1 + 3 + 3);
        Edge.span("fun f=t;let a=f(1/3);", 4, 5, 6);
        Edge.span("fun f=t-t;let a=f(1/3);", 4, -1, 1);
        Edge.span("fun f=t;let a=f(512*4);", 4, 32768, 32768);
        Edge.none("fun f=t+t;let a=f(512*4);", 4);
    }

    private static void promise6NoughtEnds() {
        Edge.promise(6, "nought: f at I and at J (t from I to I): one HIGH below 0, the other's LOW above 0, else NONE");
        // 0 itself at an end, of the one side and of the other
        Edge.none("fun f=t;let a=nought(f,0,1);", 4);
        Edge.none("fun f=t;let a=nought(f,-1,0);", 4);
        Edge.none("fun f=-t;let a=nought(f,0,1);", 4);
        // 0..1 at 0, -1..0 at 0: neither above nor below
        Edge.none("fun f=t+1/17;let a=nought(f,-1,0);", 4);
        Edge.none("fun f=t-1/17;let a=nought(f,0,1);", 4);
        // one part above and below
        Edge.span("fun f=t+1/16;let a=nought(f,-1,0);", 4, -2, 0);
        Edge.span("fun f=t-1/16;let a=nought(f,0,1);", 4, 0, 2);
        Edge.span("fun f=1/16-t;let a=nought(f,0,1);", 4, 0, 2);
        // both on the same side, and NONE at either end
        Edge.none("fun f=t*t+1;let a=nought(f,-1,1);", 4);
        Edge.none("fun f=-t*t-1;let a=nought(f,-1,1);", 4);
        Edge.none("fun f=1/t;let a=nought(f,0,1);", 4);
        Edge.none("fun f=1/t;let a=nought(f,-1,0);", 4);
        Edge.work("fun f=1/t;let a=nought(f,0,1);", 4, 1 + 3 + 3);
        Edge.work("fun f=1/t;let a=nought(f,-1,0);", 4, 1 + 3 + 3);
        // from I to I, not from I to J: that would have 0 in it
        Edge.span("fun f=1/t;let a=nought(f,-1,2);", 4, -1, 2);
    }

    private static void promise6NoughtHalvings() {
        Edge.promise(6, "as long as they are more than 1 apart: the middle (down); f there");
        // 22 and 23 are 1 apart; both ends and five halvings, of five knots each
        Edge.span("fun f=t*t-2;let a=nought(f,0,2);", 4, 22, 23);
        Edge.work("fun f=t*t-2;let a=nought(f,0,2);", 4, 1 + 5 * (2 + 5));
        // the middle of -3 and 0 is -2, and f is below 0 there: of -2 and 0 it is -1, where it ends
        Edge.span("fun f=t+1/16;let a=nought(f,-3,0);", 4, -2, 0);
        Edge.promise(6, "if its HIGH is below 0 or its LOW above 0 the middle is the one of both ends that is so; else (NONE, too) it ends");
        Edge.span("fun f=t;let a=nought(f,-1,1);", 4, -16, 16);
        Edge.work("fun f=t;let a=nought(f,-1,1);", 4, 1 + 3);
        Edge.span("fun f=1/t;let a=nought(f,-1,1);", 4, -16, 16);
        Edge.work("fun f=1/t;let a=nought(f,-1,1);", 4, 1 + 3 * 3);
        // -1..0 in the middle, then 0..1: neither is below or above
        Edge.span("fun f=t-1/17;let a=nought(f,-1,1);", 4, -16, 16);
        Edge.span("fun f=t+1/17;let a=nought(f,-1,1);", 4, -16, 16);
        // one part above in the middle: it goes on to the left
        Edge.span("fun f=t+1/16;let a=nought(f,-1,1);", 4, -2, 0);
        Edge.span("fun f=t-1/16;let a=nought(f,-1,1);", 4, 0, 2);
        Edge.span("fun f=1/16-t;let a=nought(f,-1,1);", 4, 0, 2);
        // over all places there are, by the most bits: 1 by 3 is between 349525 and 349526, and f at either has 0 at an end
        Edge.span("fun f=t-1/3;let a=nought(f,-64,64);", 20, 349524, 349528);
        Edge.span("fun f=t-63;let a=nought(f,-64,64);", 4, 992, 1024);
    }

    private static void promise6Pieces() {
        Edge.promise(6, "PIECES: 2 to the (w by 4, downwards) of like width from I to J");
        for (int w = 4; w <= 20; w++) {
            long pieces = w < 8 ? 2 : w < 12 ? 4 : w < 16 ? 8 : w < 20 ? 16 : 32;
            long one = 1L << w;
            Edge.span("fun f=t;let a=most(f,0,1);", w, one - one / pieces, one);
            Edge.span("fun f=t;let a=least(f,0,1);", w, 0, one / pieces);
            Edge.work("fun f=t;let a=area(f,0,1);", w, 1 + pieces);
            Edge.span("fun f=t;let a=most(f,-64,64);", w, 64 * one - 128 * one / pieces, 64 * one);
            Edge.span("fun f=t;let a=least(f,-64,64);", w, -64 * one, -64 * one + 128 * one / pieces);
            Edge.span("fun f=-t;let a=most(f,-3,2);", w, 3 * one - 5 * one / pieces, 3 * one);
        }
        Edge.promise(6, "most: the greatest of the LOWS of f over PIECES (t from end to end), and of the HIGHS; least: likewise the least ones");
        // the greatest LOW and the greatest HIGH may be of two pieces: -1..0 and 0..1 of t*t-t are 0..2 and -1..1
        Edge.span("fun f=t*t-t;let a=most(f,-1,1);", 4, 0, 32);
        Edge.span("fun f=t*t-t;let a=least(f,-1,1);", 4, -16, 16);
        Edge.span("fun f=if(t<1,t*t-t,7);let a=least(f,-1,1);", 4, -16, 32);
        Edge.span("fun f=t;let a=most(f,-64,-63);", 4, -1016, -1008);
        Edge.span("fun f=t;let a=least(f,63,64);", 4, 1008, 1016);
    }

    private static void promise6PiecesNone() {
        Edge.promise(6, "NONE as soon as f is NONE over one");
        for (String word : new String[] {"most", "least"}) {
            Edge.none("fun f=1/t;let a=" + word + "(f,0,1);", 4);
            Edge.none("fun f=1/t;let a=" + word + "(f,-1,0);", 4);
            Edge.none("fun f=1/(t-1);let a=" + word + "(f,-1,2);", 20);
            Edge.work("fun f=1/t;let a=" + word + "(f,0,1);", 20, 1 + 3);
            Edge.work("fun f=1/t;let a=" + word + "(f,-1,0);", 4, 1 + 3 + 3);
            Edge.work("fun f=1/t;let a=" + word + "(f,-1,0);", 20, 1 + 32 * 3);
        }
    }

    private static void promise6Area() {
        Edge.promise(6, "area: the sum of LOW times (the piece's ends' difference) by 2 to the w, down each, and of HIGH likewise, up each");
        // 5..6 times 8 by 16, twice: 2.5 down, 3; with the other sign -3, 2.5 up
        Edge.span("fun f=1/3;let a=area(f,0,1);", 4, 4, 6);
        Edge.span("fun f=-1/3;let a=area(f,0,1);", 4, -6, -4);
        // 0..1 times 8 by 16, twice: 0, and 0.5 up each
        Edge.span("fun f=1/17;let a=area(f,0,1);", 4, 0, 2);
        Edge.span("fun f=-1/17;let a=area(f,0,1);", 4, -2, 0);
        Edge.span("fun f=1/16;let a=area(f,0,1);", 4, 0, 2);
        Edge.span("fun f=1/8;let a=area(f,0,1);", 4, 2, 2);
        Edge.none("fun f=1/t;let a=area(f,0,1);", 4);
        Edge.none("fun f=1/t;let a=area(f,-1,0);", 20);
        Edge.span("fun f=16;let a=area(f,-64,64);", 20, 2048L << 20, 2048L << 20);
        Edge.none("fun f=17;let a=area(f,-64,64);", 20);
        // far beyond on both sides, and together within: each piece has a span of its own
        Edge.span("fun f=t*32;let a=area(f,-1,1);", 4, -512, 512);
    }

    private static void promise6Work() {
        Edge.promise(6, "WORK of asking by w: how many KNOTS are asked (each time anew, those of all that is asked with it)");
        Edge.work("let a=((1));", 4, 1);
        Edge.work("let b=1;let a=b;", 4, 2);
        Edge.work("let b=1;let c=b+b;let a=c*c;", 4, 1 + 2 * (1 + 1 + 2 * 2));
        Edge.work("fun f=t*t;let a=f(f(1));", 4, 1 + 1 + 1 + 3 + 3);
        Edge.work("let a=-(1+2);", 4, 4);
        SureSums x = Edge.told("let a=1;fun f=a+t;");
        Edge.due("WORK of a function", x.at(F, 0, 1, 4, 2), 4);
        Edge.due("each call anew", x.at(F, 0, 1, 4, 2), 4);
    }

    private static void promise6WorkOf20000() {
        Edge.promise(6, "2: WORK (20001 if there was more)");
        // b has WORK 1, and each letter behind it 3 and twice that of the one ahead: k has 2045
        StringBuilder lines = new StringBuilder("let b=0;");
        for (char c = 'c'; c <= 'k'; c++) {
            lines.append("let ").append(c).append('=').append((char) (c - 1)).append('+').append((char) (c - 1)).append(';');
        }
        String sum = "k+k+k+k+k+k+k+k+k+j+i+e+c+b+b;";
        for (int w = 4; w <= 20; w += 16) {
            Edge.work(lines + "let a=" + sum, w, 20000);
            Edge.span(lines + "let a=" + sum, w, 0, 0);
            Edge.work(lines + "let a=-" + sum, w, 20001);
            Edge.none(lines + "let a=-" + sum, w);
            Edge.work(lines + "let a=--" + sum, w, 20001);
            Edge.none(lines + "let a=--" + sum, w);
            Edge.work(lines + "let a=k+k+" + sum, w, 20001);
            Edge.none(lines + "let a=k+k+" + sum, w);
        }
        SureSums x = Edge.told(lines + "let a=-" + sum + "fun x=t+" + sum.replace("b+b;", "b;") + "fun y=t+k;");
        Edge.due("WORK of x", x.at(23, 0, 1, 4, 2), 20000 - 3 + 2);
        Edge.due("HIGH of x", x.at(23, 0, 1, 4, 1), 16);
        Edge.due("HIGH of y", x.at(24, 0, 1, 4, 1), 16);
        Edge.due("digits", x.digits(0), -2);
        Edge.due("ask", x.ask(0, 0, 0), -1);
        Edge.due("ask", x.ask(0, 0, 1), MIN);
        Edge.due("off", x.off(0), 2);
        Edge.dueDouble("machine, which has no WORK", x.machine(0), 0.0);
        Edge.due("exact, which has none", x.exact(0, 0), 0);
        Edge.due("compare", x.compare(0, 0), 0);
    }

    /** By 20 bits 32 pieces: h asks 1 + 32 * 33 knots over one, and 32 times that is too much. */
    private static void promise6WorkInOvers() {
        Edge.promise(6, "with more than 20000 all is NONE at once");
        String lines = "fun f=t;fun g=area(f,0,1);fun h=area(g,0,1);let p=1/3*3;let a=";
        for (String word : new String[] {"area", "most", "least"}) {
            Edge.none(lines + word + "(h,0,1);", 20);
            Edge.work(lines + word + "(h,0,1);", 20, 20001);
            Edge.work(lines + word + "(h,0,1);", 16, 1 + 16 * (1 + 16 * 17));
        }
        // even where a NONE alone would only end the halving, or not be chosen
        String halved = "fun f=t;fun g=area(f,0,1);fun h=area(g,0,1);fun i=if(t<0,-1,if(0<t,1,area(h,0,1)));let a=";
        Edge.none(halved + "nought(i,-1,1);", 20);
        Edge.work(halved + "nought(i,-1,1);", 20, 20001);
        // by 16 it is above 0 in the middle
        Edge.span(halved + "nought(i,-1,1);", 16, -1, 0);
        Edge.none(lines + "if(p<1,area(h,0,1),2);", 20);
        Edge.none(lines + "area(h,0,1)+1/0;", 20);
        Edge.work(lines + "1/0+area(h,0,1);", 20, 20001);
        Edge.span(lines + "if(1<2,7,area(h,0,1));", 20, 7 << 20, 7 << 20);
        Edge.none(lines + "if(area(h,0,1)<2,7,8);", 20);
        Edge.none("fun f=t;fun g=area(f,0,1);fun h=area(g,0,1);fun i=7;let a=i(area(h,0,1));", 20);
    }

    private static void promise7Places() {
        Edge.promise(7, "Of a function likewise, t from I to J (-64 .. 64, I at most J)");
        SureSums x = Edge.told("fun f=t;");
        for (int w = 4; w <= 20; w++) {
            Edge.due("LOW from -64 to 64 by " + w, x.at(F, -64, 64, w, 0), -64L << w);
            Edge.due("HIGH from -64 to 64 by " + w, x.at(F, -64, 64, w, 1), 64L << w);
        }
        for (int i = -64; i <= 64; i++) {
            Edge.due("from " + i + " to the same, LOW", x.at(F, i, i, 4, 0), 16L * i);
            Edge.due("from " + i + " to the same, HIGH", x.at(F, i, i, 4, 1), 16L * i);
            Edge.due("from " + i + " up, LOW", x.at(F, i, 64, 4, 0), 16L * i);
            Edge.due("from below up to " + i, x.at(F, -64, i, 4, 1), 16L * i);
        }
    }

    private static void promise7Refused() {
        Edge.promise(7, "Long.MIN_VALUE: NONE, no such ones.");
        SureSums x = Edge.told("fun f=t;let a=1;");
        int[][] places = {{-65, 0}, {0, 65}, {-65, 65}, {-65, -65}, {65, 65}, {1, 0}, {64, 63}, {64, -64}, {-63, -64},
            {Edge.LEAST_INT, 0}, {0, Edge.MOST_INT}, {Edge.LEAST_INT, Edge.MOST_INT}, {Edge.MOST_INT, Edge.LEAST_INT},
            {Edge.LEAST_INT, Edge.LEAST_INT}, {Edge.MOST_INT, Edge.MOST_INT}, {-256, 0}, {0, 256}, {256, 256}};
        for (int what = 0; what < 3; what++) {
            for (int[] both : places) {
                Edge.due("at(f, " + both[0] + ", " + both[1] + ", 4, " + what + ")", x.at(F, both[0], both[1], 4, what), MIN);
            }
            for (int w : new int[] {3, 21, -1, 0, 36, Edge.LEAST_INT, Edge.MOST_INT}) {
                Edge.due("at(f, 0, 1, " + w + ", " + what + ")", x.at(F, 0, 1, w, what), MIN);
            }
            Edge.due("at of a number", x.at(0, 0, 1, 4, what), MIN);
            Edge.due("at of nothing", x.at(1, 0, 1, 4, what), MIN);
            for (int letter : Edge.NO_LETTERS) {
                Edge.due("at(" + letter + ", 0, 1, 4, " + what + ")", x.at(letter, 0, 1, 4, what), MIN);
            }
        }
        for (int what : new int[] {-1, 3, 256, Edge.LEAST_INT, Edge.MOST_INT}) {
            Edge.due("at(f, 0, 1, 4, " + what + ")", x.at(F, 0, 1, 4, what), MIN);
        }
    }

    private static void promise7NoneAndWork() {
        Edge.promise(7, "Long.MIN_VALUE: NONE");
        SureSums x = Edge.told("fun f=1/t;fun g=t*t;");
        Edge.due("LOW with 0 in it", x.at(F, -1, 1, 4, 0), MIN);
        Edge.due("HIGH with 0 in it", x.at(F, -1, 1, 4, 1), MIN);
        Edge.due("WORK with 0 in it", x.at(F, -1, 1, 4, 2), 3);
        Edge.due("LOW at 0", x.at(F, 0, 0, 4, 0), MIN);
        Edge.due("LOW beside 0", x.at(F, 1, 2, 4, 0), 8);
        // 45 times 45 is within, 46 times 46 is not; 64 times -64 is below
        Edge.due("45", x.at(6, 45, 45, 20, 1), 2025L << 20);
        Edge.due("46", x.at(6, 46, 46, 20, 1), MIN);
        Edge.due("-46", x.at(6, -46, -46, 20, 0), MIN);
        Edge.due("-32 .. 64", x.at(6, -32, 64, 4, 0), MIN);
        Edge.due("-32 .. 32", x.at(6, -32, 32, 4, 0), -16384);
    }

    private static void promise8BitsAtLeast() {
        Edge.promise(8, "ASKED for p bits (0 .. 16): by w = 4, 8, 12, 16, 20 in order, those of p at least");
        SureSums x = Edge.told("let a=-7;");
        for (int p = 0; p <= 16; p++) {
            int w = p <= 4 ? 4 : p <= 8 ? 8 : p <= 12 ? 12 : 16;
            Edge.due("ask(a, " + p + ", 0)", x.ask(0, p, 0), w);
            Edge.due("ask(a, " + p + ", 1)", x.ask(0, p, 1), -7L << w);
            Edge.due("ask(a, " + p + ", 2)", x.ask(0, p, 2), -7L << w);
        }
    }

    private static void promise8WideEnough() {
        Edge.promise(8, "the first whose span isn't NONE and HIGH less LOW is at most 2 to the (w less p): GIVEN");
        // a is 2 wide by all bits, b 3 wide by 4 and 2 or 3 by more
        SureSums x = Edge.told("let a=1/3-1/3;let b=1/3*3;let c=1/(1/17);");
        Edge.due("a for 3 bits", x.ask(0, 3, 0), 4);
        Edge.due("a for 4 bits", x.ask(0, 4, 0), 8);
        Edge.due("a for 7 bits", x.ask(0, 7, 0), 8);
        Edge.due("a for 8 bits", x.ask(0, 8, 0), 12);
        Edge.due("a for 11 bits", x.ask(0, 11, 0), 12);
        Edge.due("a for 12 bits", x.ask(0, 12, 0), 16);
        Edge.due("a for 15 bits", x.ask(0, 15, 0), 16);
        Edge.due("a for 16 bits", x.ask(0, 16, 0), 20);
        Edge.due("a for 16 bits, LOW", x.ask(0, 16, 1), -1);
        Edge.due("a for 16 bits, HIGH", x.ask(0, 16, 2), 1);
        Edge.due("b for 2 bits", x.ask(1, 2, 0), 4);
        Edge.due("b for 2 bits, LOW", x.ask(1, 2, 1), 15);
        Edge.due("b for 2 bits, HIGH", x.ask(1, 2, 2), 18);
        Edge.due("b for 3 bits", x.ask(1, 3, 0), 8);
        // c has none by 4: 256 by 15..16 is 4096..4370 of 256 parts, more than 1 wide
        Edge.due("c for 0 bits", x.ask(2, 0, 0), 12);
        Edge.due("c by 8, wide", x.span(2, 8, 1) - x.span(2, 8, 0), 274);
        Edge.due("c by 4", x.span(2, 4, 0), MIN);
    }

    private static void promise8GivenUp() {
        Edge.promise(8, "what 0: the w (NONE: GIVEN UP), 1: LOW, 2: HIGH (of HAD, if it is GIVEN UP)");
        SureSums x = Edge.told("let b=1/3*3;let a=if(b<1,5,6);let c=if(b<1,5,7);let d=1/0;");
        // a is as wide as 1, c as wide as 2
        Edge.due("a for 0 bits", x.ask(0, 0, 0), 4);
        Edge.due("a for 1 bit", x.ask(0, 1, 0), -1);
        Edge.due("a for 1 bit, LOW by 20", x.ask(0, 1, 1), 5L << 20);
        Edge.due("a for 16 bits, HIGH by 20", x.ask(0, 16, 2), 6L << 20);
        for (int p = 0; p <= 16; p++) {
            Edge.due("c for " + p + " bits", x.ask(2, p, 0), -1);
            Edge.due("c for " + p + " bits, LOW", x.ask(2, p, 1), 5L << 20);
            Edge.due("c for " + p + " bits, HIGH", x.ask(2, p, 2), 7L << 20);
        }
        Edge.promise(8, "Long.MIN_VALUE: .. of 1, 2: there is none.");
        for (int p = 0; p <= 16; p += 4) {
            Edge.due("d for " + p + " bits", x.ask(3, p, 0), -1);
            Edge.due("d for " + p + " bits, LOW", x.ask(3, p, 1), MIN);
            Edge.due("d for " + p + " bits, HIGH", x.ask(3, p, 2), MIN);
        }
    }

    /** Areas of areas: too much WORK by many bits, so that there is a span by few alone. */
    private static void promise8Had() {
        Edge.promise(8, "HAD: the span by the greatest w of these that isn't NONE");
        String lines = "fun f=t;fun g=area(f,0,1);fun h=area(g,0,1);fun i=area(h,0,1);let a=area(h,0,1);let c=area(i,0,1);let b=1/3*3;let d=if(b<1,c,c+9);";
        SureSums x = Edge.told(lines);
        int a = 0;
        int d = 3;
        Edge.due("a by 20", x.span(a, 20, 0), MIN);
        Edge.due("a given up for 16 bits", x.ask(a, 16, 0), -1);
        Edge.due("a had by 16, LOW", x.ask(a, 16, 1), x.span(a, 16, 0));
        Edge.due("a had by 16, HIGH", x.ask(a, 16, 2), x.span(a, 16, 1));
        // c asks 1 + 8 * 585 knots by 12 bits, and 1 + 16 * 4369 by 16
        Edge.due("d by 12, WORK", x.span(d, 12, 2), 1 + (1 + 5) + 1 + (1 + 4681) + (3 + 4681));
        Edge.due("d by 16", x.span(d, 16, 0), MIN);
        for (int p : new int[] {0, 4, 5, 8, 9, 12}) {
            Edge.due("d given up for " + p, x.ask(d, p, 0), -1);
            Edge.due("d had by 12, LOW, for " + p, x.ask(d, p, 1), x.span(d, 12, 0));
            Edge.due("d had by 12, HIGH, for " + p, x.ask(d, p, 2), x.span(d, 12, 1));
        }
        Edge.promise(8, "of these .. those of p at least");
        for (int p = 13; p <= 16; p++) {
            Edge.due("d given up for " + p, x.ask(d, p, 0), -1);
            Edge.due("d not had, LOW, for " + p, x.ask(d, p, 1), MIN);
            Edge.due("d not had, HIGH, for " + p, x.ask(d, p, 2), MIN);
        }
    }

    private static void promise8Refused() {
        Edge.promise(8, "Long.MIN_VALUE: no such ones");
        SureSums x = Edge.told("let a=1;fun f=t;");
        for (int what = 0; what < 3; what++) {
            for (int p : new int[] {-1, 17, 18, 20, 256, 65540, Edge.LEAST_INT, Edge.MOST_INT}) {
                Edge.due("ask(a, " + p + ", " + what + ")", x.ask(0, p, what), MIN);
            }
            Edge.due("ask of a function", x.ask(F, 4, what), MIN);
            Edge.due("ask of nothing", x.ask(1, 4, what), MIN);
            for (int letter : Edge.NO_LETTERS) {
                Edge.due("ask(" + letter + ", 4, " + what + ")", x.ask(letter, 4, what), MIN);
            }
        }
        for (int what : new int[] {-1, 3, 256, Edge.LEAST_INT, Edge.MOST_INT}) {
            Edge.due("ask(a, 4, " + what + ")", x.ask(0, 4, what), MIN);
        }
    }
}
