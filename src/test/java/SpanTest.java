/** Promises 6 to 8: span, at, ask. */
public final class SpanTest {
    private static final long MIN = Long.MIN_VALUE;

    public static void main(String[] args) {
        plainOnes();
        productsAndQuotients();
        roots();
        withoutSign();
        choices();
        limits();
        lettersAndFunctions();
        noughts();
        overPieces();
        waitingParts();
        workCounted();
        workBounded();
        at();
        asked();
        wrongInputs();
        Check.finish();
    }

    /** The number a of a text by w: its span. */
    private static void span(String text, int w, long low, long high) {
        SureSums x = Check.told(text);
        Check.due("LOW by " + w + " of " + text, x.span(0, w, 0), low);
        Check.due("HIGH by " + w + " of " + text, x.span(0, w, 1), high);
    }

    private static void none(String text, int w) {
        span(text, w, MIN, MIN);
    }

    private static void work(String text, int w, long work) {
        Check.due("WORK by " + w + " of " + text, Check.told(text).span(0, w, 2), work);
    }

    private static void plainOnes() {
        span("let a=3;", 4, 48, 48);
        span("let a=3;", 20, 3L << 20, 3L << 20);
        span("let a=1-3;", 4, -32, -32);
        span("let a=-(1/3);", 4, -6, -5);
        span("let a=1/3+1/3;", 4, 10, 12);
        span("let a=1/3-1/3;", 4, -1, 1);
        span("let a=2-1-1;", 4, 0, 0);
        span("let a=8/2/2;", 4, 32, 32);
        span("let a=2+3*4;", 5, 14 * 32, 14 * 32);
        span("let a=--3;", 4, 48, 48);
        span("let a=max(1/3,1/4)+min(1,2);", 4, 5 + 16, 6 + 16);
        // LOWS and HIGHS each for itself: -1..1 against 0
        span("let b=1/3-1/3;let a=max(b,0);", 4, 0, 1);
        span("let b=1/3-1/3;let a=min(b,0);", 4, -1, 0);
    }

    private static void productsAndQuotients() {
        // 1/3 by 4 bits is 5..6: the squares 25 and 36 by 16
        span("let b=1/3;let a=b*b;", 4, 1, 3);
        span("let b=1/3;let a=-b*b;", 4, -3, -1);
        span("let b=1/3-1/3;let a=b*b;", 4, -1, 1);
        span("let a=7/2;", 4, 56, 56);
        span("let a=-1/3;", 4, -6, -5);
        span("let a=1/-3;", 4, -6, -5);
        // 16 by 5..6 times 16: 42.6, 51.2
        span("let b=1/3;let a=1/b;", 4, 42, 52);
        span("let b=1/3;let a=1/-b;", 4, -52, -42);
        span("let b=1/3;let a=-1/b;", 4, -52, -42);
        span("let b=1/3;let a=-1/-b;", 4, 42, 52);
        // 5..6 by 5..6 times 16: 13.3, 19.2
        span("let b=1/3;let a=b/b;", 4, 13, 20);
        span("let b=1/3;let a=-b/-b;", 4, 13, 20);
        span("let b=1/3;let a=-b/b;", 4, -20, -13);
        span("let b=1/3;let a=b/-b;", 4, -20, -13);
        // -1..1 by 5..6 times 16: -3.2 .. 3.2
        span("let b=1/3;let a=(b-b)/b;", 4, -4, 4);
        none("let a=1/0;", 4);
        none("let b=1/3;let a=1/(b-b);", 20);
        // a divisor whose span only touches 0
        none("let a=1/max(1/3-1/3,0);", 4);
        none("let a=1/min(1/3-1/3,0);", 4);
        none("let a=0/0;", 8);
    }

    private static void roots() {
        span("let a=sqrt(2);", 4, 22, 23);
        span("let a=sqrt(2);", 20, 1482910, 1482911);
        span("let a=sqrt(4);", 4, 32, 32);
        span("let a=sqrt(0);", 4, 0, 0);
        span("let a=sqrt(1/4);", 4, 8, 8);
        // 5..6: roots of 80 and 96
        span("let a=sqrt(1/3);", 4, 8, 10);
        none("let a=sqrt(-1);", 4);
        none("let a=sqrt(1/3-1/3);", 4);
        span("let a=sqrt(999+999);", 20, 46870291, 46870292);
    }

    private static void withoutSign() {
        span("let a=abs(-3);", 4, 48, 48);
        span("let a=abs(3);", 4, 48, 48);
        span("let a=abs(-1/3);", 4, 5, 6);
        span("let b=1/3-1/3;let a=abs(b);", 4, 0, 1);
        // 10..12 less 3 times 5..6: -8..-3, and 2 or 4 more
        span("let b=1/3;let a=abs(b+b-b-b-b+1/8);", 4, 1, 6);
        span("let b=1/3;let a=abs(b+b-b-b-b+1/4);", 4, 0, 4);
        span("let a=abs(0);", 4, 0, 0);
    }

    private static void choices() {
        span("let a=if(1<2,3,4);", 4, 48, 48);
        span("let a=if(2<1,3,4);", 4, 64, 64);
        span("let a=if(1<1,3,4);", 4, 64, 64);
        span("let a=if(1>1,3,4);", 4, 64, 64);
        span("let a=if(2>1,3,4);", 4, 48, 48);
        span("let a=if(1>2,3,4);", 4, 64, 64);
        // 15..18 against 16: open
        span("let b=1/3*3;let a=if(b<1,3,4);", 4, 48, 64);
        span("let b=1/3*3;let a=if(b<1,4,3);", 4, 48, 64);
        // the lesser LOW and the greater HIGH of both
        span("let b=1/3*3;let a=if(b>1,1/3,1/7);", 4, 2, 6);
        // LOW of the one is HIGH of the other: at least, so the second
        span("let b=max(1/3*3,1);let a=if(b<1,3,4);", 4, 64, 64);
        span("let b=min(1/3*3,1);let a=if(1<b,3,4);", 4, 64, 64);
        span("let b=min(1/3*3,1);let a=if(b<1,3,4);", 4, 48, 64);
        // the one that isn't chosen isn't asked
        span("let a=if(1<2,3,1/0);", 4, 48, 48);
        span("let a=if(2<1,1/0,3);", 4, 48, 48);
        none("let b=1/3*3;let a=if(b<1,3,1/0);", 4);
        none("let b=1/3*3;let a=if(b<1,1/0,3);", 4);
        none("let a=if(1/0<1,3,4);", 4);
        none("let a=if(1<1/0,3,4);", 4);
        span("let b=1/3*3;let a=if(b<1,if(b<1,1,2),if(1<2,5,6))+if(b>1,1,3);", 4, 32, 128);
    }

    private static void limits() {
        span("let a=512*4;", 4, 2048 * 16, 2048 * 16);
        span("let a=-512*4;", 20, -2048L << 20, -2048L << 20);
        none("let a=512*4+1/999;", 4);
        none("let a=-512*4-1/999;", 4);
        none("let a=999*999;", 20);
        none("let a=999*999/999;", 20);
        none("let a=999*3-999*3;", 20);
        none("let a=1/(1/999)*3;", 20);
        span("let a=512*4-1/999;", 20, 2147482598, 2147482599);
        span("let a=32*32*2-1;", 20, 2047L << 20, 2047L << 20);
    }

    private static void lettersAndFunctions() {
        span("let b=2;let c=b*b;let a=c*c;", 4, 256, 256);
        span("fun f=t*t-2;let a=f(3);", 4, 112, 112);
        span("fun f=t*t-2;let a=f(f(2));", 4, 32, 32);
        span("fun f=t;fun g=f(t)+f(1);let a=g(4);", 4, 80, 80);
        // t keeps its own value behind a call
        span("fun f=t+10;fun g=f(1)+t;let a=g(4);", 4, 240, 240);
        none("fun f=5;let a=f(1/0);", 4);
        span("fun f=5;let a=f(7);", 4, 80, 80);
        span("let b=2;fun f=b*t;let a=f(3);", 4, 96, 96);
    }

    private static void noughts() {
        span("fun f=t*t-2;let a=nought(f,0,2);", 4, 22, 23);
        span("fun f=t*t-2;let a=nought(f,0,2);", 20, 1482910, 1482911);
        span("fun f=2-t*t;let a=nought(f,0,2);", 20, 1482910, 1482911);
        span("fun f=t*t-2;let a=nought(f,-2,0);", 4, -23, -22);
        // the middle hits it: it ends at once
        span("fun f=t;let a=nought(f,-1,1);", 4, -16, 16);
        span("fun f=t;let a=nought(f,-1,2);", 4, -1, 2);
        span("fun f=t-1;let a=nought(f,-64,64);", 4, 0, 32);
        none("fun f=t*t;let a=nought(f,-1,1);", 4);
        none("fun f=t;let a=nought(f,0,1);", 4);
        none("fun f=t;let a=nought(f,-1,0);", 4);
        none("fun f=1;let a=nought(f,-1,0);", 4);
        none("fun f=1/t;let a=nought(f,0,1);", 4);
        // NONE in the middle ends it too, and the span stays
        span("fun f=1/t;let a=nought(f,-1,1);", 4, -16, 16);
        span("fun f=1/t;let a=nought(f,-1,2);", 4, -1, 2);
    }

    private static void overPieces() {
        // w 4: the two pieces -1..1, 1..3 of t*t-2
        span("fun f=t*t-2;let a=most(f,-1,3);", 4, -16, 112);
        span("fun f=t*t-2;let a=least(f,-1,3);", 4, -48, -16);
        span("fun f=t;let a=area(f,0,1);", 4, 4, 12);
        // four pieces by 8 .. 11 bits, eight by 12
        span("fun f=t;let a=area(f,0,1);", 8, 96, 160);
        span("fun f=t;let a=area(f,0,1);", 11, 768, 1280);
        span("fun f=t;let a=area(f,0,1);", 12, 1792, 2304);
        span("fun f=t;let a=area(f,-1,1);", 4, -16, 16);
        span("fun f=-t;let a=area(f,0,1);", 4, -12, -4);
        span("fun f=1/3;let a=area(f,0,1);", 4, 4, 6);
        span("fun f=-1/3;let a=area(f,0,1);", 4, -6, -4);
        span("fun f=t;let a=most(f,0,1);", 20, 31 * 32768, 1 << 20);
        span("fun f=t;let a=least(f,0,1);", 20, 0, 32768);
        span("fun f=t;let a=most(f,-3,-2);", 4, -40, -32);
        none("fun f=1/t;let a=most(f,-1,1);", 4);
        none("fun f=1/t;let a=least(f,0,1);", 4);
        none("fun f=1/t;let a=area(f,0,1);", 4);
        none("fun f=999;let a=area(f,0,3);", 4);
        none("fun f=-999;let a=area(f,0,3);", 4);
        span("fun f=999;let a=area(f,0,2);", 4, 1998 * 16, 1998 * 16);
        // t is nothing to what is inside
        span("fun f=t;fun g=t+area(f,0,2);let a=most(g,0,1);", 4, 16 + 8, 16 + 48);
    }

    /** 96 knots, of which as many as can be wait for the innermost: three in each bracket, over two lines. */
    private static void waitingParts() {
        String b = "1+1*max(1,".repeat(8) + "1" + ")".repeat(8);
        String a = "1+1*max(1,".repeat(7) + "1+1*b" + ")".repeat(7);
        String text = "let b=" + b + ";let a=" + a + ";";
        span(text, 4, 17 * 16, 17 * 16);
        SureSums x = Check.told(text);
        Check.due("knots", x.count(2), 96);
        Check.dueDouble("machine(a)", x.machine(0), 17.0);
        Check.due("off(a)", x.off(0), 0);
        String exact = "let b=" + "1+1*(".repeat(8) + "1" + ")".repeat(8) + ";let a=" + "1+1*(".repeat(8) + "1+1*b" + ")".repeat(8) + ";";
        span(exact, 4, 18 * 16, 18 * 16);
        Check.due("exact(a)", Check.told(exact).exact(0, 0), 18);
    }

    private static void workCounted() {
        work("let a=1;", 4, 1);
        work("let a=(((1)));", 4, 1);
        work("let a=-1+2;", 4, 4);
        work("let b=1/3;let a=b*b;", 4, 3 + 3 + 3);
        work("fun f=t*t-2;let a=f(3);", 4, 7);
        work("fun f=t*t-2;let a=f(1/0);", 4, 4);
        // with NONE in one all other parts are asked
        work("let a=1/0+(2+3);", 4, 7);
        work("let a=sqrt(-1)*2;", 4, 5);
        work("let a=max(1/0,1/0);", 4, 7);
        work("let a=if(1<2,3,4+5);", 4, 4);
        work("let a=if(2<1,3,4+5);", 4, 6);
        work("let a=if(1/0<2+1,3,4);", 4, 7);
        work("let b=1/3*3;let a=if(b<1,3,4+5);", 4, 1 + 6 + 1 + 1 + 3);
        work("let b=1/3*3;let a=if(b<1,1/0,4+5);", 4, 1 + 6 + 1 + 3 + 3);
        work("fun f=t*t;let a=area(f,0,1);", 4, 1 + 2 * 3);
        work("fun f=t*t;let a=most(f,0,1);", 12, 1 + 8 * 3);
        work("fun f=t*t;let a=least(f,0,1);", 20, 1 + 32 * 3);
        // as soon as it is NONE over one
        work("fun f=1/t;let a=most(f,0,1);", 20, 1 + 3);
        work("fun f=1/t;let a=least(f,-1,1);", 4, 1 + 3);
        // both ends; both ends and the middle, which ends it
        work("fun f=1;let a=nought(f,0,1);", 4, 1 + 2);
        work("fun f=t;let a=nought(f,-1,1);", 4, 1 + 3);
        // from 0..32 on five halvings
        work("fun f=t*t-2;let a=nought(f,0,2);", 4, 1 + 5 * (2 + 5));
    }

    private static void workBounded() {
        // w 20, 32 pieces: f 1, g 33, h 1057, k 33825
        String lines = "fun f=t;fun g=area(f,0,1);fun h=area(g,0,1);";
        work(lines + "let a=h(0);", 20, 1 + 1 + 1 + 32 * 33);
        work(lines + "let a=area(h,0,1);", 20, 20001);
        none(lines + "let a=area(h,0,1);", 20);
        none(lines + "let a=nought(h,0,1)+1;", 20);
        none(lines + "let b=area(h,0,1);let a=if(1<2,1,2)+b;", 20);
        work(lines + "let a=area(h,0,1);", 16, 1 + 16 * (1 + 16 * 17));
        work20000();
    }

    private static void work20000() {
        // b has WORK 1, and each letter behind it 3 and twice that of the one ahead: k has 2045
        StringBuilder lines = new StringBuilder("let b=0;");
        for (char c = 'c'; c <= 'k'; c++) {
            char ahead = (char) (c - 1);
            lines.append("let ").append(c).append('=').append(ahead).append('+').append(ahead).append(';');
        }
        Check.due("WORK of k", Check.told(lines.toString()).span(10, 4, 2), 2045);
        String sum = "k+k+k+k+k+k+k+k+k+j+i+e+c+b+b;";
        work(lines + "let a=" + sum, 4, 20000);
        span(lines + "let a=" + sum, 20, 0, 0);
        work(lines + "let a=-" + sum, 4, 20001);
        none(lines + "let a=-" + sum, 20);
        work(lines + "let a=--" + sum, 4, 20001);
    }

    private static void at() {
        SureSums x = Check.told("fun f=t*t-2;fun g=1/t;let a=1;");
        int f = 5;
        int g = 6;
        Check.due("at(f,0,2,4,0)", x.at(f, 0, 2, 4, 0), -32);
        Check.due("at(f,0,2,4,1)", x.at(f, 0, 2, 4, 1), 32);
        Check.due("at(f,0,2,4,2)", x.at(f, 0, 2, 4, 2), 5);
        Check.due("at(f,-64,64) beyond the limit", x.at(f, -64, 64, 20, 0), MIN);
        Check.due("at(f,-45,45)", x.at(f, -45, 45, 20, 1), 2023L << 20);
        Check.due("at(g,-64,-64)", x.at(g, -64, -64, 12, 0), -64);
        Check.due("at(g,64,64)", x.at(g, 64, 64, 4, 0), 0);
        Check.due("at(g,64,64)", x.at(g, 64, 64, 4, 1), 1);
        Check.due("at(g,0,1)", x.at(g, 0, 1, 4, 0), MIN);
        Check.due("at(g,0,1), work", x.at(g, 0, 1, 4, 2), 3);
        Check.due("at, i above j", x.at(f, 2, 1, 4, 0), MIN);
        Check.due("at, i above j, work", x.at(f, 2, 1, 4, 2), MIN);
        Check.due("at, i below -64", x.at(f, -65, 1, 4, 0), MIN);
        Check.due("at, j above 64", x.at(f, 1, 65, 4, 0), MIN);
        Check.due("at, w 3", x.at(f, 1, 1, 3, 0), MIN);
        Check.due("at, w 21", x.at(f, 1, 1, 21, 0), MIN);
        Check.due("at, what 3", x.at(f, 1, 1, 4, 3), MIN);
        Check.due("at, what -1", x.at(f, 1, 1, 4, -1), MIN);
        Check.due("at of a number", x.at(0, 1, 1, 4, 0), MIN);
        Check.due("at of nothing", x.at(1, 1, 1, 4, 0), MIN);
        Check.due("at of no letter", x.at(-1, 1, 1, 4, 0), MIN);
        Check.due("at of no letter", x.at(26, 1, 1, 4, 0), MIN);
    }

    private static void asked() {
        SureSums x = Check.told("let a=1/3;let b=a*3;let c=if(b<1,5,7);let d=1/0;fun f=t;let e=area(f,0,1);");
        Check.due("ask(a,0,0)", x.ask(0, 0, 0), 4);
        Check.due("ask(a,4,0)", x.ask(0, 4, 0), 4);
        Check.due("ask(a,5,0)", x.ask(0, 5, 0), 8);
        Check.due("ask(a,5,1)", x.ask(0, 5, 1), 85);
        Check.due("ask(a,5,2)", x.ask(0, 5, 2), 86);
        Check.due("ask(a,16,0)", x.ask(0, 16, 0), 16);
        Check.due("ask(a,16,1)", x.ask(0, 16, 1), 21845);
        // b by 4 bits is 15..18, 3 wide: 2 to the (4 less 2) is wide enough, to the (4 less 3) not
        Check.due("ask(b,2,0)", x.ask(1, 2, 0), 4);
        Check.due("ask(b,3,0)", x.ask(1, 3, 0), 8);
        Check.due("ask(b,16,0)", x.ask(1, 16, 0), 20);
        Check.due("ask(c,0,0)", x.ask(2, 0, 0), -1);
        Check.due("ask(c,0,1)", x.ask(2, 0, 1), 5L << 20);
        Check.due("ask(c,0,2)", x.ask(2, 0, 2), 7L << 20);
        Check.due("ask(d,0,0)", x.ask(3, 0, 0), -1);
        Check.due("ask(d,0,1)", x.ask(3, 0, 1), MIN);
        Check.due("ask(d,0,2)", x.ask(3, 0, 2), MIN);
        // e by w is 1 by 2 to the (w by 4) wide
        Check.due("ask(e,1,0)", x.ask(4, 1, 0), 4);
        Check.due("ask(e,2,0)", x.ask(4, 2, 0), 8);
        Check.due("ask(e,5,0)", x.ask(4, 5, 0), 20);
        Check.due("ask(e,6,0)", x.ask(4, 6, 0), -1);
        Check.due("ask(e,6,2)", x.ask(4, 6, 2), 540672);
        Check.due("ask(a,-1,0)", x.ask(0, -1, 0), MIN);
        Check.due("ask(a,17,0)", x.ask(0, 17, 0), MIN);
        Check.due("ask(a,1,3)", x.ask(0, 1, 3), MIN);
        Check.due("ask(a,1,-1)", x.ask(0, 1, -1), MIN);
        Check.due("ask of a function", x.ask(5, 1, 0), MIN);
        Check.due("ask of nothing", x.ask(25, 1, 0), MIN);
        Check.due("ask of no letter", x.ask(26, 1, 0), MIN);
        hadByTheGreatest();
    }

    /** Too much work by 20 bits: what is had is the span by 16. */
    private static void hadByTheGreatest() {
        SureSums x = Check.told("fun f=t;fun g=area(f,0,1);fun h=area(g,0,1);let a=area(h,0,1);");
        Check.due("ask(a,15,0)", x.ask(0, 15, 0), -1);
        Check.due("ask(a,15,1)", x.ask(0, 15, 1), x.span(0, 16, 0));
        Check.due("ask(a,15,2)", x.ask(0, 15, 2), x.span(0, 16, 1));
        Check.dueTrue("there is one by 16", x.span(0, 16, 0) != MIN);
        Check.due("and none by 20", x.span(0, 20, 0), MIN);
    }

    private static void wrongInputs() {
        SureSums x = Check.told("let a=1;fun f=t;");
        Check.due("span(0,3,0)", x.span(0, 3, 0), MIN);
        Check.due("span(0,21,0)", x.span(0, 21, 0), MIN);
        Check.due("span(0,21,2)", x.span(0, 21, 2), MIN);
        Check.due("span(0,4,3)", x.span(0, 4, 3), MIN);
        Check.due("span(0,4,-1)", x.span(0, 4, -1), MIN);
        Check.due("span of a function", x.span(5, 4, 0), MIN);
        Check.due("span of a function, work", x.span(5, 4, 2), MIN);
        Check.due("span of nothing", x.span(1, 4, 0), MIN);
        Check.due("span(-1)", x.span(-1, 4, 0), MIN);
        Check.due("span(26)", x.span(26, 4, 0), MIN);
    }
}
