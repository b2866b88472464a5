/** Promises 12 to 14: where, dot, dots. */
public final class CurveTest {
    private static final int F = 5;
    private static final int G = 6;
    private static final int H = 7;

    public static void main(String[] args) {
        where();
        dot();
        dots();
        askedAlone();
        Check.finish();
    }

    private static void where() {
        SureSums x = Check.told("fun f=t*t-2;fun g=1/t;fun h=3;fun k=-t;fun m=t-t;let a=1;");
        // pieces of a quarter: the last has 5.5625 .. 7, the one ahead up to 5.5625
        Check.due("where(f,-1,3)", x.where(F, -1, 3), 1 << 14 | 1 << 15);
        Check.due("where(f,-1,1), both ends", x.where(F, -1, 1), 1 | 1 << 1 | 1 << 14 | 1 << 15);
        Check.due("where(h,0,1), all", x.where(H, 0, 1), 65535);
        Check.due("where(k,0,1), the first two", x.where(10, 0, 1), 3);
        Check.due("where(m,0,1), all", x.where(12, 0, 1), 65535);
        Check.due("where(g,-1,1), NONE over one", x.where(G, -1, 1), 0);
        Check.due("where(g,0,1), NONE over the first", x.where(G, 0, 1), 0);
        Check.due("where(g,-1,0), NONE over the last", x.where(G, -1, 0), 0);
        Check.due("where(g,1,2)", x.where(G, 1, 2), 3);
        Check.due("where(k,-64,64)", x.where(10, -64, 64), 3);
        Check.due("where(k,-65,64)", x.where(10, -65, 64), 0);
        Check.due("where(k,-64,65)", x.where(10, -64, 65), 0);
        Check.due("where(k,1,1)", x.where(10, 1, 1), 0);
        Check.due("where(k,2,1)", x.where(10, 2, 1), 0);
        Check.due("where of a number", x.where(0, 0, 1), 0);
        Check.due("where of nothing", x.where(1, 0, 1), 0);
        Check.due("where(-1)", x.where(-1, 0, 1), 0);
        Check.due("where(26)", x.where(26, 0, 1), 0);
    }

    private static void dot() {
        SureSums x = Check.told("fun f=t*t-2;fun g=1/t;fun h=1/3*3;fun k=sqrt(t);fun m=t*64;let a=1;");
        Check.due("f far below", x.dot(F, 0, 5), 0);
        Check.due("f far above", x.dot(F, 5, 0), 0);
        Check.due("f through", x.dot(F, 1, 0), 2);
        Check.due("f at 0, -2..-1", x.dot(F, 0, -2), 2);
        // over 1..2 it is -1..2, whose end touches -2..-1: not alone above it, and at 1 it is -1
        Check.due("f touches from above", x.dot(F, 1, -2), 2);
        Check.due("f touches from below", x.dot(F, 0, -1), 2);
        Check.due("f not by a whole square", x.dot(F, 1, -3), 0);
        // 1 is sure by no bits: a span with 1 inside is in neither square
        Check.due("h above 1", x.dot(H, 0, 1), 1);
        Check.due("h below 1", x.dot(H, 0, 0), 1);
        Check.due("h above 2", x.dot(H, 0, 2), 0);
        // NONE over 0..1 is not sure not; NONE at 0, then 16 by i
        Check.due("g", x.dot(G, 0, 1), 2);
        Check.due("g at 1 by 16", x.dot(G, 0, 15), 2);
        Check.due("g, no place there", x.dot(G, 0, 13), 1);
        Check.due("g, below 0", x.dot(G, 0, -1), 1);
        Check.due("g away from 0", x.dot(G, 1, 5), 0);
        Check.due("k of what is below 0", x.dot(10, -5, 0), 1);
        Check.due("k", x.dot(10, 0, 0), 2);
        // the last of the 17 places
        Check.due("m reaches 64 at 1 alone", x.dot(12, 0, 63), 2);
        Check.due("m at -1", x.dot(12, -1, -64), 2);
        Check.due("m between two places", x.dot(12, 0, 1), 1);
        Check.due("m at one of them", x.dot(12, 0, 4), 2);
        Check.due("m, the ends are in it", x.dot(12, 0, 3), 2);
        Check.due("dot(f,63,63)", x.dot(F, 63, 63), 1);
        Check.due("dot(f,-64,-64)", x.dot(F, -64, -64), 1);
        Check.due("dot(f,64,0)", x.dot(F, 64, 0), -1);
        Check.due("dot(f,0,64)", x.dot(F, 0, 64), -1);
        Check.due("dot(f,-65,0)", x.dot(F, -65, 0), -1);
        Check.due("dot(f,0,-65)", x.dot(F, 0, -65), -1);
        Check.due("dot of a number", x.dot(0, 0, 0), -1);
        Check.due("dot of nothing", x.dot(1, 0, 0), -1);
        Check.due("dot(26)", x.dot(26, 0, 0), -1);
    }

    private static void dots() {
        SureSums x = Check.told("fun f=t*t-2;fun g=1/t;let a=1;fun h=t;");
        Check.due("dots of row -2", x.dots(F, 0, -2, 1, 2), 2);
        // h is sure in the square itself and touches its neighbours' corners
        Check.due("dots(h,0,0,1,2)", x.dots(H, 0, 0, 1, 2), 2);
        Check.due("dots(h,0,0,16,2)", x.dots(H, 0, 0, 16, 2), 16 + 15 + 15);
        Check.due("dots(h,0,0,16,0)", x.dots(H, 0, 0, 16, 0), 256 - 46);
        Check.due("dots(h,0,0,16,1)", x.dots(H, 0, 0, 16, 1), 0);
        Check.due("dots(h,60,60,16,2), up to 63", x.dots(H, 60, 60, 16, 2), 4 + 3 + 3);
        Check.due("dots(h,60,60,16,0), up to 63", x.dots(H, 60, 60, 16, 0), 6);
        Check.due("dots(h,63,63,16,2)", x.dots(H, 63, 63, 16, 2), 1);
        Check.due("dots(h,-64,-64,1,2)", x.dots(H, -64, -64, 1, 2), 2);
        for (int kind = 0; kind < 3; kind++) {
            int each = 0;
            for (int k = 0; k < 16; k++) {
                for (int up = 0; up < 5; up++) {
                    each += x.dot(G, -7 + k, -1 + up) == kind ? 1 : 0;
                }
            }
            Check.due("dots(g,-7,-1,5," + kind + ")", x.dots(G, -7, -1, 5, kind), each);
        }
        Check.due("m 0", x.dots(F, 0, 0, 0, 0), -1);
        Check.due("m 17", x.dots(F, 0, 0, 17, 0), -1);
        Check.due("kind 3", x.dots(F, 0, 0, 1, 3), -1);
        Check.due("kind -1", x.dots(F, 0, 0, 1, -1), -1);
        Check.due("x 64", x.dots(F, 64, 0, 1, 0), -1);
        Check.due("x -65", x.dots(F, -65, 0, 1, 0), -1);
        Check.due("y 64", x.dots(F, 0, 64, 1, 0), -1);
        Check.due("y -65", x.dots(F, 0, -65, 1, 0), -1);
        Check.due("dots of a number", x.dots(0, 0, 0, 1, 0), -1);
        Check.due("dots of nothing", x.dots(1, 0, 0, 1, 0), -1);
        Check.due("dots(-1)", x.dots(-1, 0, 0, 1, 0), -1);
    }

    /** Each asking has 20000 of its own: 16 pieces of 4369 knots are more together. */
    private static void askedAlone() {
        SureSums x = Check.told("fun a=t;fun b=area(a,0,1);fun c=area(b,0,1);fun d=area(c,0,1)+t;fun e=area(d,0,1);");
        Check.due("work of d by 16", x.at(3, 0, 1, 16, 2), 1 + 16 * (1 + 16 * 17) + 2);
        Check.due("where of d", x.where(3, 0, 64) & 32768, 32768);
        Check.due("dot of d", x.dot(3, 3, 3), 2);
        Check.due("work of e by 16", x.at(4, 0, 1, 16, 2), 20001);
        Check.due("where of e", x.where(4, 0, 64), 0);
        Check.due("dot of e", x.dot(4, 0, 0), 1);
    }
}
