/** The boundary cases of promises 12 to 14, of WHERE and DOTS, each sentence by itself. */
public final class CurveEdgeTest {
    private static final int F = 5;
    private static final int G = 6;
    private static final int H = 7;
    private static final int K = 10;

    public static void main(String[] args) {
        promise12AtLeastTheGreatestLow();
        promise12NoneOverOne();
        promise12Places();
        promise12Refused();
        promise12AskedAlone();
        promise13SureNot();
        promise13NoneIsNot();
        promise13Sure();
        promise13SeventeenPlaces();
        promise13Squares();
        promise13Refused();
        promise14Rows();
        promise14UpTo63();
        promise14EachKind();
        promise14Refused();
        Edge.finish();
    }

    private static int where(String text, int i, int j) {
        return Edge.told(text).where(F, i, j);
    }

    private static void promise12AtLeastTheGreatestLow() {
        Edge.promise(12, "PIECES (16 of them) whose HIGH is at least the greatest LOW of all (bits");
        // the last piece has the greatest LOW, which is the HIGH of the one ahead: at least, so that both are in it
        Edge.due("t", where("fun f=t;", 0, 1), 3 << 14);
        Edge.due("-t", where("fun f=-t;", 0, 1), 3);
        Edge.due("half of t", where("fun f=t/2;", 0, 1), 3 << 14);
        Edge.due("all alike", where("fun f=7;", 0, 1), 65535);
        Edge.due("all alike, below 0", where("fun f=-7;", -1, 0), 65535);
        Edge.due("all alike, and not sure", where("fun f=1/3;", 0, 1), 65535);
        // none is surely 2, but the eighth may be; the seven ahead are surely 1, and those behind surely 0
        Edge.due("up to the middle", where("fun f=if(t<1/2,if(t>7/16,2,1),0);", 0, 1), 255);
        // the first may be 9, all others are surely 0, and so it may be too
        Edge.due("the first may be more", where("fun f=if(t<1/32,9,0);", 0, 1), 65535);
        Edge.due("the first is surely more", where("fun f=if(t<3/32,9,0);", 0, 1), 3);
        // over -1..1 of 2 - abs(t): the two in the middle from 15/8, those beside up to 15/8
        Edge.due("the middle", where("fun f=2-abs(t);", -1, 1), 15 << 6);
        // 0 in the first half, -1 part .. 0 in the other, or all -1 part there: its HIGH is below the greatest LOW
        Edge.due("HIGH is the greatest LOW", where("fun f=if(t<17/32,0,-1/256/257);", 0, 1), 65535);
        Edge.due("HIGH is a part below it", where("fun f=if(t<17/32,0,-1/256/256);", 0, 1), 511);
        Edge.due("the other way round", where("fun f=if(t<17/32,-1/256/256,0);", 0, 1), 65535 - 255);
    }

    private static void promise12NoneOverOne() {
        Edge.promise(12, "f isn't NONE over any .. 0: f is NONE over one");
        Edge.due("NONE over the first", where("fun f=1/t;", 0, 1), 0);
        Edge.due("NONE over the last", where("fun f=1/t;", -1, 0), 0);
        Edge.due("NONE over two in the middle", where("fun f=1/t;", -1, 1), 0);
        Edge.due("NONE over all", where("fun f=1/0;", 0, 1), 0);
        Edge.due("NONE beyond 2048", where("fun f=t*t;", 0, 64), 0);
        Edge.due("NONE below 0", where("fun f=sqrt(t);", -64, 64), 0);
        Edge.due("none NONE", where("fun f=sqrt(t);", 0, 64), 3 << 14);
        Edge.due("none NONE", where("fun f=1/t;", 1, 17), 3);
    }

    private static void promise12Places() {
        Edge.promise(12, "for a function and I, J .. (I below J)");
        SureSums x = Edge.told("fun f=t;fun g=-t;");
        Edge.due("where(f, -64, 64)", x.where(F, -64, 64), 3 << 14);
        Edge.due("where(g, -64, 64)", x.where(G, -64, 64), 3);
        Edge.due("where(f, -64, -63)", x.where(F, -64, -63), 3 << 14);
        Edge.due("where(f, 63, 64)", x.where(F, 63, 64), 3 << 14);
        for (int i = -64; i < 64; i++) {
            Edge.due("where(f, " + i + ", " + (i + 1) + ")", x.where(F, i, i + 1), 3 << 14);
            Edge.due("where(f, " + i + ", " + i + ")", x.where(F, i, i), 0);
            Edge.due("where(f, " + (i + 1) + ", " + i + ")", x.where(F, i + 1, i), 0);
        }
        Edge.due("where(f, 64, 64)", x.where(F, 64, 64), 0);
    }

    private static void promise12Refused() {
        Edge.promise(12, "0: .. no such ones (I below J).");
        SureSums x = Edge.told("fun f=7;let a=1;");
        int[][] places = {{-65, 64}, {-64, 65}, {-65, 0}, {0, 65}, {64, 65}, {-65, -64}, {Edge.LEAST_INT, 0}, {0, Edge.MOST_INT},
            {Edge.LEAST_INT, Edge.MOST_INT}, {Edge.MOST_INT, Edge.LEAST_INT}, {-256, 0}, {0, 256}, {1, -1}, {64, -64}};
        for (int[] both : places) {
            Edge.due("where(f, " + both[0] + ", " + both[1] + ")", x.where(F, both[0], both[1]), 0);
        }
        Edge.due("where of a number", x.where(0, 0, 1), 0);
        Edge.due("where of nothing", x.where(1, 0, 1), 0);
        for (int letter : Edge.NO_LETTERS) {
            Edge.due("where(" + letter + ", 0, 1)", x.where(letter, 0, 1), 0);
        }
    }

    /** By 16 bits c asks 1 + 16 * 17 knots and d 1 + 16 * 273, so that two pieces of d * 4 are more than 20000. */
    private static void promise12AskedAlone() {
        Edge.promise(12, "(In 4. each time f is asked alone.)");
        String lines = "fun a=t;fun b=area(a,0,1);fun c=area(b,0,1);fun d=area(c,0,1);fun f=d(t)+d(t)+d(t)+d(t);fun g=f(t)+d(t);";
        SureSums x = Edge.told(lines);
        Edge.due("WORK of f", x.at(F, 0, 1, 16, 2), 4 * (2 + 4369) + 3);
        Edge.due("where(f)", x.where(F, 0, 1), 65535);
        // f is 4 times nearly a half
        Edge.due("dot(f, 0, 1)", x.dot(F, 0, 1), 1);
        Edge.due("dot(f, 0, 5)", x.dot(F, 0, 5), 0);
        Edge.due("dots(f, 0, 5, 16, 0)", x.dots(F, 0, 5, 16, 0), 256);
        Edge.due("WORK of g", x.at(G, 0, 1, 16, 2), 20001);
        Edge.due("where(g)", x.where(G, 0, 1), 0);
        Edge.due("dot(g, 0, 5), NONE over all", x.dot(G, 0, 5), 1);
        Edge.due("where(a), nothing of it is kept", x.where(0, 0, 1), 3 << 14);
    }

    private static int dot(String text, int x, int y) {
        return Edge.told(text).dot(F, x, y);
    }

    private static void promise13SureNot() {
        Edge.promise(13, "SURE NOT if the span of f over t from x to x + 1 is above y + 1 or below y alone");
        // on the edge of a square it is neither above nor below
        Edge.due("1 by the square 0..1", dot("fun f=1;", 0, 0), 2);
        Edge.due("1 by the square 1..2", dot("fun f=1;", 0, 1), 2);
        Edge.due("1 by the square 2..3", dot("fun f=1;", 0, 2), 0);
        Edge.due("1 by the square -1..0", dot("fun f=1;", 0, -1), 0);
        // one part above 1, one part below 1
        Edge.due("a part above, 0..1", dot("fun f=1+1/256/256;", 0, 0), 0);
        Edge.due("a part above, 1..2", dot("fun f=1+1/256/256;", 0, 1), 2);
        Edge.due("a part below, 0..1", dot("fun f=1-1/256/256;", 0, 0), 2);
        Edge.due("a part below, 1..2", dot("fun f=1-1/256/256;", 0, 1), 0);
        // 1 .. a part above: touches 0..1, and has no place in it
        Edge.due("up to a part above, 0..1", dot("fun f=1+1/256/257;", 0, 0), 1);
        Edge.due("up to a part above, 1..2", dot("fun f=1+1/256/257;", 0, 1), 2);
        Edge.due("from a part below, 0..1", dot("fun f=1-1/256/257;", 0, 0), 2);
        Edge.due("from a part below, 1..2", dot("fun f=1-1/256/257;", 0, 1), 1);
        // the same below 0
        Edge.due("-1 by the square -1..0", dot("fun f=-1;", 0, -1), 2);
        Edge.due("-1 by the square -2..-1", dot("fun f=-1;", 0, -2), 2);
        Edge.due("-1 by the square 0..1", dot("fun f=-1;", 0, 0), 0);
        Edge.due("-1 by the square -3..-2", dot("fun f=-1;", 0, -3), 0);
        // t - t over a whole square is -1..1, at each place it is 0
        Edge.due("over the whole", dot("fun f=t-t;", 3, 0), 2);
        Edge.due("over the whole, touching -1", dot("fun f=t-t;", 3, -2), 1);
        Edge.due("over the whole, beyond", dot("fun f=t-t;", 3, -3), 0);
    }

    private static void promise13NoneIsNot() {
        Edge.promise(13, "(NONE isn't)");
        Edge.due("NONE over all", dot("fun f=1/0;", 0, 0), 1);
        Edge.due("NONE over the square, and at 0", dot("fun f=1/t;", 0, 0), 1 + 1);
        Edge.due("far below all that is there", dot("fun f=1/t;", 0, -5), 1);
        Edge.due("NONE over the square, sure at a place", dot("fun f=1/t;", 0, 15), 2);
        Edge.due("NONE up to 0", dot("fun f=sqrt(t);", -1, 0), 2);
        Edge.due("NONE up to 0, 1..2", dot("fun f=sqrt(t);", -1, 1), 1);
        Edge.due("NONE below 0", dot("fun f=sqrt(t);", -2, 0), 1);
        Edge.due("none NONE", dot("fun f=sqrt(t);", 0, 2), 0);
    }

    private static void promise13Sure() {
        Edge.promise(13, "else SURE if f at one of the 17 places .. has a span in y .. y + 1; else UNSURE");
        // 1 less a part .. 1 and more: in neither of two squares
        Edge.due("across 1, 0..1", dot("fun f=1/3*3;", 0, 0), 1);
        Edge.due("across 1, 1..2", dot("fun f=1/3*3;", 0, 1), 1);
        Edge.due("the whole square", dot("fun f=if(1/3*3<1,0,1);", 0, 0), 2);
        Edge.due("and a part more above", dot("fun f=if(1/3*3<1,0,1+1/256/256);", 0, 0), 1);
        Edge.due("and a part more below", dot("fun f=if(1/3*3<1,-1/256/256,1);", 0, 0), 1);
        Edge.due("all but a part", dot("fun f=if(1/3*3<1,1/256/256,1-1/256/256);", 0, 0), 2);
        // SURE NOT comes ahead: over the square it is above, though there would be a place
        Edge.due("SURE NOT ahead", dot("fun f=7;", 0, 5), 0);
    }

    private static void promise13SeventeenPlaces() {
        Edge.promise(13, "at one of the 17 places x and i by 16 (rising)");
        // a step as high as 60 wherever t isn't that place: 0 at one place alone
        for (int i = 0; i <= 16; i++) {
            String text = "fun f=60*abs(t-3-" + i + "/16);fun g=60*abs(t+3-" + i + "/16);";
            SureSums x = Edge.told(text);
            Edge.due("0 at place " + i, x.dot(F, 3, -1), 2);
            Edge.due("0 at place " + i + ", no other so low", x.dot(F, 3, 1), 1);
            Edge.due("0 at place " + i + " below 0", x.dot(G, -3, -1), 2);
        }
        // 0 between two of them, where there is no place
        for (int i = 0; i < 16; i++) {
            Edge.due("0 behind place " + i, dot("fun f=60*abs(t-3-" + (2 * i + 1) + "/32);", 3, 0), 1);
        }
        // a half at the place ahead of the first, or behind the last, and across 1 at all of them
        Edge.due("sure ahead of the first", dot("fun f=if(t<3-1/32,1/2,1/3*3);", 3, 0), 1);
        Edge.due("sure behind the last", dot("fun f=if(t<4+1/32,1/3*3,1/2);", 3, 0), 1);
        Edge.due("sure at the first alone", dot("fun f=if(t<3+1/32,1/2,1/3*3);", 3, 0), 2);
        Edge.due("sure at the last alone", dot("fun f=if(t<4-1/32,1/3*3,1/2);", 3, 0), 2);
        // ahead of the first and behind the last it is 60 by 32 at least over the whole square
        Edge.due("0 a 32th ahead of the first", dot("fun f=60*abs(t-3+1/32);", 3, 0), 0);
        Edge.due("0 a 32th behind the last", dot("fun f=60*abs(t-4-1/32);", 3, 0), 0);
    }

    private static void promise13Squares() {
        Edge.promise(13, "of a square x .. x + 1, y .. y + 1 .. (-64 .. 63)");
        SureSums x = Edge.told("fun f=t;fun g=-t;fun h=t-t;fun k=64;fun l=-64;");
        for (int place = -64; place <= 63; place++) {
            Edge.due("dot(f, " + place + ", itself)", x.dot(F, place, place), 2);
            Edge.due("dot(g, " + place + ", less it)", x.dot(G, place, -place - 1), 2);
        }
        Edge.due("dot(k, 0, 63)", x.dot(K, 0, 63), 2);
        Edge.due("dot(k, 0, 62)", x.dot(K, 0, 62), 0);
        Edge.due("dot(l, 0, -64)", x.dot(11, 0, -64), 2);
        Edge.due("dot(l, 0, -63)", x.dot(11, 0, -63), 0);
        Edge.due("dot(f, -64, 63)", x.dot(F, -64, 63), 0);
        Edge.due("dot(f, 63, -64)", x.dot(F, 63, -64), 0);
    }

    private static void promise13Refused() {
        Edge.promise(13, "NONE: no such function, x, y (-64 .. 63).");
        SureSums x = Edge.told("fun f=0;let a=1;");
        for (int place : new int[] {-65, 64, 65, 128, 256, -256, 65536, Edge.LEAST_INT, Edge.MOST_INT}) {
            Edge.due("dot(f, " + place + ", 0)", x.dot(F, place, 0), -1);
            Edge.due("dot(f, 0, " + place + ")", x.dot(F, 0, place), -1);
            Edge.due("dot(f, " + place + ", itself)", x.dot(F, place, place), -1);
        }
        Edge.due("dot of a number", x.dot(0, 0, 0), -1);
        Edge.due("dot of nothing", x.dot(1, 0, 0), -1);
        for (int letter : Edge.NO_LETTERS) {
            Edge.due("dot(" + letter + ", 0, 0)", x.dot(letter, 0, 0), -1);
        }
    }

    private static void promise14Rows() {
        Edge.promise(14, "for squares x and k, 0 .. 15, by y and m, 0 .. m - 1 up (m 1 .. 16)");
        SureSums x = Edge.told("fun f=1/2;fun g=t;fun h=15/2;");
        for (int m = 1; m <= 16; m++) {
            Edge.due("dots(f, 0, 0, " + m + ", 2)", x.dots(F, 0, 0, m, 2), 16);
            Edge.due("dots(f, 0, 0, " + m + ", 0)", x.dots(F, 0, 0, m, 0), 16 * (m - 1));
            Edge.due("dots(f, 0, 0, " + m + ", 1)", x.dots(F, 0, 0, m, 1), 0);
            Edge.due("dots(f, 0, 1, " + m + ", 2)", x.dots(F, 0, 1, m, 2), 0);
            Edge.due("dots(h, 0, 0, " + m + ", 2)", x.dots(H, 0, 0, m, 2), m < 8 ? 0 : 16);
            Edge.due("dots(f, 0, " + (1 - m) + ", " + m + ", 2)", x.dots(F, 0, 1 - m, m, 2), 16);
        }
        // columns 0 .. 15 of rows 15 and 16: t touches both in the last one
        Edge.due("dots(g, 0, 15, 1, 2)", x.dots(G, 0, 15, 1, 2), 2);
        Edge.due("dots(g, 0, 16, 1, 2)", x.dots(G, 0, 16, 1, 2), 1);
        Edge.due("dots(g, 0, 17, 1, 2)", x.dots(G, 0, 17, 1, 2), 0);
        Edge.due("dots(g, 0, -1, 1, 2)", x.dots(G, 0, -1, 1, 2), 1);
        Edge.due("dots(g, 0, -2, 1, 2)", x.dots(G, 0, -2, 1, 2), 0);
    }

    private static void promise14UpTo63() {
        Edge.promise(14, "how many of these up to 63 are of that kind .. squares beyond 63 aren't counted");
        SureSums x = Edge.told("fun f=0;fun g=t;");
        for (int at = 40; at <= 63; at++) {
            int columns = Math.min(16, 64 - at);
            Edge.due("columns from " + at, x.dots(F, at, 0, 1, 2), columns);
            Edge.due("rows from " + at, x.dots(F, 0, at, 16, 0), 16 * Math.min(16, 64 - at));
            Edge.due("both from " + at, x.dots(F, at, at, 16, 0), columns * columns);
            Edge.due("the diagonal from " + at, x.dots(G, at, at, 16, 2), columns + 2 * (columns - 1));
        }
        Edge.due("none below -64 is asked for", x.dots(F, -64, -64, 16, 0), 256);
        Edge.due("row -1 of -64 and 15 up", x.dots(F, -64, -16, 16, 2), 16);
    }

    private static void promise14EachKind() {
        Edge.promise(14, "are of that kind (0, 1, 2;");
        SureSums x = Edge.told("fun f=1/t;fun g=if(1/3*3<1,t,t+3);fun h=1/3*3;");
        for (int letter = F; letter <= H; letter++) {
            for (int at = -8; at <= 56; at += 8) {
                int[] kinds = new int[3];
                for (int k = 0; k < 16; k++) {
                    for (int up = 0; up < 7; up++) {
                        int kind = x.dot(letter, at + k, at + 4 + up);
                        if (kind >= 0) {
                            kinds[kind]++;
                        }
                    }
                }
                for (int kind = 0; kind < 3; kind++) {
                    Edge.due("dots(" + letter + ", " + at + ", " + (at + 4) + ", 7, " + kind + ")", x.dots(letter, at, at + 4, 7, kind), kinds[kind]);
                }
            }
        }
        Edge.due("h unsure in rows 0 and 1", x.dots(H, 0, -1, 5, 1), 32);
    }

    private static void promise14Refused() {
        Edge.promise(14, "NONE: no such function, x, y (-64 .. 63), m, kind.");
        SureSums x = Edge.told("fun f=0;let a=1;");
        for (int place : new int[] {-65, 64, 65, 256, -256, 65536, Edge.LEAST_INT, Edge.MOST_INT, Edge.MOST_INT - 15}) {
            Edge.due("dots(f, " + place + ", 0, 1, 0)", x.dots(F, place, 0, 1, 0), -1);
            Edge.due("dots(f, 0, " + place + ", 1, 0)", x.dots(F, 0, place, 1, 0), -1);
        }
        for (int m : new int[] {0, -1, 17, 256, 257, 65537, Edge.LEAST_INT, Edge.MOST_INT}) {
            Edge.due("dots(f, 0, 0, " + m + ", 0)", x.dots(F, 0, 0, m, 0), -1);
        }
        for (int kind : new int[] {-1, 3, 256, 65536, Edge.LEAST_INT, Edge.MOST_INT}) {
            Edge.due("dots(f, 0, 0, 1, " + kind + ")", x.dots(F, 0, 0, 1, kind), -1);
        }
        Edge.due("dots of a number", x.dots(0, 0, 0, 1, 0), -1);
        Edge.due("dots of nothing", x.dots(1, 0, 0, 1, 0), -1);
        for (int letter : Edge.NO_LETTERS) {
            Edge.due("dots(" + letter + ", 0, 0, 1, 0)", x.dots(letter, 0, 0, 1, 0), -1);
        }
    }
}
