/** Promises 1 to 5 and 17: a new object, feed, text, fault, kind, count. */
public final class TextTest {
    public static void main(String[] args) {
        newObject();
        feedFills();
        feedBytesInOrder();
        textTakesAndEmpties();
        textEndsWhereItEnds();
        textKeepsOldWithFault();
        wrongTokens();
        wordsThatWantMore();
        tooMuch();
        wrongLetters();
        ofOnePlaceTheLeast();
        blanks();
        kinds();
        counts();
        Check.finish();
    }

    private static void fault(String text, int kind, int place) {
        SureSums x = new SureSums();
        Check.due("text of " + text, Check.tell(x, text), -1);
        Check.due("fault(0) of " + text, x.fault(0), kind);
        Check.due("fault(1) of " + text, x.fault(1), place);
    }

    private static void good(String text, int lines) {
        SureSums x = new SureSums();
        Check.due("text of " + text, Check.tell(x, text), lines);
        Check.due("fault(0) of " + text, x.fault(0), 0);
        Check.due("fault(1) of " + text, x.fault(1), -1);
    }

    private static void newObject() {
        SureSums x = new SureSums();
        for (int what = 0; what < 4; what++) {
            Check.due("count(" + what + ") of a new object", x.count(what), 0);
        }
        for (int letter = 0; letter < 26; letter++) {
            Check.due("kind(" + letter + ") of a new object", x.kind(letter), 0);
        }
        Check.due("fault(0) of a new object", x.fault(0), 0);
        Check.due("fault(1) of a new object", x.fault(1), -1);
        Check.due("text(1) of an empty tape", x.text(1), -2);
        Check.due("NONE", SureSums.NONE, -1);
    }

    private static void feedFills() {
        SureSums x = new SureSums();
        for (int k = 1; k <= 25; k++) {
            Check.due("feed " + k, x.feed(0, 0, 0, 0, 0), 20 * k);
        }
        Check.due("a feed beyond 500", x.feed(0, 0, 0, 0, 0), -1);
        Check.due("text(501)", x.text(501), -2);
        Check.due("text(500) of noughts", x.text(500), -1);
        Check.due("its place", x.fault(1), 0);
        Check.due("feed behind it", x.feed(0, 0, 0, 0, 0), 20);
    }

    private static void feedBytesInOrder() {
        SureSums x = new SureSums();
        // "let a = 12;" and a byte 255 behind it
        x.feed(0x6c657420, 0x61203d20, 0x31323bff, 0, 0);
        Check.due("text(11)", x.text(11), 1);
        Check.due("exact", x.exact(0, 0), 12);
        x.feed(0x6c657420, 0x61203d20, 0x31323bff, 0, 0);
        Check.due("text(12)", x.text(12), -1);
        Check.due("place of byte 255", x.fault(1), 11);
        Check.due("its fault", x.fault(0), 1);
    }

    private static void textTakesAndEmpties() {
        SureSums x = new SureSums();
        Check.feed(x, "let a = 1; let b = 2;");
        Check.due("text(-1)", x.text(-1), -2);
        Check.due("text(41)", x.text(41), -2);
        Check.due("the tape stays", x.feed(0, 0, 0, 0, 0), 60);
        Check.due("text(10) takes the first alone", x.text(10), 1);
        Check.due("text(1) of the emptied tape", x.text(1), -2);
        Check.due("fault stays that of the latest text that was not -2", x.fault(0), 0);
        Check.due("text(0)", x.text(0), 0);
        Check.due("an empty text in place of what was told", x.count(0), 0);
        Check.due("kind(0)", x.kind(0), 0);
        Check.feed(x, "let a = 1;");
        Check.due("text(0) with a tape", x.text(0), 0);
        Check.due("empties it", x.text(1), -2);
    }

    /** What stands behind the first n bytes is no part of the last word or number. */
    private static void textEndsWhereItEnds() {
        SureSums x = new SureSums();
        Check.feed(x, "let a = 1000;");
        Check.due("text up to 100", x.text(11), -1);
        Check.due("more must come", x.fault(0), 1);
        Check.due("at the length", x.fault(1), 11);
        Check.feed(x, "let a = bc;");
        Check.due("text up to b", x.text(9), -1);
        Check.due("b isn't told", x.fault(0), 3);
        Check.due("at b", x.fault(1), 8);
    }

    private static void textKeepsOldWithFault() {
        SureSums x = Check.told("let a = 5; fun f = t;");
        Check.due("a text with a fault", Check.tell(x, "let b = 1; let c = ;"), -1);
        Check.due("fault(0)", x.fault(0), 1);
        Check.due("fault(1)", x.fault(1), 19);
        Check.due("text(1)", x.text(1), -2);
        Check.due("fault(1) still", x.fault(1), 19);
        Check.due("kind(a)", x.kind(0), 1);
        Check.due("kind(b)", x.kind(1), 0);
        Check.due("count(3)", x.count(3), 2);
        Check.due("exact(a)", x.exact(0, 0), 5);
        Check.due("span(a)", x.span(0, 4, 0), 80);
        Check.due("at(f)", x.at(5, 1, 2, 4, 1), 32);
        Check.dueDouble("machine(a)", x.machine(0), 5.0);
        Check.due("a new text", Check.tell(x, "let b = 6;"), 1);
        Check.due("kind(a) then", x.kind(0), 0);
        Check.due("exact(b)", x.exact(1, 0), 6);
        Check.dueDouble("machine(b)", x.machine(1), 6.0);
        Check.due("fault(2)", x.fault(2), -1);
        Check.due("fault(-1)", x.fault(-1), -1);
    }

    private static void wrongTokens() {
        fault(";", 1, 0);
        fault("a = 1;", 1, 0);
        fault("1", 1, 0);
        fault("let", 1, 3);
        fault("let ", 1, 4);
        fault("let a", 1, 5);
        fault("let a 1;", 1, 6);
        fault("let a =", 1, 7);
        fault("let a = 1", 1, 9);
        fault("let a = 1  \n ", 1, 13);
        fault("let a = 1;;", 1, 10);
        fault("let a = 1 2;", 1, 10);
        fault("let a = 1a;", 1, 9);
        fault("let a1 = 2;", 1, 5);
        fault("let a = $;", 1, 8);
        fault("let a = 1 $;", 1, 10);
        fault("let a = A;", 1, 8);
        fault("let a =\t1;", 1, 7);
        fault("let a = 1.5;", 1, 9);
        fault("let a = foo;", 1, 8);
        fault("let a = let;", 1, 8);
        fault("let a = +1;", 1, 8);
        fault("let a = 1 + ;", 1, 12);
        fault("let a = 1 */ 2;", 1, 11);
        fault("let a = ();", 1, 9);
        fault("let a = (1;", 1, 10);
        fault("let a = 1);", 1, 9);
        fault("let a = 1 < 2;", 1, 10);
        fault("let a = 1, 2;", 1, 9);
        fault("let ab = 1;", 1, 4);
        fault("let sqrt = 1;", 1, 4);
        fault("let 1 = 1;", 1, 4);
        fault("let t = 1;", 1, 4);
        fault("fun t = 1;", 1, 4);
        fault("leta = 1;", 1, 0);
        fault("lets a = 1;", 1, 0);
        fault("sum a = 1;", 1, 0);
    }

    private static void wordsThatWantMore() {
        fault("let a = sqrt;", 1, 12);
        fault("let a = sqrt", 1, 12);
        fault("let a = sqrt 2;", 1, 13);
        fault("let a = sqrt(1,2);", 1, 14);
        fault("let a = abs(", 1, 12);
        fault("let a = max(1);", 1, 13);
        fault("let a = max(1,2,3);", 1, 15);
        fault("let a = min 1;", 1, 12);
        fault("let a = if(1,2,3);", 1, 12);
        fault("let a = if(1=2,3,4);", 1, 12);
        fault("let a = if(1<2,3);", 1, 16);
        fault("let a = if(1<2<3,3,4);", 1, 14);
        fault("fun f=t;let a=f;", 1, 15);
        fault("fun f=t;let a=f+1;", 1, 15);
        fault("let b=1;let a=b(1);", 1, 15);
        fault("fun f=t;let a=area;", 1, 18);
        fault("fun f=t;let a=area(1,0,1);", 1, 19);
        fault("fun f=t;let a=area(t,0,1);", 1, 19);
        fault("fun f=t;fun a=area(t,0,1);", 1, 19);
        fault("fun f=t;let a=area(sqrt,0,1);", 1, 19);
        fault("fun f=t;let a=area(f(t),0,1);", 1, 20);
        fault("fun f=t;let a=area(f,f,1);", 1, 21);
        fault("fun f=t;let a=area(f,--1,1);", 1, 22);
        fault("fun f=t;let a=area(f,1+1,3);", 1, 22);
        fault("fun f=t;let a=area(f,(1),3);", 1, 21);
        fault("fun f=t;let a=area(f,0);", 1, 22);
        fault("fun f=t;let a=area(f,0,1,2);", 1, 24);
        fault("fun f=t;let a=area(f,-", 1, 22);
        good("fun f=t;let a=area(f,-64,64)+nought(f,-1,1)+most(f,0,1)+least(f,-0,1);", 2);
        good("let a=if(1<2,3,4)+if(1>2,3,4)+max(1,2)+min(1,2)+sqrt(1)+abs(1)---1;", 1);
        good("let a = 0; let b = 007; let c = 999; let d = 0000999;", 4);
    }

    private static void tooMuch() {
        fault("let a = 1000;", 2, 8);
        fault("let a = 99999999999999999999999;", 2, 8);
        fault("let a = 4294967297;", 2, 8);
        fault("fun f=t;let a=area(f,65,66);", 2, 21);
        fault("fun f=t;let a=area(f,0,65);", 2, 23);
        fault("fun f=t;let a=area(f,-65,6);", 2, 22);
        fault("fun f=t;let a=area(f,0,-65);", 2, 24);
        good("let a=" + "(".repeat(8) + "1" + ")".repeat(8) + ";", 1);
        fault("let a=" + "(".repeat(9) + "1" + ")".repeat(9) + ";", 2, 14);
        fault("let a=" + "(".repeat(8) + "sqrt(1)" + ")".repeat(8) + ";", 2, 18);
        fault("let a=" + "abs(".repeat(9), 2, 41);
        fault("fun f=t;let a=" + "f(".repeat(8) + "area(f,0,1)", 2, 34);
        good("let a=" + "(".repeat(8) + "1" + ")".repeat(8) + "+" + "(".repeat(8) + "1" + ")".repeat(8) + ";", 1);
        fault("let a=" + "(".repeat(8) + "sqrt 1", 1, 19);
        StringBuilder lets = new StringBuilder();
        for (char c = 'a'; c < 'm'; c++) {
            lets.append("let ").append(c).append("=1;");
        }
        good(lets.toString(), 12);
        fault(lets + "let m=1;", 2, 96);
        fault(lets + "let", 2, 96);
        StringBuilder funs = new StringBuilder();
        for (char c = 'n'; c < 't'; c++) {
            funs.append("fun ").append(c).append("=1;");
        }
        good(funs.toString(), 6);
        good(lets.toString() + funs, 18);
        fault(funs + "fun z=1;", 2, 48);
        fault(lets.toString() + funs + "fun z=1;", 2, 144);
        knotsAt96();
    }

    private static void knotsAt96() {
        // 1+1+...+1 with n ones has 2 n - 1 knots
        String ones = "1" + "+1".repeat(47);
        good("let a=" + ones + ";", 1);
        good("let a=-" + ones + ";", 1);
        fault("let a=" + ones + "+1;", 2, 6 + 96);
        fault("let a=-" + ones + "+1;", 2, 6 + 96);
        fault("let a=--" + ones + ";", 2, 6 + 96);
        fault("let a=" + ones + ";let b=1+1;", 2, 6 + 95 + 1 + 7);
        good("let a=" + ones + ";let b=(1);", 2);
        fault("let a=" + "-".repeat(96) + "1;", 2, 6 + 96);
        good("let a=" + "-".repeat(95) + "1;", 1);
        fault("let a=" + "-".repeat(97) + "1;", 2, 6 + 96);
        // an if is one knot, its < none of its own; an OVER is one
        good("fun f=t;let a=" + "1+".repeat(45) + "if(1<2,1,1);", 2);
        fault("fun f=-t;let a=" + "1+".repeat(45) + "if(1<2,1,1);", 2, 15 + 90 + 9);
        good("fun f=t;let a=" + "1+".repeat(45) + "area(f,0,1)+1*2;", 2);
    }

    private static void wrongLetters() {
        fault("let a=1;let a=2;", 3, 12);
        fault("let a=1;fun a=2;", 3, 12);
        fault("fun a=1;let a=2;", 3, 12);
        fault("let a=a;", 3, 6);
        fault("fun f=f(t);", 3, 6);
        fault("let a=b;let b=1;", 3, 6);
        fault("let a=z(1);", 3, 6);
        fault("let a=t;", 3, 6);
        fault("let a=(1+t);", 3, 9);
        fault("let b=1;let a=area(b,0,1);", 3, 19);
        fault("let a=area(f,0,1);", 3, 11);
        fault("fun f=area(f,0,1);", 3, 11);
        fault("fun f=t;let a=area(f,1,1);", 3, 23);
        fault("fun f=t;let a=area(f,2,1);", 3, 23);
        fault("fun f=t;let a=area(f,-1,-2);", 3, 25);
        fault("fun f=t;let a=area(f,-1, - 1);", 3, 27);
        fault("fun f=t;let a=area(f,0,-0);", 3, 24);
        good("fun f=t*t;fun g=f(t)+f(f(1));let a=g(3)+f(0);", 3);
    }

    private static void ofOnePlaceTheLeast() {
        String ones = "1" + "+1".repeat(47);
        String full = "let a=" + ones + ";let b=1";
        // the 97th knot, which is an untold letter, t in a number, a number beyond 999
        fault(full + ";let c=z;", 2, full.length() + 7);
        fault(full + ";let c=t;", 2, full.length() + 7);
        fault(full + ";let c=1000;", 2, full.length() + 7);
        // what can't stand there comes ahead of too much
        fault("let 1000=1;", 1, 4);
        fault("let a=1 1000;", 1, 8);
        fault(full + ";let c=);", 1, full.length() + 7);
        fault("fun f=t;let a=area(f,9,1000);", 2, 23);
        // the first along the text, not the least kind
        fault("let a=z $;", 3, 6);
        fault("let a=1000 $;", 2, 6);
        fault("let a=z(1000);", 3, 6);
    }

    private static void blanks() {
        good("", 0);
        good("  \n ", 0);
        good("\nlet\na\n=\n1\n;\n", 1);
        good("let a=1;let b=a;fun f=t;", 3);
        fault("let a=1;\r", 1, 8);
        fault("\u0000", 1, 0);
    }

    private static void kinds() {
        SureSums x = Check.told("let a=1;fun b=t;let z=2;");
        Check.due("kind(0)", x.kind(0), 1);
        Check.due("kind(1)", x.kind(1), 2);
        Check.due("kind(2)", x.kind(2), 0);
        Check.due("kind(19), t", x.kind(19), 0);
        Check.due("kind(25)", x.kind(25), 1);
        Check.due("kind(26)", x.kind(26), -1);
        Check.due("kind(-1)", x.kind(-1), -1);
        Check.due("kind(MIN_VALUE)", x.kind(Integer.MIN_VALUE), -1);
        Check.due("kind(MAX_VALUE)", x.kind(Integer.MAX_VALUE), -1);
    }

    private static void counts() {
        SureSums x = Check.told("fun f=-(t*(t)+2);let a=f(1);let b=if(a<1,sqrt(2),area(f,0,1));");
        Check.due("count(0)", x.count(0), 2);
        Check.due("count(1)", x.count(1), 1);
        // - * t t + 2, f 1, if a 1 sqrt 2 area
        Check.due("count(2)", x.count(2), 14);
        Check.due("count(3)", x.count(3), 3);
        Check.due("count(4)", x.count(4), -1);
        Check.due("count(-1)", x.count(-1), -1);
    }
}
