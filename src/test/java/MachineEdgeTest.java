/** The boundary cases of promises 15 and 16, of THE MACHINE's number and OFF, each sentence by itself. */
public final class MachineEdgeTest {
    private static final double WIDE = Double.POSITIVE_INFINITY;
    /** No number is below anything for the machine, so that it takes the second where the span of n has 1.41. */
    private static final String TWO_WAYS = "fun f=t*t-2;let n=nought(f,0,2);let a=if(n<2,";

    public static void main(String[] args) {
        promise15EachN();
        promise15AsTheMachineDoes();
        promise15Noughts();
        promise15Infinities();
        promise15Roots();
        promise15NoNumber();
        promise15NoNumberGoesOn();
        promise15Overs();
        promise15NoSuchLetter();
        promise15NoNumbers();
        promise15AfterAnotherText();
        promise16InTheSpan();
        promise16BelowAndAbove();
        promise16NoNumberOrNone();
        promise16Infinities();
        promise16Refused();
        Edge.finish();
    }

    private static void machine(String text, double due) {
        Edge.dueDouble("machine of " + text, Edge.told(text).machine(0), due);
    }

    /** The number a, and what 5 and it make, which would be 5 if it were 0, and what isn't below 5 either. */
    private static void noNumber(String ahead, String part) {
        SureSums x = Edge.told(ahead + "let a=" + part + ";let b=a+5;let c=if(a<5,6,7);let d=5+(" + part + ");");
        String of = " of " + ahead + part;
        Edge.dueDouble("machine" + of, x.machine(0), 0.0);
        Edge.dueDouble("5 more" + of, x.machine(1), 0.0);
        Edge.dueDouble("below 5" + of, x.machine(2), 7.0);
        Edge.dueDouble("5 and it" + of, x.machine(3), 0.0);
        Edge.due("off" + of, x.off(0), 2);
        Edge.due("off of 5 more" + of, x.off(1), 2);
        Edge.due("it throws nothing" + of, Edge.thrownByMachine(x, 0), 0);
    }

    private static void promise15EachN() {
        Edge.promise(15, "worked out by doubles: each N as such");
        for (int n = 0; n <= 999; n++) {
            machine("let a=" + n + ";", n);
        }
    }

    private static void promise15AsTheMachineDoes() {
        Edge.promise(15, "+ - * / - as the machine does");
        machine("let a=1/10+2/10;", 0.1 + 0.2);
        machine("let a=1/3*3;", 1.0);
        machine("let a=1/49*49;", 1.0 / 49.0 * 49.0);
        machine("let a=-(1/3);", -(1.0 / 3.0));
        machine("let a=1-1/3-1/3-1/3;", 1.0 - 1.0 / 3.0 - 1.0 / 3.0 - 1.0 / 3.0);
        machine("let a=999*999*999*999*999*999;", 999.0 * 999.0 * 999.0 * 999.0 * 999.0 * 999.0);
        Edge.promise(15, "if by < (a > b as b < a)");
        machine("let a=if(1<1,3,5);", 5.0);
        machine("let a=if(1>1,3,5);", 5.0);
        machine("let a=if(1<2,3,5);", 3.0);
        machine("let a=if(2>1,3,5);", 3.0);
        machine("let a=if(2<1,3,5);", 5.0);
        machine("let a=if(1>2,3,5);", 5.0);
        machine("let a=if(-0<0,3,5);", 5.0);
        machine("let a=if(0>-0,3,5);", 5.0);
        machine("let a=if(1/10+2/10<3/10,3,if(3/10<1/10+2/10,7,5));", 7.0);
    }

    private static void promise15Noughts() {
        Edge.promise(15, "sqrt, abs, max, min as Math does");
        machine("let a=-0;", -0.0);
        machine("let a=--0;", 0.0);
        machine("let a=0*-1;", -0.0);
        machine("let a=0/-1;", -0.0);
        machine("let a=-0+0;", 0.0);
        machine("let a=-0-0;", -0.0);
        machine("let a=0-0;", 0.0);
        machine("let a=abs(-0);", 0.0);
        machine("let a=abs(0);", 0.0);
        machine("let a=abs(1);", 1.0);
        machine("let a=abs(-1);", 1.0);
        machine("let a=abs(1/999);", 1.0 / 999.0);
        machine("let a=abs(-1/999);", 1.0 / 999.0);
        machine("let a=sqrt(0);", 0.0);
        machine("let a=sqrt(-0);", -0.0);
        machine("let a=max(0,-0);", 0.0);
        machine("let a=max(-0,0);", 0.0);
        machine("let a=max(-0,-0);", -0.0);
        machine("let a=min(0,-0);", -0.0);
        machine("let a=min(-0,0);", -0.0);
        machine("let a=min(0,0);", 0.0);
        machine("let a=max(-1,-0);", -0.0);
        machine("let a=min(1,-0);", -0.0);
        machine("let a=max(1,1)+max(1,2)+max(2,1)+min(4,8)+min(8,4)+min(4,4);", 1.0 + 2.0 + 2.0 + 12.0);
    }

    private static void promise15Infinities() {
        Edge.promise(15, "as the machine does");
        machine("let a=1/0;", WIDE);
        machine("let a=-1/0;", -WIDE);
        machine("let a=1/-0;", -WIDE);
        machine("let a=1/(1/0);", 0.0);
        machine("let a=-1/(1/0);", -0.0);
        machine("let a=1/0+1;", WIDE);
        machine("let a=1/0+1/0;", WIDE);
        machine("let a=-1/0-1/0;", -WIDE);
        machine("let a=1/0*2;", WIDE);
        machine("let a=1/0*-2;", -WIDE);
        machine("let a=1/0*(1/0);", WIDE);
        machine("let a=1/0/2;", WIDE);
        machine("let a=1/0/0;", WIDE);
        machine("let a=0/(1/0);", 0.0);
        machine("let a=abs(-1/0);", WIDE);
        machine("let a=sqrt(1/0);", WIDE);
        machine("let a=max(1/0,1);", WIDE);
        machine("let a=max(1,1/0);", WIDE);
        machine("let a=max(-1/0,1);", 1.0);
        machine("let a=min(1/0,1);", 1.0);
        machine("let a=min(1,-1/0);", -WIDE);
        machine("let a=if(-1/0<1/0,3,5);", 3.0);
        machine("let a=if(1/0<1/0,3,5);", 5.0);
        machine("let a=if(999<1/0,3,5);", 3.0);
        // beyond the greatest double, below the least
        machine("let b=999*999*999;let c=b*b*b*b;let d=c*c*c*c;let a=d*d*d;", WIDE);
        machine("let b=999*999*999;let c=b*b*b*b;let d=c*c*c*c;let a=-d*d*d;", -WIDE);
        machine("let b=1/999/999/999;let c=b*b*b*b;let d=c*c*c*c;let a=d*d*d;", 0.0);
        machine("let b=1/999/999/999;let c=b*b*b*b;let d=c*c*c*c;let a=-d*d*d;", -0.0);
    }

    /** A root of a number of each size: 2 to the 1023 and less, down to the least double. */
    private static void promise15Roots() {
        Edge.promise(15, "sqrt, .. as Math does");
        double two = 1.0;
        StringBuilder powers = new StringBuilder("let b=512*512;let c=b*b*b;let d=c*c*c;let e=d*d*d;let f=e*d*d;");
        for (int k = 0; k < 18; k++) {
            two *= 2;
        }
        double c = two * two * two;
        double d = c * c * c;
        double e = d * d * d;
        double f = e * d * d;
        String[] texts = {"b", "c", "d", "e", "f", "f*2", "f*3", "1/b", "1/c", "1/d", "1/e", "1/f", "1/f/2", "1/f/3", "1/f/d", "1/f/d/b/2",
            "1/f/d/c/2/2", "2", "3", "1/3", "2/3", "999", "999/998", "998/999", "f*(998/999)", "1/f*(998/999)"};
        double[] numbers = {two, c, d, e, f, f * 2, f * 3, 1 / two, 1 / c, 1 / d, 1 / e, 1 / f, 1 / f / 2, 1 / f / 3, 1 / f / d,
            1 / f / d / two / 2, 1 / f / d / c / 2 / 2, 2, 3, 1.0 / 3.0, 2.0 / 3.0, 999, 999.0 / 998.0, 998.0 / 999.0, f * (998.0 / 999.0),
            1 / f * (998.0 / 999.0)};
        for (int k = 0; k < texts.length; k++) {
            machine(powers + "let a=" + texts[k] + ";", numbers[k]);
            machine(powers + "let a=sqrt(" + texts[k] + ");", Math.sqrt(numbers[k]));
            machine(powers + "let a=sqrt(sqrt(" + texts[k] + "));", Math.sqrt(Math.sqrt(numbers[k])));
        }
    }

    private static void promise15NoNumber() {
        Edge.promise(15, "THE MACHINE's number (0 if it is no number).");
        noNumber("", "0/0");
        noNumber("", "-0/0");
        noNumber("", "sqrt(-1)");
        noNumber("", "sqrt(-1/999/999)");
        noNumber("", "sqrt(-1/0)");
        noNumber("", "1/0-1/0");
        noNumber("", "-1/0+1/0");
        noNumber("", "1/0+-1/0");
        noNumber("", "-1/0- -1/0");
        noNumber("", "0*(1/0)");
        noNumber("", "1/0*0");
        noNumber("", "1/0*-0");
        noNumber("", "1/0/(1/0)");
        noNumber("", "1/0/(-1/0)");
    }

    private static void promise15NoNumberGoesOn() {
        Edge.promise(15, "no number (NaN), which goes on as the machine has it");
        for (String part : new String[] {"n", "-n", "n+1", "1+n", "n-n", "n*0", "0*n", "n/1", "1/n", "0/n", "sqrt(n)", "abs(n)", "max(n,1)",
            "max(1,n)", "min(n,1)", "min(1,n)", "max(n,1/0)", "min(-1/0,n)", "if(0<1,n,1)", "if(1<0,1,n)", "g(n)"}) {
            noNumber("fun g=t;let n=0/0;", part);
        }
        // it is below nothing and above nothing, and so the second
        machine("let n=0/0;let a=if(n<1,3,5);", 5.0);
        machine("let n=0/0;let a=if(1<n,3,5);", 5.0);
        machine("let n=0/0;let a=if(n>1,3,5);", 5.0);
        machine("let n=0/0;let a=if(1>n,3,5);", 5.0);
        machine("let n=0/0;let a=if(n<n,3,5);", 5.0);
        machine("let n=0/0;let a=if(-1/0<n,3,5);", 5.0);
        machine("let n=0/0;let a=if(1/0>n,3,5);", 5.0);
        // not asked, or asked and not looked at
        machine("let n=0/0;let a=if(0<1,3,n);", 3.0);
        machine("let n=0/0;let a=if(1<0,n,3);", 3.0);
        machine("fun g=7;let n=0/0;let a=g(n);", 7.0);
        machine("fun g=if(t<0,3,5);let n=0/0;let a=g(n);", 5.0);
    }

    private static void promise15Overs() {
        Edge.promise(15, "OVER: no number (NaN)");
        for (String word : new String[] {"nought", "area", "most", "least"}) {
            noNumber("fun g=t;", word + "(g,-1,2)");
            noNumber("fun g=t;let e=" + word + "(g,-1,2);", "e-e");
            noNumber("fun g=t;fun h=" + word + "(g,-1,2);", "h(1)");
            machine("fun g=t;let a=if(" + word + "(g,-1,2)<999,3,5);", 5.0);
            machine("fun g=t;let a=if(" + word + "(g,-1,2)>-999,3,5);", 5.0);
            machine("fun g=t;let b=" + word + "(g,-1,2);let a=1;", 1.0);
        }
    }

    private static void promise15NoSuchLetter() {
        Edge.promise(15, "IndexOutOfBoundsException: no such letter.");
        SureSums x = Edge.told("let a=1;let z=2;fun f=t;");
        SureSums empty = new SureSums();
        for (int letter : Edge.NO_LETTERS) {
            Edge.due("machine(" + letter + ") throws", Edge.thrownByMachine(x, letter), 1);
            Edge.due("machine(" + letter + ") of a new object throws", Edge.thrownByMachine(empty, letter), 1);
        }
        Edge.due("machine(0) throws nothing", Edge.thrownByMachine(x, 0), 0);
        Edge.due("machine(25) throws nothing", Edge.thrownByMachine(x, 25), 0);
    }

    private static void promise15NoNumbers() {
        Edge.promise(15, "NoSuchElementException: it is no number's.");
        SureSums x = Edge.told("let a=1;let z=2;fun f=t;");
        SureSums empty = new SureSums();
        for (int letter = 0; letter < 26; letter++) {
            Edge.due("machine(" + letter + ") throws", Edge.thrownByMachine(x, letter), letter == 0 || letter == 25 ? 0 : 2);
            Edge.due("machine(" + letter + ") of a new object throws", Edge.thrownByMachine(empty, letter), 2);
        }
        // what it throws leaves the object as it was
        Edge.due("span(a)", x.span(0, 4, 0), 16);
        Edge.dueDouble("machine(z)", x.machine(25), 2.0);
    }

    private static void promise15AfterAnotherText() {
        Edge.promise(15, "THE MACHINE's number");
        SureSums x = Edge.told("let a=1/3;let b=a*2;");
        Edge.dueDouble("machine(b)", x.machine(1), 1.0 / 3.0 * 2.0);
        Edge.dueDouble("machine(a)", x.machine(0), 1.0 / 3.0);
        Edge.due("another text", Check.tell(x, "let b=7;let a=b/0;"), 2);
        Edge.dueDouble("machine(a)", x.machine(0), WIDE);
        Edge.dueDouble("machine(b)", x.machine(1), 7.0);
        Edge.due("a text with a fault", Check.tell(x, "let b=8;let a=c;"), -1);
        Edge.dueDouble("machine(b)", x.machine(1), 7.0);
        Edge.due("an empty text", x.text(0), 0);
        Edge.due("machine(b) throws", Edge.thrownByMachine(x, 1), 2);
    }

    private static void off(String text, int due) {
        Edge.due("off of " + text, Edge.told(text).off(0), due);
    }

    private static void promise16InTheSpan() {
        Edge.promise(16, "0, .. in the span, .. by w = 20");
        off("let a=0;", 0);
        off("let a=-0;", 0);
        off("let a=1/3;", 0);
        off("let a=-1/3;", 0);
        off("let a=512*4;", 0);
        off("let a=-512*4;", 0);
        off("let a=sqrt(2);", 0);
        off("let a=1/10+2/10-3/10;", 0);
        // LOW itself, HIGH itself, and between
        off(TWO_WAYS + "if(1/3*3<1,5,7),5);", 0);
        off(TWO_WAYS + "if(1/3*3<1,5,7),7);", 0);
        off(TWO_WAYS + "if(1/3*3<1,5,7),6);", 0);
        off(TWO_WAYS + "5,5);", 0);
        off(TWO_WAYS + "-5,-5);", 0);
    }

    private static void promise16BelowAndAbove() {
        Edge.promise(16, "-1, 0, 1 if it is below LOW, in the span, above HIGH by w = 20 (as fractions)");
        off(TWO_WAYS + "5,4);", -1);
        off(TWO_WAYS + "5,6);", 1);
        off(TWO_WAYS + "-5,-6);", -1);
        off(TWO_WAYS + "-5,-4);", 1);
        off(TWO_WAYS + "0,-1);", -1);
        off(TWO_WAYS + "0,1);", 1);
        // far less than a part beside: 1 by 999 to the 3 is 2 to the -30
        off(TWO_WAYS + "1,1+1/999/999/999);", 1);
        off(TWO_WAYS + "1,1-1/999/999/999);", -1);
        off(TWO_WAYS + "-1,-1+1/999/999/999);", 1);
        off(TWO_WAYS + "-1,-1-1/999/999/999);", -1);
        off(TWO_WAYS + "0,1/999/999/999/999/999);", 1);
        off(TWO_WAYS + "0,-1/999/999/999/999/999);", -1);
        off(TWO_WAYS + "0,-0);", 0);
        off(TWO_WAYS + "512*4,512*4+1/999/999);", 1);
        off(TWO_WAYS + "-512*4,-512*4-1/999/999);", -1);
        // by 20 bits 1 by 3 is 349525 .. 349526 parts: their ends themselves are in it
        String parts = "/512/512/4";
        off(TWO_WAYS + "1/3,(349*999+874)" + parts + ");", 0);
        off(TWO_WAYS + "1/3,(349*999+875)" + parts + ");", 0);
        off(TWO_WAYS + "1/3,(349*999+873)" + parts + ");", -1);
        off(TWO_WAYS + "1/3,(349*999+876)" + parts + ");", 1);
    }

    private static void promise16NoNumberOrNone() {
        Edge.promise(16, "2 it is no number, or the span is NONE");
        off("let a=0/0;", 2);
        off("let a=1/0;", 2);
        off("let a=999*999;", 2);
        off("fun g=t;let a=area(g,0,1);", 2);
        off(TWO_WAYS + "5,0/0);", 2);
        off(TWO_WAYS + "1/0,5);", 2);
        off("let a=1/0*0;", 2);
        // the span is NONE by 4 bits alone
        off("let a=1/(1/17);", 0);
    }

    private static void promise16Infinities() {
        Edge.promise(16, "-1, 0, 1 if it is below LOW, in the span, above HIGH .. 2 it is no number");
        off(TWO_WAYS + "5,1/0);", 1);
        off(TWO_WAYS + "5,-1/0);", -1);
        off(TWO_WAYS + "512*4,1/0);", 1);
        off(TWO_WAYS + "-512*4,-1/0);", -1);
        off("let a=min(1/0,5);", 2);
    }

    private static void promise16Refused() {
        Edge.promise(16, "NONE: no such number.");
        SureSums x = Edge.told("let a=1;fun f=t;");
        Edge.due("off(a)", x.off(0), 0);
        Edge.due("off of a function", x.off(5), -1);
        Edge.due("off of nothing", x.off(1), -1);
        Edge.due("off of t", x.off(19), -1);
        for (int letter : Edge.NO_LETTERS) {
            Edge.due("off(" + letter + ")", x.off(letter), -1);
        }
    }
}
