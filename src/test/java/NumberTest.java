/** Promises 9 to 11: digits, exact, compare. */
public final class NumberTest {
    private static final long MIN = Long.MIN_VALUE;

    public static void main(String[] args) {
        digits();
        exact();
        exactLimits();
        compare();
        wrongInputs();
        Check.finish();
    }

    private static void digits(String text, int due) {
        Check.due("digits of " + text, Check.told(text).digits(0), due);
    }

    private static void digits() {
        digits("let a=1;", 5);
        digits("let a=1/3;", 5);
        digits("let a=-7/2;", 5);
        digits("let a=-1/3;", 5);
        digits("let a=sqrt(2);", 5);
        // the span has 1 inside: not even the whole part is sure
        digits("let a=1/3*3;", -1);
        digits("let a=1/3-1/3;", -1);
        // 31/64 .. 33/64 by 32 pieces: 0.4843 .. 0.5156
        digits("fun f=t;let a=area(f,0,1);", 0);
        // 0.0484.. to 0.0515..: 0.0 is sure
        digits("fun f=t;let a=area(f,0,1)/10;", 1);
        digits("fun f=t;let a=area(f,0,1)/100;", 2);
        digits("fun f=t;let a=area(f,0,1)/100+1;", 2);
        digits("let b=1/3*3;let a=if(b<1,5,7);", -1);
        digits("let a=1/0;", -2);
        digits("let a=999*999;", -2);
        digits("let a=512*4;", 5);
        digits("let a=-512*4;", 5);
        digits("let a=0;", 5);
    }

    private static void exact(String text, long upper, long lower) {
        SureSums x = Check.told(text);
        Check.due("upper of " + text, x.exact(0, 0), upper);
        Check.due("lower of " + text, x.exact(0, 1), lower);
    }

    private static void inexact(String text) {
        exact(text, MIN, MIN);
    }

    private static void exact() {
        exact("let a=0;", 0, 1);
        exact("let a=-0;", 0, 1);
        exact("let a=0/5;", 0, 1);
        exact("let a=0/-5;", 0, 1);
        exact("let a=6/4;", 3, 2);
        exact("let a=6/-4;", -3, 2);
        exact("let a=-6/-4;", 3, 2);
        exact("let a=--6;", 6, 1);
        exact("let a=1/3+1/6;", 1, 2);
        exact("let a=1/3-1/2;", -1, 6);
        exact("let a=2/3*(3/4);", 1, 2);
        exact("let a=(2/3)/(4/3);", 1, 2);
        exact("let b=1/3;let c=b*3;let a=c-b;", 2, 3);
        exact("let a=999*999;", 998001, 1);
        inexact("let a=1/0;");
        inexact("let a=0/0;");
        inexact("let a=1/(1/3-1/3);");
        inexact("let a=sqrt(4);");
        inexact("let a=abs(1);");
        inexact("let a=max(1,2);");
        inexact("let a=min(1,2);");
        inexact("let a=if(1<2,3,4);");
        inexact("fun f=t;let a=f(1);");
        inexact("fun f=t;let a=area(f,0,1);");
        inexact("fun f=t;let a=nought(f,-1,1);");
        inexact("fun f=t;let a=most(f,0,1)*0;");
        inexact("let b=sqrt(4);let a=b-b;");
        inexact("let b=1/0;let a=1+b;");
        inexact("let b=1/0;let c=b;let a=c*0;");
    }

    private static void exactLimits() {
        // 10 to the 9 itself fits, above and below, and with a sign
        exact("let b=500+500;let a=b*b*b;", 1000000000L, 1);
        exact("let b=500+500;let a=-b*b*b;", -1000000000L, 1);
        exact("let b=500+500;let a=1/b/b/b;", 1, 1000000000L);
        inexact("let b=500+500;let a=b*b*b+1;");
        inexact("let b=500+500;let a=-b*b*b-1;");
        inexact("let b=500+500;let a=1/b/b/b/2;");
        // all that come ahead, too
        inexact("let b=500+500;let a=(b*b*b+1)-1;");
        inexact("let b=500+500;let a=(b*b*b*2)/2;");
        inexact("let b=500+500;let a=(b*b*b*b)*0;");
        inexact("let b=500+500;let c=b*b*b*b;let a=c-c;");
        // in least terms ahead of the look
        exact("let b=500+500;let a=(b*b*b)/(b*b*b);", 1, 1);
        exact("let b=500+500;let c=1/b/b/b;let a=c+c;", 1, 500000000L);
        exact("let b=500+500;let c=b*b*b;let d=1/c;let a=c*d;", 1, 1);
        exact("let b=500+500;let c=b*b*b;let d=1/c;let a=d/d;", 1, 1);
        inexact("let b=500+500;let c=b*b*b;let d=1/c;let a=c/d;");
        inexact("let b=500+500;let c=b*b*b;let d=(b*b*b-1);let a=c/d+d/c;");
    }

    private static void compare(String text, char a, char b, int due) {
        SureSums x = Check.told(text);
        Check.due("compare " + a + " " + b + " of " + text, x.compare(Check.letter(a), Check.letter(b)), due);
    }

    private static void compare() {
        String lines = "let a=1/3;let b=a*3;let c=1;let d=1/0;let e=sqrt(2);let f=sqrt(2);let g=999*999;let h=999*999*1;";
        compare(lines, 'b', 'c', 0);
        compare(lines, 'c', 'b', 0);
        compare(lines, 'a', 'c', 4);
        compare(lines, 'c', 'a', -4);
        compare(lines, 'a', 'a', 0);
        compare(lines, 'e', 'e', 0);
        compare(lines, 'e', 'f', 1);
        compare(lines, 'd', 'd', 1);
        compare(lines, 'd', 'a', 1);
        compare(lines, 'a', 'd', 1);
        compare(lines, 'g', 'g', 0);
        compare(lines, 'g', 'h', 0);
        compare(lines, 'g', 'a', 1);
        // 1/16 is told by 4 bits, 1/17 needs 8
        compare("let a=0;let b=1/16;", 'a', 'b', 4);
        compare("let a=0;let b=1/17;", 'a', 'b', 8);
        compare("let a=0;let b=1/17;", 'b', 'a', -8);
        compare("let a=0;let b=1/257;", 'a', 'b', 12);
        compare("let a=1;let b=1+1/999/5;", 'a', 'b', 16);
        compare("let a=1;let b=1+1/999/70;", 'a', 'b', 20);
        compare("let a=1;let b=1-1/999/70;", 'a', 'b', -20);
        // told apart by no span, and not the same as fractions
        compare("let a=1;let b=1+1/999/999/2;", 'a', 'b', 1);
        compare("let b=1/3*3;let c=if(b<1,5,7);let d=6;", 'c', 'd', 1);
        compare("let b=1/3*3;let c=if(b<1,5,7);let d=8;", 'c', 'd', 4);
        // the same number with a span that is not exact
        compare("let b=1/3*3;let c=if(b<1,5,7);", 'c', 'c', 0);
        compare("fun f=999;let a=area(f,0,3);", 'a', 'a', 1);
        // NONE by 4 alone: the divisor has 0 in it, and no longer by 8
        compare("let a=1/(1/17)/17;let b=2;", 'a', 'b', 8);
    }

    private static void wrongInputs() {
        SureSums x = Check.told("let a=1;fun f=t;");
        Check.due("digits of a function", x.digits(5), -1);
        Check.due("digits of nothing", x.digits(1), -1);
        Check.due("digits(-1)", x.digits(-1), -1);
        Check.due("digits(26)", x.digits(26), -1);
        Check.due("exact of a function", x.exact(5, 0), MIN);
        Check.due("exact of nothing", x.exact(1, 0), MIN);
        Check.due("exact(26, 0)", x.exact(26, 0), MIN);
        Check.due("exact(0, 2)", x.exact(0, 2), MIN);
        Check.due("exact(0, -1)", x.exact(0, -1), MIN);
        int min = Integer.MIN_VALUE;
        Check.due("compare with a function", x.compare(0, 5), min);
        Check.due("compare of a function", x.compare(5, 0), min);
        Check.due("compare of functions", x.compare(5, 5), min);
        Check.due("compare of nothing", x.compare(1, 1), min);
        Check.due("compare(0, 26)", x.compare(0, 26), min);
        Check.due("compare(-1, 0)", x.compare(-1, 0), min);
    }
}
