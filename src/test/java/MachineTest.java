import java.lang.reflect.Method;
import java.util.NoSuchElementException;
import java.util.Random;

/** Promises 15 and 16: machine, off. */
public final class MachineTest {
    public static void main(String[] args) throws Exception {
        ordinary();
        noughtsAndInfinities();
        noNumber();
        throwing();
        off();
        rootsToTheBit();
        Check.finish();
    }

    private static void machine(String text, double due) {
        Check.dueDouble("machine of " + text, Check.told(text).machine(0), due);
    }

    private static void ordinary() {
        machine("let a=1/3;", 1.0 / 3.0);
        machine("let a=1/10+2/10;", 0.1 + 0.2);
        machine("let a=1/10+2/10-3/10;", 0.1 + 0.2 - 0.3);
        machine("let a=-7/2;", -3.5);
        machine("let a=999*999;", 998001.0);
        machine("let a=sqrt(2);", Math.sqrt(2));
        machine("let a=sqrt(1/3);", Math.sqrt(1.0 / 3.0));
        machine("let a=abs(-1/3);", 1.0 / 3.0);
        machine("let a=max(1/3,1/4)-min(1/3,1/4);", 1.0 / 3.0 - 0.25);
        machine("let a=if(1<2,3,4);", 3.0);
        machine("let a=if(2<2,3,4);", 4.0);
        machine("let a=if(2>2,3,4);", 4.0);
        machine("let a=if(3>2,3,4);", 3.0);
        machine("let a=if(2<1,if(1<2,1,2),if(1>2,3,5))+1;", 6.0);
        machine("fun f=t*t-2;let b=f(3);let a=f(b)+f(f(1));", 46.0);
        machine("fun f=t+10;fun g=f(1)+t;let a=g(4);", 15.0);
        machine("let b=1/49*49;let a=if(b<1,1,2);", 1.0);
    }

    private static void noughtsAndInfinities() {
        machine("let a=-0;", -0.0);
        machine("let a=0*-1;", -0.0);
        machine("let a=abs(-0);", 0.0);
        machine("let a=sqrt(-0);", -0.0);
        machine("let a=max(-0,0);", 0.0);
        machine("let a=max(0,-0);", 0.0);
        machine("let a=max(-0,-0);", -0.0);
        machine("let a=min(-0,0);", -0.0);
        machine("let a=min(0,-0);", -0.0);
        machine("let a=min(0,0);", 0.0);
        machine("let a=0-0;", 0.0);
        machine("let a=1/0;", Double.POSITIVE_INFINITY);
        machine("let a=1/-0;", Double.NEGATIVE_INFINITY);
        machine("let a=-1/0;", Double.NEGATIVE_INFINITY);
        machine("let a=sqrt(1/0);", Double.POSITIVE_INFINITY);
        machine("let a=abs(-1/0);", Double.POSITIVE_INFINITY);
        machine("let a=1/(1/0);", 0.0);
        machine("let a=1/(-1/0);", -0.0);
        machine("let a=1/0+1/0;", Double.POSITIVE_INFINITY);
        machine("let a=1/0-5;", Double.POSITIVE_INFINITY);
        machine("let a=-1/0-1/0;", Double.NEGATIVE_INFINITY);
        machine("let a=1/0*-1;", Double.NEGATIVE_INFINITY);
        machine("let a=max(1/0,1)+min(1,1/0);", Double.POSITIVE_INFINITY);
        machine("let a=if(1<1/0,1,2);", 1.0);
        // grows beyond the greatest double, shrinks below the least
        machine("let b=999*999*999;let c=b*b*b*b*b*b;let d=c*c*c*c*c*c;let a=d*d*d*d;", Double.POSITIVE_INFINITY);
        machine("let b=1/999/999/999;let c=b*b*b*b*b*b;let d=c*c*c*c*c*c;let a=d*d*d*d;", 0.0);
    }

    private static void noNumber() {
        machine("let a=0/0;", 0.0);
        machine("let a=sqrt(-1);", 0.0);
        machine("let a=sqrt(-1)+5;", 0.0);
        machine("let a=5+sqrt(-1);", 0.0);
        machine("let a=1/0-1/0;", 0.0);
        machine("let a=1/0+-1/0;", 0.0);
        machine("let a=0*(1/0);", 0.0);
        machine("let a=(1/0)*0;", 0.0);
        machine("let a=(1/0)/(1/0);", 0.0);
        machine("let a=sqrt(-1/0);", 0.0);
        machine("let a=max(0/0,1);", 0.0);
        machine("let a=min(1,0/0);", 0.0);
        machine("let a=abs(0/0);", 0.0);
        machine("let a=-(0/0);", 0.0);
        machine("let a=sqrt(0/0);", 0.0);
        machine("fun f=t;let a=area(f,0,1);", 0.0);
        machine("fun f=t;let a=most(f,0,1)+1;", 0.0);
        machine("fun f=t;let a=least(f,0,1)*1;", 0.0);
        machine("fun f=t;let a=nought(f,-1,2);", 0.0);
        machine("let b=0/0;let a=b+1;", 0.0);
        // no comparing with no number holds
        machine("let a=if(0/0<1,3,4);", 4.0);
        machine("let a=if(0/0>1,3,4);", 4.0);
        machine("let a=if(1<0/0,3,4);", 4.0);
        machine("let a=if(1>0/0,3,4);", 4.0);
        // a function of no number that doesn't look at it
        machine("fun f=5;let a=f(0/0);", 5.0);
        machine("fun f=if(t<1,3,4);let a=f(0/0);", 4.0);
        machine("let a=if(1<2,3,0/0);", 3.0);
    }

    private static int thrown(SureSums x, int letter) {
        try {
            x.machine(letter);
        } catch (IndexOutOfBoundsException e) {
            return 1;
        } catch (NoSuchElementException e) {
            return 2;
        }
        return 0;
    }

    private static void throwing() {
        SureSums x = Check.told("let a=1;fun f=t;let z=0/0;");
        Check.due("machine(0)", thrown(x, 0), 0);
        Check.due("machine(25)", thrown(x, 25), 0);
        Check.due("machine of a function", thrown(x, 5), 2);
        Check.due("machine of nothing", thrown(x, 1), 2);
        Check.due("machine of t", thrown(x, 19), 2);
        Check.due("machine(-1)", thrown(x, -1), 1);
        Check.due("machine(26)", thrown(x, 26), 1);
        Check.due("machine(MIN_VALUE)", thrown(x, Integer.MIN_VALUE), 1);
        Check.due("machine(MAX_VALUE)", thrown(x, Integer.MAX_VALUE), 1);
    }

    private static void off(String text, int due) {
        Check.due("off of " + text, Check.told(text).off(0), due);
    }

    private static void off() {
        off("let a=1/3;", 0);
        off("let a=1;", 0);
        off("let a=512*4;", 0);
        off("let a=-512*4;", 0);
        off("let a=1/10+2/10-3/10;", 0);
        off("let a=0/0;", 2);
        off("let a=1/0;", 2);
        off("let a=999*999;", 2);
        off("fun f=t;let a=area(f,0,1);", 2);
        // the machine has no number to compare and takes the second
        String f = "fun f=t*t-2;";
        off(f + "let a=if(nought(f,0,2)<2,1,5);", 1);
        off(f + "let a=if(nought(f,0,2)<2,5,1);", -1);
        off(f + "let a=if(nought(f,0,2)<2,5,5);", 0);
        off(f + "let a=if(nought(f,0,2)<2,5,1/0);", 1);
        off(f + "let a=if(nought(f,0,2)<2,5,-1/0);", -1);
        off(f + "let a=if(nought(f,0,2)<2,5,0/0);", 2);
        // a little beside the ends of a span of one place, and of one part's width
        off(f + "let a=if(nought(f,0,2)<2,1,1+1/999/999/999);", 1);
        off(f + "let a=if(nought(f,0,2)<2,1,1-1/999/999/999);", -1);
        off(f + "let a=if(nought(f,0,2)<2,1/3,1/3+1/999/999);", 1);
        off(f + "let a=if(nought(f,0,2)<2,1/3,1/3-1/999/999);", -1);
        SureSums x = Check.told("let a=1;fun f=t;");
        Check.due("off of a function", x.off(5), -1);
        Check.due("off of nothing", x.off(1), -1);
        Check.due("off(-1)", x.off(-1), -1);
        Check.due("off(26)", x.off(26), -1);
    }

    /** The program may not use Math on doubles: its own root is held against it, over all sizes. */
    private static void rootsToTheBit() throws Exception {
        Method root = Class.forName("SureSums$Doubles").getDeclaredMethod("root", double.class);
        root.setAccessible(true);
        double[] edges = {Double.MIN_VALUE, Double.MIN_VALUE * 2, Double.MIN_VALUE * 3, Double.MIN_NORMAL, Double.MAX_VALUE,
            1.0, Math.nextUp(1.0), Math.nextDown(1.0), 4.0, Math.nextUp(4.0), Math.nextDown(4.0), 2.0, 0.5};
        for (double edge : edges) {
            Check.dueDouble("root of " + edge, (Double) root.invoke(null, edge), Math.sqrt(edge));
        }
        Random random = new Random(7);
        for (int k = 0; k < 200000; k++) {
            double square = Math.abs(Double.longBitsToDouble(random.nextLong()));
            if (k % 2 == 0) {
                square = random.nextInt(1000000) / (1.0 + random.nextInt(1000));
            }
            if (square > 0 && square <= Double.MAX_VALUE) {
                Check.dueDouble("root of " + square, (Double) root.invoke(null, square), Math.sqrt(square));
            }
        }
    }
}
