/** The sentences of "SCALES", one method for each that names an edge. */
public final class ScalesTermsTest {
    public static void main(String[] args) {
        lowAndHighOfBars();
        segmentsBelowAndAbove();
        lowAndHighOfOthers();
        equalLowAndHigh();
        barsWithoutHeight();
        stepsOfOneTwoFive();
        leastStep();
        greatestSteps();
        atMostAsManyTicks();
        fiveTicksIfNothingSays();
        multiplesAroundLowAndHigh();
        exactEnds();
        labelsOfTicks();
        labelsBelowZero();
        labelsOfLargeTicks();
        Check.end();
    }

    /** "for bars: the least and the greatest of 0 and, of all groups": 0 is always between them. */
    private static void lowAndHighOfBars() {
        Check.figuresAre("a,v\n1,30\n2,40\n", "bar x a y sum v", "2 10 0 40000 10000 5 1");
        Check.figuresAre("a,v\n1,-30\n2,-40\n", "bar x a y sum v", "2 14 -40000 0 10000 5 1");
        Check.figuresAre("a,v\n1,-30\n2,40\n", "bar x a y sum v ticks 8", "2 14 -30000 40000 10000 8 1");
        Check.figuresAre("a,v\n1,40\n2,0\n", "bar x a y sum v", "2 10 0 40000 10000 5 1");
        // The last group has the greatest, or the least.
        Check.figuresAre("a,v\n1,1\n2,2\n3,4\n", "bar x a y max v", "3 6 0 4000 1000 5 1");
        Check.figuresAre("a,v\n1,-1\n2,-2\n3,-4\n", "bar x a y min v", "3 10 -4000 0 1000 5 1");
    }

    /** "the sum of its segments below 0, and that of those above 0" */
    private static void segmentsBelowAndAbove() {
        String bothSigns = "a,v,k\n1,5,p\n1,-3,q\n";
        Check.figuresAre(bothSigns, "bar x a y sum v stack k", "1 10 -5000 5000 5000 3 1");
        Check.figuresAre(bothSigns, "bar x a y sum v stack k ticks 9", "1 10 -3000 5000 1000 9 1");
        Check.figuresAre(bothSigns, "bar x a y sum v", "1 14 0 2000 500 5 1");
        Check.figuresAre("a,v,k\n1,-1,p\n1,-3,q\n1,2,r\n1,2,s\n", "bar x a y sum v stack k ticks 9", "1 10 -4000 4000 1000 9 1");
        // Segments of different groups are not added up.
        Check.figuresAre("a,v,k\n1,3,p\n1,4,q\n2,5,p\n", "bar x a y sum v stack k", "2 6 0 8000 2000 5 1");
        Check.figuresAre("a,v,k\n1,-4,p\n2,4,p\n", "bar x a y sum v stack k ticks 9", "2 10 -4000 4000 1000 9 1");
    }

    /** "for others the least and the greatest value": 0 has no part in it. */
    private static void lowAndHighOfOthers() {
        String[] marks = {"line", "point"};
        for (String mark : marks) {
            Check.figuresAre("a,v\n1,30\n2,40\n", mark + " x a y sum v", "2 10 30000 40000 5000 3 1");
            Check.figuresAre("a,v\n1,-30\n2,-40\n", mark + " x a y sum v", "2 14 -40000 -30000 5000 3 1");
            Check.figuresAre("a,v\n1,8\n2,9\n3,7\n4,8\n", mark + " x a y sum v ticks 3", "4 6 7000 9000 1000 3 1");
            // Nor has a group that was left out, wherever it stood.
            Check.figuresAre("a,v\np,\nq,30\nr,40\n", mark + " x a y mean v", "2 10 30000 40000 5000 3 1");
            Check.figuresAre("a,v\np,-30\nq,\nr,-40\ns,\n", mark + " x a y max v", "2 14 -40000 -30000 5000 3 1");
        }
    }

    /** "if they are equal ... 1 less and 1 more" */
    private static void equalLowAndHigh() {
        String[] marks = {"line", "point"};
        for (String mark : marks) {
            Check.figuresAre("a,v\n1,5\n", mark + " x a y sum v", "1 14 4000 6000 500 5 1");
            Check.figuresAre("a,v\n1,-5\n2,-5\n", mark + " x a y sum v", "2 18 -6000 -4000 500 5 1");
            Check.figuresAre("a,v\n1,0\n", mark + " x a y sum v ticks 3", "1 10 -1000 1000 1000 3 1");
            // A third less 1 and plus 1 is -2/3 and 4/3.
            Check.figuresAre("a,v\n1,1\n1,0\n1,0\n", mark + " x a y mean v", "1 10 -1000 2000 1000 4 1");
            Check.figuresAre("a,v\n1,999999.999\n", mark + " x a y sum v ticks 3", "1 30 999998000 1000002000 2000 3 1");
        }
        // The least difference there is makes them unequal.
        Check.figuresAre("a,v\n1,5\n2,5.001\n", "line x a y sum v", "2 22 5000 5001 1 2 1");
    }

    /** "(for bars, too)": when all are 0. */
    private static void barsWithoutHeight() {
        Check.figuresAre("a,v\n1,0\n", "bar x a y sum v", "1 18 -1000 1000 500 5 1");
        Check.figuresAre("a,v\n1,0\n2,\n3,-0.0\n", "bar x a y sum v", "3 18 -1000 1000 500 5 1");
        Check.figuresAre("a,v\n1,5\n1,-5\n", "bar x a y sum v ticks 3", "1 10 -1000 1000 1000 3 1");
        // A bar of 5 has 0 and 5, which are not equal.
        Check.figuresAre("a,v\n1,5\n", "bar x a y sum v ticks 6", "1 6 0 5000 1000 6 1");
        // Segments that come to 0 together are not without height.
        Check.figuresAre("a,v,k\n1,5,p\n1,-5,q\n", "bar x a y sum v stack k", "1 10 -5000 5000 5000 3 1");
    }

    /** "A STEP is 1, 2 or 5 times a power of ten": the last value for which each is enough, and one thousandth more. */
    private static void stepsOfOneTwoFive() {
        bar("4", "1 6 0 4000 1000 5 1");
        bar("4.001", "1 6 0 6000 2000 4 1");
        bar("8", "1 6 0 8000 2000 5 1");
        bar("8.001", "1 10 0 10000 5000 3 1");
        bar("20", "1 10 0 20000 5000 5 1");
        bar("20.001", "1 10 0 30000 10000 4 1");
        bar("40", "1 10 0 40000 10000 5 1");
        bar("40.001", "1 10 0 60000 20000 4 1");
        bar("0.4", "1 14 0 400 100 5 1");
        bar("0.401", "1 14 0 600 200 4 1");
        bar("-8", "1 10 -8000 0 2000 5 1");
        bar("-8.001", "1 14 -10000 0 5000 3 1");
    }

    private static void bar(String value, String want) {
        Check.figuresAre("a,v\n1," + value + "\n", "bar x a y sum v", want);
    }

    /** "(0.001 and more)": none is less, however near LOW and HIGH are. */
    private static void leastStep() {
        bar("0.001", "1 22 0 1 1 2 1");
        bar("0.002", "1 22 0 2 1 3 1");
        bar("0.004", "1 22 0 4 1 5 1");
        bar("0.005", "1 22 0 6 2 4 1");
        bar("-0.001", "1 26 -1 0 1 2 1");
        // A mean of 1/2000 is below the least step.
        Check.figuresAre("a,v\n1,0.001\n1,0\n", "bar x a y mean v", "1 22 0 1 1 2 1");
        Check.figuresAre("a,v\n1,0.001\n1,0\n2,0\n", "point x a y mean v ticks 9", "2 22 0 1 1 2 1");
    }

    /** The greatest that the data allow. */
    private static void greatestSteps() {
        String most = "a,v\n" + "1,999999.999\n".repeat(12);
        Check.figuresAre(most, "bar x a y sum v", "1 34 0 15000000000 5000000000 4 1");
        Check.figuresAre(most, "bar x a y sum v ticks 3", "1 34 0 20000000000 10000000000 3 1");
        Check.figuresAre("a,v\n" + "1,-999999.999\n".repeat(12), "bar x a y sum v", "1 38 -15000000000 0 5000000000 4 1");
        Check.figuresAre("a,v\n1,-1\n2,999999\n", "bar x a y sum v ticks 3", "2 34 -1000000000 1000000000 1000000000 3 1");
        String both = "a,v\n" + "1,999999.999\n".repeat(6) + "2,-999999.999\n".repeat(6);
        Check.figuresAre(both, "bar x a y sum v ticks 3", "2 38 -10000000000 10000000000 10000000000 3 1");
    }

    /** "at most as many as ticks says": just as many are enough, one more is not. */
    private static void atMostAsManyTicks() {
        for (int ticks = 3; ticks <= 9; ticks++) {
            String data = "a,v\n1," + (ticks - 1) + "\n";
            Check.figuresAre(data, "bar x a y sum v ticks " + ticks, "1 6 0 " + (ticks - 1) * 1000 + " 1000 " + ticks + " 1");
        }
        Check.figuresAre("a,v\n1,3\n", "bar x a y sum v ticks 3", "1 6 0 4000 2000 3 1");
        Check.figuresAre("a,v\n1,4\n", "bar x a y sum v ticks 4", "1 6 0 4000 2000 3 1");
        Check.figuresAre("a,v\n1,5\n", "bar x a y sum v ticks 5", "1 6 0 6000 2000 4 1");
        Check.figuresAre("a,v\n1,6\n", "bar x a y sum v ticks 6", "1 6 0 6000 2000 4 1");
        Check.figuresAre("a,v\n1,7\n", "bar x a y sum v ticks 7", "1 6 0 8000 2000 5 1");
        Check.figuresAre("a,v\n1,8\n", "bar x a y sum v ticks 8", "1 6 0 8000 2000 5 1");
        Check.figuresAre("a,v\n1,9\n", "bar x a y sum v ticks 9", "1 10 0 10000 2000 6 1");
        Check.figuresAre("a,v\n1,5\n", "bar x a y sum v ticks 3", "1 6 0 5000 5000 2 1");
    }

    /** "(5 if nothing does)" */
    private static void fiveTicksIfNothingSays() {
        for (int value = 1; value <= 12; value++) {
            String data = "a,v\n1," + value + "\n";
            Press unsaid = Check.drawnPress(96, 64, data, "bar x a y sum v");
            Press five = Check.drawnPress(96, 64, data, "bar x a y sum v ticks 5");
            Check.due("figures for " + value, Check.figures(unsaid), Check.figures(five));
        }
        bar("4", "1 6 0 4000 1000 5 1");
        bar("5", "1 6 0 6000 2000 4 1");
        // The number of a chart before does not stay.
        Press press = Check.drawnPress(96, 64, "a,v\n1,8\n", "bar x a y sum v ticks 9");
        Check.due("ticks", press.figure(5), 9);
        Check.refill(press, "a,v\n1,8\n", "bar x a y sum v");
        Check.due("draw", Check.draw(press), "1");
        Check.due("ticks that nothing says", press.figure(5), 5);
    }

    /** "from the greatest that is not above LOW to the least that is not below HIGH" */
    private static void multiplesAroundLowAndHigh() {
        line("10", "14", "2 10 10000 14000 1000 5 1");
        line("9.999", "14", "2 10 8000 14000 2000 4 1");
        line("10", "14.001", "2 10 10000 16000 2000 4 1");
        line("-14", "-10", "2 14 -14000 -10000 1000 5 1");
        line("-14.001", "-10", "2 14 -16000 -10000 2000 4 1");
        line("-14", "-9.999", "2 14 -14000 -8000 2000 4 1");
        line("-0.5", "7", "2 10 -5000 10000 5000 4 1");
        line("-7", "0.5", "2 14 -10000 5000 5000 4 1");
        line("-2", "2", "2 10 -2000 2000 1000 5 1");
    }

    private static void line(String low, String high, String want) {
        Check.figuresAre("a,v\n1," + low + "\n2," + high + "\n", "line x a y sum v", want);
    }

    /** LOW and HIGH are not cut to thousandths. */
    private static void exactEnds() {
        Check.figuresAre("a,v\n1,1\n1,0\n1,0\n2,1\n2,1\n2,0\n", "line x a y mean v", "2 14 300 700 100 5 1");
        Check.figuresAre("a,v\n1,1\n1,0\n1,0\n2,0.333\n", "point x a y mean v", "2 22 333 334 1 2 1");
        Check.figuresAre("a,v\n1,-1\n1,0\n1,0\n2,-0.333\n", "point x a y mean v", "2 26 -334 -333 1 2 1");
        // 4 and a third of a thousandth is more than 4.
        Check.figuresAre("a,v\n1,4\n1,4\n1,4.001\n", "bar x a y mean v", "1 6 0 6000 2000 4 1");
    }

    /** The labels of all ticks but the last, whose row is 1, so that it can't be shown. */
    private static void ticksAre(String data, String text, String... labels) {
        Press press = Check.drawnPress(96, 64, data, text);
        int left = (int) press.figure(1);
        Check.due("ticks of <" + data + ">", press.figure(5), labels.length);
        for (int i = 0; i < labels.length - 1; i++) {
            int row = 55 - (2 * 54 * i + labels.length - 1) / (2 * (labels.length - 1));
            Check.written("tick " + i, press, left - 2 - (4 * labels[i].length() - 1), row - 2, labels[i]);
            Check.due("the pixel before tick " + i, Check.downward(press, left - 2 - 4 * labels[i].length(), row - 2, row + 2), ".....");
        }
    }

    /** "its value in decimal digits without zeros behind that the point does not need" */
    private static void labelsOfTicks() {
        ticksAre("a\n1\n", "bar x a y count", "0", "0.5", "1");
        ticksAre("a\n1\n", "bar x a y count ticks 6", "0", "0.2", "0.4", "0.6", "0.8", "1");
        ticksAre("a,v\n1,1.1\n2,1.25\n", "line x a y sum v", "1.1", "1.15", "1.2", "1.25");
        ticksAre("a,v\n1,0.1\n2,0.115\n", "line x a y sum v", "0.1", "0.105", "0.11", "0.115");
        ticksAre("a,v\n1,0.009\n2,0.012\n", "line x a y sum v", "0.009", "0.01", "0.011", "0.012");
        ticksAre("a,v\n1,9.95\n2,10.1\n", "line x a y sum v", "9.95", "10", "10.05", "10.1");
        ticksAre("a,v\n1,0.05\n", "bar x a y sum v", "0", "0.02", "0.04", "0.06");
    }

    /** "- before it if it is below 0 (0.5, -20, 0)" */
    private static void labelsBelowZero() {
        ticksAre("a,v\n1,-40\n2,20\n", "bar x a y sum v ticks 4", "-40", "-20", "0", "20");
        ticksAre("a,v\n1,-1\n2,0.5\n", "line x a y sum v", "-1", "-0.5", "0", "0.5");
        ticksAre("a,v\n1,-0.002\n2,0.001\n", "line x a y sum v", "-0.002", "-0.001", "0", "0.001");
        ticksAre("a,v\n1,-1.25\n2,-1.1\n", "line x a y sum v", "-1.25", "-1.2", "-1.15", "-1.1");
    }

    /** Zeros before the point are all needed. */
    private static void labelsOfLargeTicks() {
        ticksAre("a,v\n1,100\n", "bar x a y sum v", "0", "50", "100");
        ticksAre("a,v\n1,999999.999\n", "bar x a y sum v ticks 3", "0", "500000", "1000000");
        ticksAre("a,v\n" + "1,999999.999\n".repeat(12), "bar x a y sum v", "0", "5000000", "10000000", "15000000");
        ticksAre("a,v\n1,-999999.999\n2,-999999.997\n", "line x a y sum v", "-999999.999", "-999999.998", "-999999.997");
        ticksAre("a,v\n1,1000\n2,1010\n", "line x a y sum v", "1000", "1005", "1010");
    }
}
