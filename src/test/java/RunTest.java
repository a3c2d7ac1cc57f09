/** Promises 5 to 8: run, executed, printed and output. */
public final class RunTest {
    private static final int LOW = Integer.MIN_VALUE;
    private static final int HIGH = Integer.MAX_VALUE;

    public static void main(String[] args) {
        Due.tests(
                RunTest::runBeginsWithStartValues,
                RunTest::runBeginsWithEmptyOutput,
                RunTest::runBeginsAtNought,
                RunTest::fuelTooSmall,
                RunTest::fuelInside,
                RunTest::fuelTooLarge,
                RunTest::fuelThatDoesNotSuffice,
                RunTest::fuelThatJustSuffices,
                RunTest::fuelThatJustLeadsPastTheEnd,
                RunTest::emptyProgramEnds,
                RunTest::stopCounts,
                RunTest::executedOfTheLatestRun,
                RunTest::executedBeforeAny,
                RunTest::printedOfTheLatestRun,
                RunTest::printedBeforeAny,
                RunTest::printedGoesOnPastThirtyTwo,
                RunTest::outputFromNought,
                RunTest::outputKeepsThirtyTwo,
                RunTest::outputBelowNought,
                RunTest::outputFromPrintedOn,
                RunTest::outputOfThirtyTwoOrMore,
                RunTest::askingChangesNothing);
    }

    private static void runBeginsWithStartValues() {
        Due.sentence("Promise 5: every variable has its start value");
        GotoColour x = new GotoColour();
        for (int v = 0; v < 8; v++) {
            x.start(v, v == 0 ? 0 : 20 + v);
            x.emit(GotoColour.PRINT, v, 0, 0);
        }
        for (int v = 0; v < 8; v++) {
            x.emit(GotoColour.SET, v, 90 + v, 0);
        }
        // A run that was broken off in the middle leaves no more behind than one that has ended.
        int[] fuels = {250, 12, 250, 9, 16};
        for (int fuel : fuels) {
            x.run(fuel);
            for (int v = 0; v < 8; v++) {
                Due.is("output(" + v + ") of run(" + fuel + ")", x.output(v), v == 0 ? 0 : 20 + v);
            }
        }
    }

    private static void runBeginsWithEmptyOutput() {
        Due.sentence("Promise 5: the output is empty");
        GotoColour x = new GotoColour();
        x.start(0, 5);
        x.emit(GotoColour.PRINT, 0, 0, 0);
        for (int round = 0; round < 3; round++) {
            x.run(250);
            Due.is("printed() in round " + round, x.printed(), 1);
        }
        x.run(0);
        Due.is("printed() of run(0)", x.printed(), 0);
        Due.is("output(0) of run(0)", x.output(0), 0);
    }

    private static void runBeginsAtNought() {
        Due.sentence("Promise 5: instruction 0 is next");
        GotoColour x = new GotoColour();
        for (int v = 0; v < 8; v++) {
            x.start(v, 30 + v);
            x.emit(GotoColour.PRINT, v, 0, 0);
        }
        for (int fuel = 1; fuel <= 9; fuel++) {
            x.run(fuel);
            Due.is("output(0) of run(" + fuel + ")", x.output(0), 30);
        }
    }

    private static GotoColour endless() {
        GotoColour x = new GotoColour();
        x.emit(GotoColour.PRINT, 0, 0, 0);
        x.emit(GotoColour.GOTO, 0, 0, 0);
        return x;
    }

    private static void fuelTooSmall() {
        Due.sentence("Promise 5: fuel is clamped into 0..250, from below");
        GotoColour x = endless();
        int[] fuels = {0, -1, -2, -250, -251, LOW + 1, LOW};
        for (int fuel : fuels) {
            x.run(250);
            Due.is("run(" + fuel + ")", x.run(fuel), GotoColour.OUT_OF_FUEL);
            Due.is("executed() of run(" + fuel + ")", x.executed(), 0);
            Due.is("printed() of run(" + fuel + ")", x.printed(), 0);
        }
    }

    private static void fuelInside() {
        Due.sentence("Promise 5: fuel is clamped into 0..250, inside");
        GotoColour x = endless();
        int[] fuels = {1, 2, 3, 31, 32, 33, 127, 128, 248, 249, 250};
        for (int fuel : fuels) {
            Due.is("run(" + fuel + ")", x.run(fuel), GotoColour.OUT_OF_FUEL);
            Due.is("executed() of run(" + fuel + ")", x.executed(), fuel);
            Due.is("printed() of run(" + fuel + ")", x.printed(), (fuel + 1) / 2);
        }
    }

    private static void fuelTooLarge() {
        Due.sentence("Promise 5: fuel is clamped into 0..250, from above");
        GotoColour x = endless();
        int[] fuels = {251, 252, 256, 500, 1000, 65536, HIGH - 1, HIGH};
        for (int fuel : fuels) {
            x.run(0);
            Due.is("run(" + fuel + ")", x.run(fuel), GotoColour.OUT_OF_FUEL);
            Due.is("executed() of run(" + fuel + ")", x.executed(), 250);
            Due.is("printed() of run(" + fuel + ")", x.printed(), 125);
        }
    }

    /** 124 turns of two instructions, with one before and one after them: 250 in all. */
    private static GotoColour twoHundredAndFifty() {
        GotoColour x = new GotoColour();
        x.start(0, 124);
        x.emit(GotoColour.SET, 1, 1, 0);
        x.emit(GotoColour.SUB, 0, 0, 1);
        x.emit(GotoColour.IFGOTO, 0, 1, 0);
        x.emit(GotoColour.PRINT, 0, 0, 0);
        return x;
    }

    private static void fuelThatDoesNotSuffice() {
        Due.sentence("Promise 5: it is broken off, and OUT_OF_FUEL is answered");
        GotoColour x = twoHundredAndFifty();
        Due.is("run(249) of 250", x.run(249), GotoColour.OUT_OF_FUEL);
        Due.is("executed() of run(249)", x.executed(), 249);
        Due.is("printed() of run(249)", x.printed(), 0);
        x.emit(GotoColour.STOP, 0, 0, 0);
        int[] fuels = {250, 251, 252, HIGH};
        for (int fuel : fuels) {
            Due.is("run(" + fuel + ") of 251", x.run(fuel), GotoColour.OUT_OF_FUEL);
            Due.is("executed() of run(" + fuel + ")", x.executed(), 250);
            Due.is("printed() of run(" + fuel + ")", x.printed(), 1);
        }
    }

    private static void fuelThatJustSuffices() {
        Due.sentence("Promise 5: else ENDED");
        GotoColour x = twoHundredAndFifty();
        Due.is("run(250) of 250", x.run(250), GotoColour.ENDED);
        Due.is("executed() of run(250)", x.executed(), 250);
        Due.is("printed() of run(250)", x.printed(), 1);
        Due.is("run(251) of 250", x.run(251), GotoColour.ENDED);
        x.start(0, 3);
        Due.is("run(7) of 8", x.run(7), GotoColour.OUT_OF_FUEL);
        Due.is("run(8) of 8", x.run(8), GotoColour.ENDED);
        Due.is("run(9) of 8", x.run(9), GotoColour.ENDED);
        Due.is("executed() of run(9)", x.executed(), 8);
    }

    private static void fuelThatJustLeadsPastTheEnd() {
        Due.sentence("Promise 5: the run has not ended, where the last drop of fuel led past the program");
        GotoColour x = new GotoColour();
        x.emit(GotoColour.PRINT, 0, 0, 0);
        Due.is("PRINT: run(0)", x.run(0), GotoColour.OUT_OF_FUEL);
        Due.is("PRINT: run(1)", x.run(1), GotoColour.ENDED);
        GotoColour y = new GotoColour();
        y.start(0, 3);
        y.emit(GotoColour.SWITCH, 0, 31, 4);
        Due.is("SWITCH: run(0)", y.run(0), GotoColour.OUT_OF_FUEL);
        Due.is("SWITCH: run(1)", y.run(1), GotoColour.ENDED);
        GotoColour z = new GotoColour();
        z.emit(GotoColour.GOTO, 1, 0, 0);
        Due.is("GOTO 1: run(1)", z.run(1), GotoColour.ENDED);
        z.emit(GotoColour.STOP, 0, 0, 0);
        Due.is("GOTO 1, STOP: run(1)", z.run(1), GotoColour.OUT_OF_FUEL);
    }

    private static void emptyProgramEnds() {
        Due.sentence("Promise 5: else ENDED, of an empty program");
        GotoColour x = new GotoColour();
        int[] fuels = {LOW, -1, 0, 1, 250, 251, HIGH};
        for (int fuel : fuels) {
            Due.is("run(" + fuel + ")", x.run(fuel), GotoColour.ENDED);
            Due.is("executed() of run(" + fuel + ")", x.executed(), 0);
            Due.is("printed() of run(" + fuel + ")", x.printed(), 0);
        }
    }

    private static void stopCounts() {
        Due.sentence("Promise 5: (STOP counts as an executed instruction)");
        GotoColour x = new GotoColour();
        x.emit(GotoColour.STOP, 0, 0, 0);
        x.emit(GotoColour.PRINT, 0, 0, 0);
        Due.is("STOP: run(0)", x.run(0), GotoColour.OUT_OF_FUEL);
        Due.is("STOP: executed() of run(0)", x.executed(), 0);
        Due.is("STOP: run(1)", x.run(1), GotoColour.ENDED);
        Due.is("STOP: executed() of run(1)", x.executed(), 1);
        GotoColour y = new GotoColour();
        y.emit(GotoColour.SET, 0, 1, 0);
        y.emit(GotoColour.STOP, 0, 0, 0);
        Due.is("SET, STOP: run(1)", y.run(1), GotoColour.OUT_OF_FUEL);
        Due.is("SET, STOP: run(2)", y.run(2), GotoColour.ENDED);
        Due.is("SET, STOP: executed() of run(2)", y.executed(), 2);
        Due.is("SET, STOP: run(250)", y.run(250), GotoColour.ENDED);
        Due.is("SET, STOP: executed() of run(250)", y.executed(), 2);
    }

    private static void executedOfTheLatestRun() {
        Due.sentence("Promise 6: The number of instructions that the latest run executed");
        GotoColour x = endless();
        int[] fuels = {10, 250, 0, 3};
        for (int fuel : fuels) {
            x.run(fuel);
            Due.is("executed() of run(" + fuel + ")", x.executed(), fuel);
            Due.is("executed() of run(" + fuel + ") again", x.executed(), fuel);
        }
        x.emit(GotoColour.STOP, 0, 0, 0);
        x.start(0, 1);
        Due.is("executed() after emit and start", x.executed(), 3);
        x.retract();
        x.retract();
        x.retract();
        x.retract();
        Due.is("executed() after each retract", x.executed(), 3);
    }

    private static void executedBeforeAny() {
        Due.sentence("Promise 6: 0 before any");
        GotoColour x = new GotoColour();
        Due.is("executed() of a new object", x.executed(), 0);
        x.start(0, 9);
        x.emit(GotoColour.PRINT, 0, 0, 0);
        x.emit(GotoColour.STOP, 0, 0, 0);
        x.live(0);
        x.meet(0, 0);
        Due.is("executed() of a program not run", x.executed(), 0);
        x.retract();
        Due.is("executed() after retract", x.executed(), 0);
    }

    private static void printedOfTheLatestRun() {
        Due.sentence("Promise 7: The number of values in the output of the latest run");
        GotoColour x = endless();
        int[][] runs = {{250, 125}, {0, 0}, {1, 1}, {64, 32}, {2, 1}, {3, 2}};
        for (int[] run : runs) {
            x.run(run[0]);
            Due.is("printed() of run(" + run[0] + ")", x.printed(), run[1]);
            Due.is("printed() of run(" + run[0] + ") again", x.printed(), run[1]);
        }
        x.emit(GotoColour.STOP, 0, 0, 0);
        x.retract();
        x.retract();
        x.retract();
        Due.is("printed() with the program taken away", x.printed(), 2);
        x.run(250);
        Due.is("printed() of a run without PRINT", x.printed(), 0);
    }

    private static void printedBeforeAny() {
        Due.sentence("Promise 7: The number of values in the output, before any run");
        GotoColour x = new GotoColour();
        Due.is("printed() of a new object", x.printed(), 0);
        x.emit(GotoColour.PRINT, 0, 0, 0);
        Due.is("printed() of a program not run", x.printed(), 0);
    }

    private static void printedGoesOnPastThirtyTwo() {
        Due.sentence("Promise 7: The number of values in the output, of which not all are kept");
        GotoColour x = endless();
        for (int values = 31; values <= 34; values++) {
            x.run(2 * values);
            Due.is("printed() of " + values, x.printed(), values);
        }
        // The most that a run can print: seven turns of 31 and 26 more.
        GotoColour y = new GotoColour();
        for (int i = 0; i < 31; i++) {
            y.emit(GotoColour.PRINT, 0, 0, 0);
        }
        y.emit(GotoColour.GOTO, 0, 0, 0);
        y.run(250);
        Due.is("printed() of the most", y.printed(), 243);
    }

    /** Prints 1, 2, 3 and so on, one for every three instructions. */
    private static GotoColour counting() {
        GotoColour x = new GotoColour();
        x.start(1, 1);
        x.emit(GotoColour.ADD, 0, 0, 1);
        x.emit(GotoColour.PRINT, 0, 0, 0);
        x.emit(GotoColour.GOTO, 0, 0, 0);
        return x;
    }

    private static void outputFromNought() {
        Due.sentence("Promise 8: Value k of that output, from 0");
        GotoColour x = counting();
        x.run(9);
        Due.is("output(0)", x.output(0), 1);
        Due.is("output(1)", x.output(1), 2);
        Due.is("output(2)", x.output(2), 3);
        x.emit(GotoColour.STOP, 0, 0, 0);
        x.start(0, 50);
        x.retract();
        Due.is("output(2) of the latest run", x.output(2), 3);
    }

    private static void outputKeepsThirtyTwo() {
        Due.sentence("Promise 8: only the first 32 values are kept");
        GotoColour x = counting();
        for (int values = 31; values <= 34; values++) {
            x.run(3 * values);
            for (int k = 0; k < 31; k++) {
                Due.is("output(" + k + ") of " + values, x.output(k), k + 1);
            }
            Due.is("output(31) of " + values, x.output(31), values >= 32 ? 32 : 0);
        }
        x.run(250);
        Due.is("printed()", x.printed(), 83);
        for (int k = 0; k < 32; k++) {
            Due.is("output(" + k + ") of 83", x.output(k), k + 1);
        }
    }

    private static void outputBelowNought() {
        Due.sentence("Promise 8: 0 for k outside 0 .. printed() - 1, below");
        GotoColour x = counting();
        int[] below = {-1, -2, -31, -32, -83, LOW + 1, LOW};
        int[] fuels = {9, 250};
        for (int fuel : fuels) {
            x.run(fuel);
            for (int k : below) {
                Due.is("output(" + k + ") of run(" + fuel + ")", x.output(k), 0);
            }
        }
    }

    private static void outputFromPrintedOn() {
        Due.sentence("Promise 8: 0 for k outside 0 .. printed() - 1, above");
        GotoColour x = counting();
        for (int values = 0; values <= 3; values++) {
            // What a longer run has left behind must not be answered.
            x.run(250);
            x.run(3 * values);
            for (int k = values; k < 34; k++) {
                Due.is("output(" + k + ") of " + values, x.output(k), 0);
            }
            Due.is("output(82) of " + values, x.output(82), 0);
            Due.is("output(" + HIGH + ") of " + values, x.output(HIGH), 0);
        }
    }

    private static void outputOfThirtyTwoOrMore() {
        Due.sentence("Promise 8: 0 for k of 32 or more");
        GotoColour x = counting();
        x.run(250);
        Due.is("printed()", x.printed(), 83);
        int[] above = {32, 33, 34, 63, 64, 81, 82, 83, 84, 256, 65536, HIGH - 1, HIGH};
        for (int k : above) {
            Due.is("output(" + k + ") of 83", x.output(k), 0);
        }
    }

    private static void askingChangesNothing() {
        Due.sentence("Promises 6 to 8: asking");
        GotoColour x = counting();
        x.run(250);
        int[] asked = {LOW, -1, 0, 31, 32, 83, HIGH};
        for (int k : asked) {
            x.output(k);
            x.live(k);
            x.meet(k, k);
            Due.is("executed() after output, live and meet of " + k, x.executed(), 250);
            Due.is("printed() after output, live and meet of " + k, x.printed(), 83);
            Due.is("output(31) after output, live and meet of " + k, x.output(31), 32);
        }
        Due.is("emit after asking", x.emit(GotoColour.STOP, 0, 0, 0), 4);
    }
}
