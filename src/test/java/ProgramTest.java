/** Promises 1 to 4: a new object, emit, retract and start. */
public final class ProgramTest {
    private static final int LOW = Integer.MIN_VALUE;
    private static final int HIGH = Integer.MAX_VALUE;

    /** One emit for each reason to answer BAD, and some for more than one at once. */
    private static final int[][] BAD_EMITS = {
        {-1, 0, 0, 1}, {11, 0, 0, 1}, {LOW, 0, 0, 1}, {HIGH, 0, 0, 1}, {11, 8, 32, 5},
        {GotoColour.SET, 8, 0, 0}, {GotoColour.SET, -1, 0, 0}, {GotoColour.PRINT, 8, 0, 0},
        {GotoColour.IFGOTO, 8, 0, 0}, {GotoColour.SWITCH, -1, 0, 1},
        {GotoColour.MOVE, 0, 8, 0}, {GotoColour.LESS, 0, -1, 0}, {GotoColour.ADD, 8, 8, 8},
        {GotoColour.ADD, 0, 0, 8}, {GotoColour.LESS, 0, 0, -1},
        {GotoColour.GOTO, 32, 0, 0}, {GotoColour.GOTO, -1, 0, 0},
        {GotoColour.IFGOTO, 0, 32, 0}, {GotoColour.SWITCH, 0, -1, 1},
        {GotoColour.SWITCH, 0, 0, 0}, {GotoColour.SWITCH, 0, 0, 5}, {GotoColour.SWITCH, 8, 32, 5}};

    public static void main(String[] args) {
        Due.tests(
                ProgramTest::newHasNoInstructions,
                ProgramTest::newHasStartValuesNought,
                ProgramTest::newHasEmptyOutput,
                ProgramTest::objectsAreApart,
                ProgramTest::emitAddsAtTheEnd,
                ProgramTest::emitAnswersTheNewNumber,
                ProgramTest::emitIntoThirtyTwo,
                ProgramTest::emitIntoThirtyOne,
                ProgramTest::emitOfAnOpOutside,
                ProgramTest::emitOfAOutside,
                ProgramTest::emitOfBOutside,
                ProgramTest::emitOfCOutside,
                ProgramTest::emitOfAGotosTargetOutside,
                ProgramTest::emitOfOtherTargetsOutside,
                ProgramTest::emitOfWaysOutside,
                ProgramTest::emitOfNumbersNotHad,
                ProgramTest::emitOfSetsNumber,
                ProgramTest::emitRefusedChangesNothing,
                ProgramTest::retractTakesTheLast,
                ProgramTest::retractAnswersTheNewNumber,
                ProgramTest::retractOfNone,
                ProgramTest::retractLeavesTheRest,
                ProgramTest::startSets,
                ProgramTest::startOutside,
                ProgramTest::startIsForLaterRuns);
    }

    private static String told(int[] e) {
        return "emit(" + e[0] + ", " + e[1] + ", " + e[2] + ", " + e[3] + ")";
    }

    private static int emitToNew(int op, int a, int b, int c) {
        return new GotoColour().emit(op, a, b, c);
    }

    private static void newHasNoInstructions() {
        Due.sentence("Promise 1: No instructions");
        Due.is("retract()", new GotoColour().retract(), GotoColour.BAD);
        GotoColour x = new GotoColour();
        Due.is("run(250)", x.run(250), GotoColour.ENDED);
        Due.is("executed()", x.executed(), 0);
        for (int i = -1; i <= 32; i++) {
            Due.is("live(" + i + ")", x.live(i), 0);
        }
        for (int u = -1; u <= 8; u++) {
            Due.is("meet(" + u + ", " + u + ")", x.meet(u, u), false);
        }
        Due.is("emit", x.emit(GotoColour.STOP, 0, 0, 0), 1);
    }

    private static void newHasStartValuesNought() {
        Due.sentence("Promise 1: all start values 0");
        GotoColour x = new GotoColour();
        for (int v = 0; v < 8; v++) {
            x.emit(GotoColour.PRINT, v, 0, 0);
        }
        x.run(250);
        Due.is("printed()", x.printed(), 8);
        for (int v = 0; v < 8; v++) {
            Due.is("start value " + v, x.output(v), 0);
        }
    }

    private static void newHasEmptyOutput() {
        Due.sentence("Promise 1: empty output");
        GotoColour x = new GotoColour();
        Due.is("printed()", x.printed(), 0);
        for (int k = -1; k <= 33; k++) {
            Due.is("output(" + k + ")", x.output(k), 0);
        }
    }

    private static void objectsAreApart() {
        Due.sentence("Promise 1: A new object, beside another one");
        GotoColour x = new GotoColour();
        GotoColour y = new GotoColour();
        x.start(0, 5);
        x.emit(GotoColour.PRINT, 0, 0, 0);
        x.run(250);
        Due.is("the other's retract()", y.retract(), GotoColour.BAD);
        Due.is("the other's printed()", y.printed(), 0);
        Due.is("the other's live(0)", y.live(0), 0);
        y.emit(GotoColour.PRINT, 0, 0, 0);
        y.run(250);
        Due.is("the other's output(0)", y.output(0), 0);
        Due.is("the one's output(0)", x.output(0), 5);
    }

    private static void emitAddsAtTheEnd() {
        Due.sentence("Promise 2: Adds an instruction at the end");
        GotoColour x = new GotoColour();
        for (int i = 0; i < 16; i++) {
            x.emit(GotoColour.SET, 3, 40 + i, 0);
            x.emit(GotoColour.PRINT, 3, 0, 0);
        }
        x.run(250);
        Due.is("printed()", x.printed(), 16);
        for (int i = 0; i < 16; i++) {
            Due.is("output(" + i + ")", x.output(i), 40 + i);
        }
    }

    private static void emitAnswersTheNewNumber() {
        Due.sentence("Promise 2: Else answers the new number of instructions");
        GotoColour x = new GotoColour();
        for (int op = 0; op <= 10; op++) {
            Due.is("emit(" + op + ", 0, 0, 1)", x.emit(op, 0, 0, 1), op + 1);
        }
        for (int number = 12; number <= 32; number++) {
            Due.is("emit as number " + number, x.emit(GotoColour.STOP, 0, 0, 0), number);
        }
    }

    private static GotoColour programOf(int length) {
        GotoColour x = new GotoColour();
        for (int i = 0; i < length; i++) {
            x.emit(GotoColour.SET, 0, i, 0);
        }
        return x;
    }

    private static void emitIntoThirtyTwo() {
        Due.sentence("Promise 2: 32 instructions are there: FULL");
        GotoColour x = programOf(32);
        for (int op = 0; op <= 10; op++) {
            Due.is("emit(" + op + ", 0, 0, 1) into 32", x.emit(op, 0, 0, 1), GotoColour.FULL);
        }
        for (int[] e : BAD_EMITS) {
            Due.is(told(e) + " into 32", x.emit(e[0], e[1], e[2], e[3]), GotoColour.FULL);
        }
        Due.is("run of 32", x.run(250), GotoColour.ENDED);
        Due.is("executed of 32", x.executed(), 32);
        Due.is("retract from 32", x.retract(), 31);
        Due.is("emit into 31", x.emit(GotoColour.PRINT, 0, 0, 0), 32);
        x.run(250);
        Due.is("output of the last of 32", x.output(0), 30);
        Due.is("emit into 32 again", x.emit(GotoColour.STOP, 0, 0, 0), GotoColour.FULL);
    }

    private static void emitIntoThirtyOne() {
        Due.sentence("Promise 2: Tested in this order, with 31 instructions there");
        GotoColour x = programOf(31);
        for (int[] e : BAD_EMITS) {
            Due.is(told(e) + " into 31", x.emit(e[0], e[1], e[2], e[3]), GotoColour.BAD);
        }
        Due.is("emit into 31", x.emit(GotoColour.STOP, 0, 0, 0), 32);
        Due.is("emit into 32", x.emit(GotoColour.STOP, 0, 0, 0), GotoColour.FULL);
    }

    private static void emitOfAnOpOutside() {
        Due.sentence("Promise 2: op outside 0..10: BAD");
        int[] outside = {LOW, -256, -10, -3, -2, -1, 11, 12, 15, 16, 31, 32, 256, 65536, HIGH};
        for (int op : outside) {
            Due.is("emit(" + op + ", 0, 0, 1)", emitToNew(op, 0, 0, 1), GotoColour.BAD);
        }
        for (int op = 0; op <= 10; op++) {
            Due.is("emit(" + op + ", 0, 0, 1)", emitToNew(op, 0, 0, 1), 1);
        }
    }

    private static void emitOfAOutside() {
        Due.sentence("Promise 2: SET to PRINT, IFGOTO, SWITCH: a outside 0..7: BAD");
        int[] outside = {LOW, -8, -1, 8, 9, 16, 31, 32, 256, HIGH};
        int[] ops = {0, 1, 2, 3, 4, 5, 6, 8, 9};
        for (int op : ops) {
            for (int a : outside) {
                Due.is("emit(" + op + ", " + a + ", 0, 1)", emitToNew(op, a, 0, 1), GotoColour.BAD);
            }
            for (int a = 0; a <= 7; a++) {
                Due.is("emit(" + op + ", " + a + ", 0, 1)", emitToNew(op, a, 0, 1), 1);
            }
        }
    }

    private static void emitOfBOutside() {
        Due.sentence("Promise 2: MOVE to LESS: b outside 0..7: BAD");
        int[] outside = {LOW, -8, -1, 8, 9, 16, 31, 32, 256, HIGH};
        for (int op = GotoColour.MOVE; op <= GotoColour.LESS; op++) {
            for (int b : outside) {
                Due.is("emit(" + op + ", 0, " + b + ", 1)", emitToNew(op, 0, b, 1), GotoColour.BAD);
            }
            for (int b = 0; b <= 7; b++) {
                Due.is("emit(" + op + ", 0, " + b + ", 1)", emitToNew(op, 0, b, 1), 1);
            }
        }
    }

    private static void emitOfCOutside() {
        Due.sentence("Promise 2: ADD to LESS: c outside 0..7: BAD");
        int[] outside = {LOW, -8, -1, 8, 9, 16, 31, 32, 256, HIGH};
        for (int op = GotoColour.ADD; op <= GotoColour.LESS; op++) {
            for (int c : outside) {
                Due.is("emit(" + op + ", 0, 0, " + c + ")", emitToNew(op, 0, 0, c), GotoColour.BAD);
            }
            for (int c = 0; c <= 7; c++) {
                Due.is("emit(" + op + ", 0, 0, " + c + ")", emitToNew(op, 0, 0, c), 1);
            }
        }
    }

    private static void emitOfAGotosTargetOutside() {
        Due.sentence("Promise 2: GOTO: t, which is a, outside 0..31: BAD");
        int[] outside = {LOW, -32, -1, 32, 33, 34, 64, 256, HIGH};
        for (int t : outside) {
            Due.is("emit(GOTO, " + t + ", 0, 0)", emitToNew(GotoColour.GOTO, t, 0, 0), GotoColour.BAD);
        }
        for (int t = 0; t <= 31; t++) {
            Due.is("emit(GOTO, " + t + ", 0, 0)", emitToNew(GotoColour.GOTO, t, 0, 0), 1);
        }
    }

    private static void emitOfOtherTargetsOutside() {
        Due.sentence("Promise 2: IFGOTO, SWITCH: t, which is b, outside 0..31: BAD");
        int[] outside = {LOW, -32, -1, 32, 33, 34, 64, 256, HIGH};
        for (int t : outside) {
            Due.is("emit(IFGOTO, 7, " + t + ", 0)", emitToNew(GotoColour.IFGOTO, 7, t, 0), GotoColour.BAD);
            Due.is("emit(SWITCH, 7, " + t + ", 1)", emitToNew(GotoColour.SWITCH, 7, t, 1), GotoColour.BAD);
        }
        for (int t = 0; t <= 31; t++) {
            Due.is("emit(IFGOTO, 7, " + t + ", 0)", emitToNew(GotoColour.IFGOTO, 7, t, 0), 1);
            // t alone is looked at: that t + n - 1 is past 31 is no reason to refuse.
            Due.is("emit(SWITCH, 7, " + t + ", 4)", emitToNew(GotoColour.SWITCH, 7, t, 4), 1);
        }
    }

    private static void emitOfWaysOutside() {
        Due.sentence("Promise 2: SWITCH: n, which is c, outside 1..4: BAD");
        int[] outside = {LOW, -4, -1, 0, 5, 6, 7, 8, 31, 256, HIGH};
        for (int n : outside) {
            Due.is("emit(SWITCH, 0, 0, " + n + ")", emitToNew(GotoColour.SWITCH, 0, 0, n), GotoColour.BAD);
        }
        for (int n = 1; n <= 4; n++) {
            Due.is("emit(SWITCH, 0, 0, " + n + ")", emitToNew(GotoColour.SWITCH, 0, 0, n), 1);
        }
    }

    private static void emitOfNumbersNotHad() {
        Due.sentence("Promise 2: Numbers that an instruction does not have play no part");
        int[] any = {LOW, -1, 0, 1, 3, 5, 7, 8, 31, 32, HIGH};
        for (int n : any) {
            String with = " with " + n;
            GotoColour x = new GotoColour();
            Due.is("emit of SET" + with, x.emit(GotoColour.SET, 7, 90, n), 1);
            Due.is("emit of MOVE" + with, x.emit(GotoColour.MOVE, 6, 7, n), 2);
            Due.is("emit of PRINT" + with, x.emit(GotoColour.PRINT, 6, n, n), 3);
            Due.is("emit of GOTO" + with, x.emit(GotoColour.GOTO, 4, n, n), 4);
            Due.is("emit of IFGOTO" + with, x.emit(GotoColour.IFGOTO, 0, 5, n), 5);
            Due.is("emit of STOP" + with, x.emit(GotoColour.STOP, n, n, n), 6);
            Due.is("run" + with, x.run(250), GotoColour.ENDED);
            Due.is("executed" + with, x.executed(), 6);
            Due.is("printed" + with, x.printed(), 1);
            Due.is("output(0)" + with, x.output(0), 90);
            int[] due = {1, 1 | 128, 1 | 64, 1, 1, 0};
            for (int i = 0; i < due.length; i++) {
                Due.is("live(" + i + ")" + with, x.live(i), due[i]);
            }
        }
    }

    private static void emitOfSetsNumber() {
        Due.sentence("Promise 2: (in SET, n is b)");
        int[] any = {LOW, -1, 0, 7, 8, 31, 32, HIGH};
        for (int n : any) {
            GotoColour x = new GotoColour();
            Due.is("emit(SET, 2, " + n + ", 55)", x.emit(GotoColour.SET, 2, n, 55), 1);
            x.emit(GotoColour.PRINT, 2, 0, 0);
            x.run(250);
            Due.is("output of SET 2 " + n, x.output(0), n);
        }
    }

    private static void emitRefusedChangesNothing() {
        Due.sentence("Promise 2: a refused emit");
        for (int[] e : BAD_EMITS) {
            GotoColour x = new GotoColour();
            x.start(1, 6);
            x.emit(GotoColour.PRINT, 1, 0, 0);
            x.run(250);
            Due.is(told(e), x.emit(e[0], e[1], e[2], e[3]), GotoColour.BAD);
            Due.is("executed() after " + told(e), x.executed(), 1);
            Due.is("output(0) after " + told(e), x.output(0), 6);
            Due.is("live(0) after " + told(e), x.live(0), 2);
            Due.is("run after " + told(e), x.run(1), GotoColour.ENDED);
            Due.is("output(0) of the run after " + told(e), x.output(0), 6);
            Due.is("emit after " + told(e), x.emit(GotoColour.STOP, 0, 0, 0), 2);
        }
    }

    private static void retractTakesTheLast() {
        Due.sentence("Promise 3: Takes the last instruction away");
        GotoColour x = new GotoColour();
        x.emit(GotoColour.SET, 0, 1, 0);
        x.emit(GotoColour.SET, 0, 2, 0);
        x.emit(GotoColour.STOP, 0, 0, 0);
        x.retract();
        x.retract();
        Due.is("run of what is left", x.run(1), GotoColour.ENDED);
        x.emit(GotoColour.PRINT, 0, 0, 0);
        x.run(250);
        Due.is("executed()", x.executed(), 2);
        Due.is("output(0)", x.output(0), 1);
        Due.is("live(1)", x.live(1), 1);
        x.retract();
        Due.is("live(1) of the one taken away", x.live(1), 0);
        Due.is("meet(0, 0) of the one taken away", x.meet(0, 0), false);
    }

    private static void retractAnswersTheNewNumber() {
        Due.sentence("Promise 3: answers the new number of instructions");
        GotoColour x = programOf(32);
        for (int number = 31; number >= 0; number--) {
            Due.is("retract from " + (number + 1), x.retract(), number);
        }
    }

    private static void retractOfNone() {
        Due.sentence("Promise 3: BAD if there was none");
        GotoColour x = new GotoColour();
        for (int round = 0; round < 3; round++) {
            Due.is("retract of none", x.retract(), GotoColour.BAD);
            Due.is("retract of none again", x.retract(), GotoColour.BAD);
            Due.is("run of none", x.run(250), GotoColour.ENDED);
            Due.is("executed of none", x.executed(), 0);
            Due.is("emit into none", x.emit(GotoColour.STOP, 0, 0, 0), 1);
            Due.is("retract of the only one", x.retract(), 0);
        }
    }

    private static void retractLeavesTheRest() {
        Due.sentence("Promise 3: Takes the last instruction away, and nothing else");
        GotoColour x = new GotoColour();
        x.start(3, 7);
        x.emit(GotoColour.PRINT, 3, 0, 0);
        x.run(250);
        x.retract();
        x.retract();
        Due.is("executed() of the latest run", x.executed(), 1);
        Due.is("printed() of the latest run", x.printed(), 1);
        Due.is("output(0) of the latest run", x.output(0), 7);
        x.emit(GotoColour.PRINT, 3, 0, 0);
        x.run(250);
        Due.is("start value 3", x.output(0), 7);
    }

    private static GotoColour printsAll() {
        GotoColour x = new GotoColour();
        for (int v = 0; v < 8; v++) {
            x.emit(GotoColour.PRINT, v, 0, 0);
        }
        return x;
    }

    private static void startSets() {
        Due.sentence("Promise 4: Sets the start value of a variable. Else true");
        GotoColour x = printsAll();
        int[] values = {LOW, -1, 0, 1, 8, 32, HIGH - 1, HIGH};
        for (int v = 0; v < 8; v++) {
            Due.is("start(" + v + ", " + values[v] + ")", x.start(v, values[v]), true);
        }
        x.run(250);
        for (int v = 0; v < 8; v++) {
            Due.is("start value " + v, x.output(v), values[v]);
        }
        Due.is("start(4, 9) once more", x.start(4, 9), true);
        x.run(250);
        for (int v = 0; v < 8; v++) {
            Due.is("start value " + v + " once more", x.output(v), v == 4 ? 9 : values[v]);
        }
    }

    private static void startOutside() {
        Due.sentence("Promise 4: v outside 0..7: refused, answers false");
        int[] outside = {LOW, -32, -8, -1, 8, 9, 15, 16, 31, 32, 256, HIGH};
        for (int w : outside) {
            GotoColour x = printsAll();
            for (int v = 0; v < 8; v++) {
                x.start(v, 100 + v);
            }
            x.run(250);
            Due.is("start(" + w + ", 77)", x.start(w, 77), false);
            Due.is("printed() after start(" + w + ")", x.printed(), 8);
            Due.is("output(0) after start(" + w + ")", x.output(0), 100);
            x.run(250);
            for (int v = 0; v < 8; v++) {
                Due.is("start value " + v + " after start(" + w + ")", x.output(v), 100 + v);
            }
        }
    }

    private static void startIsForLaterRuns() {
        Due.sentence("Promise 4: Sets the start value, not the latest run's values");
        GotoColour x = new GotoColour();
        x.emit(GotoColour.PRINT, 1, 0, 0);
        x.emit(GotoColour.SET, 1, 50, 0);
        x.start(1, 3);
        x.run(250);
        x.start(1, 4);
        Due.is("executed() before the next run", x.executed(), 2);
        Due.is("output(0) before the next run", x.output(0), 3);
        x.run(250);
        Due.is("output(0) of the next run", x.output(0), 4);
        x.run(250);
        Due.is("output(0) of the run after that", x.output(0), 4);
    }
}
