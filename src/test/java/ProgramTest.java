/** Promises 1 to 4: a new object, emit, retract and start. */
public final class ProgramTest {
    private static final int LOW = Integer.MIN_VALUE;
    private static final int HIGH = Integer.MAX_VALUE;

    public static void main(String[] args) {
        newObject();
        emitAnswersTheNewLength();
        emitRefusesOps();
        emitRefusesVariables();
        emitRefusesTargets();
        emitRefusesWays();
        emitLooksAwayFromNumbersNotHad();
        emitRefusedChangesNothing();
        fullComesFirst();
        retractTakesTheLast();
        retractOfNothing();
        retractLeavesTheLatestRun();
        startSetsAndRefuses();
        startIsForLaterRuns();
        objectsAreApart();
        Due.end();
    }

    private static void newObject() {
        GotoColour x = new GotoColour();
        Due.is("new: executed()", x.executed(), 0);
        Due.is("new: printed()", x.printed(), 0);
        for (int k = -1; k <= 33; k++) {
            Due.is("new: output(" + k + ")", x.output(k), 0);
            Due.is("new: live(" + k + ")", x.live(k), 0);
        }
        for (int u = -1; u <= 8; u++) {
            Due.is("new: meet(" + u + ", " + u + ")", x.meet(u, u), false);
        }
        Due.is("new: run(250)", x.run(250), GotoColour.ENDED);
        for (int v = 0; v < 8; v++) {
            Due.is("new: emit(PRINT)", x.emit(GotoColour.PRINT, v, 0, 0), v + 1);
        }
        x.run(250);
        Due.is("new: printed() of all variables", x.printed(), 8);
        for (int v = 0; v < 8; v++) {
            Due.is("new: start value " + v, x.output(v), 0);
        }
    }

    private static void emitAnswersTheNewLength() {
        GotoColour x = new GotoColour();
        for (int op = 0; op <= 10; op++) {
            Due.is("emit(" + op + ", 0, 0, 1)", x.emit(op, 0, 0, 1), op + 1);
        }
        for (int length = 12; length <= 32; length++) {
            Due.is("emit(STOP) as number " + length, x.emit(GotoColour.STOP, 0, 0, 0), length);
        }
    }

    private static void emitRefusesOps() {
        int[] ops = {LOW, -3, -2, -1, 11, 12, 32, 256, HIGH};
        for (int op : ops) {
            Due.is("emit(" + op + ", 0, 0, 1)", new GotoColour().emit(op, 0, 0, 1), GotoColour.BAD);
        }
    }

    private static void emitRefusesVariables() {
        int[] wrong = {LOW, -1, 8, 9, 31, 32, HIGH};
        for (int op = 0; op <= 10; op++) {
            boolean hasA = op <= GotoColour.PRINT || op == GotoColour.IFGOTO || op == GotoColour.SWITCH;
            boolean hasB = op >= GotoColour.MOVE && op <= GotoColour.LESS;
            boolean hasC = op >= GotoColour.ADD && op <= GotoColour.LESS;
            for (int v : wrong) {
                if (hasA) {
                    Due.is("emit(" + op + ", " + v + ", 0, 1)", new GotoColour().emit(op, v, 0, 1), GotoColour.BAD);
                }
                if (hasB) {
                    Due.is("emit(" + op + ", 0, " + v + ", 1)", new GotoColour().emit(op, 0, v, 1), GotoColour.BAD);
                }
                if (hasC) {
                    Due.is("emit(" + op + ", 0, 0, " + v + ")", new GotoColour().emit(op, 0, 0, v), GotoColour.BAD);
                }
            }
            for (int v = 0; v < 8; v++) {
                Due.is("emit(" + op + ", " + v + ", 0, 1)", new GotoColour().emit(op, v, 0, 1), 1);
                Due.is("emit(" + op + ", 0, " + v + ", 1)", new GotoColour().emit(op, 0, v, 1), 1);
                if (hasC) {
                    Due.is("emit(" + op + ", 0, 0, " + v + ")", new GotoColour().emit(op, 0, 0, v), 1);
                }
            }
        }
    }

    private static void emitRefusesTargets() {
        int[] wrong = {LOW, -1, 32, 33, HIGH};
        for (int t : wrong) {
            Due.is("emit(GOTO, " + t + ")", new GotoColour().emit(GotoColour.GOTO, t, 0, 0), GotoColour.BAD);
            Due.is("emit(IFGOTO, 0, " + t + ")", new GotoColour().emit(GotoColour.IFGOTO, 0, t, 0), GotoColour.BAD);
            Due.is("emit(SWITCH, 0, " + t + ", 1)", new GotoColour().emit(GotoColour.SWITCH, 0, t, 1), GotoColour.BAD);
        }
        for (int t = 0; t < 32; t++) {
            Due.is("emit(GOTO, " + t + ")", new GotoColour().emit(GotoColour.GOTO, t, 0, 0), 1);
            Due.is("emit(IFGOTO, 7, " + t + ")", new GotoColour().emit(GotoColour.IFGOTO, 7, t, 0), 1);
            Due.is("emit(SWITCH, 7, " + t + ", 4)", new GotoColour().emit(GotoColour.SWITCH, 7, t, 4), 1);
        }
    }

    private static void emitRefusesWays() {
        int[] wrong = {LOW, -1, 0, 5, 8, HIGH};
        for (int n : wrong) {
            Due.is("emit(SWITCH, 0, 0, " + n + ")", new GotoColour().emit(GotoColour.SWITCH, 0, 0, n), GotoColour.BAD);
        }
        for (int n = 1; n <= 4; n++) {
            Due.is("emit(SWITCH, 0, 0, " + n + ")", new GotoColour().emit(GotoColour.SWITCH, 0, 0, n), 1);
        }
    }

    private static void emitLooksAwayFromNumbersNotHad() {
        int[] any = {LOW, -1, 8, 32, HIGH};
        for (int n : any) {
            GotoColour x = new GotoColour();
            Due.is("emit(SET, 7, " + n + ")", x.emit(GotoColour.SET, 7, n, n), 1);
            Due.is("emit(MOVE, 6, 7, " + n + ")", x.emit(GotoColour.MOVE, 6, 7, n), 2);
            Due.is("emit(PRINT, 6, " + n + ")", x.emit(GotoColour.PRINT, 6, n, n), 3);
            Due.is("emit(GOTO, 4, " + n + ")", x.emit(GotoColour.GOTO, 4, n, n), 4);
            Due.is("emit(IFGOTO, 0, 5, " + n + ")", x.emit(GotoColour.IFGOTO, 0, 5, n), 5);
            Due.is("emit(STOP, " + n + ")", x.emit(GotoColour.STOP, n, n, n), 6);
            Due.is("run with numbers not had", x.run(250), GotoColour.ENDED);
            Due.is("executed with numbers not had", x.executed(), 6);
            Due.is("output with numbers not had", x.output(0), n);
            Due.is("live(0) with numbers not had", x.live(0), 1);
            Due.is("live(1) with numbers not had", x.live(1), 1 | 128);
            Due.is("live(2) with numbers not had", x.live(2), 1 | 64);
            Due.is("live(5) with numbers not had", x.live(5), 0);
        }
    }

    private static void emitRefusedChangesNothing() {
        GotoColour x = new GotoColour();
        x.emit(GotoColour.SET, 0, 9, 0);
        Due.is("emit(SET, 8)", x.emit(GotoColour.SET, 8, 1, 0), GotoColour.BAD);
        Due.is("emit(11)", x.emit(11, 0, 0, 0), GotoColour.BAD);
        Due.is("run after refusals", x.run(250), GotoColour.ENDED);
        Due.is("executed after refusals", x.executed(), 1);
        Due.is("emit after refusals", x.emit(GotoColour.PRINT, 0, 0, 0), 2);
        x.run(250);
        Due.is("output after refusals", x.output(0), 9);
    }

    private static void fullComesFirst() {
        GotoColour x = new GotoColour();
        for (int i = 0; i < 32; i++) {
            x.emit(GotoColour.SET, 0, i, 0);
        }
        Due.is("a right emit into a full program", x.emit(GotoColour.STOP, 0, 0, 0), GotoColour.FULL);
        Due.is("a wrong op into a full program", x.emit(11, 0, 0, 0), GotoColour.FULL);
        Due.is("a wrong variable into a full program", x.emit(GotoColour.PRINT, 8, 0, 0), GotoColour.FULL);
        Due.is("run of a full program", x.run(250), GotoColour.ENDED);
        Due.is("executed of a full program", x.executed(), 32);
        Due.is("retract from a full program", x.retract(), 31);
        Due.is("a wrong op into 31", x.emit(11, 0, 0, 0), GotoColour.BAD);
        Due.is("a right emit into 31", x.emit(GotoColour.PRINT, 0, 0, 0), 32);
        x.run(250);
        Due.is("output of the last of 32", x.output(0), 30);
        Due.is("emit into 32 again", x.emit(GotoColour.STOP, 0, 0, 0), GotoColour.FULL);
    }

    private static void retractTakesTheLast() {
        GotoColour x = new GotoColour();
        x.emit(GotoColour.SET, 0, 1, 0);
        x.emit(GotoColour.SET, 0, 2, 0);
        x.emit(GotoColour.STOP, 0, 0, 0);
        Due.is("retract of 3", x.retract(), 2);
        Due.is("retract of 2", x.retract(), 1);
        Due.is("emit after retract", x.emit(GotoColour.PRINT, 0, 0, 0), 2);
        x.run(250);
        Due.is("executed after retract", x.executed(), 2);
        Due.is("output after retract", x.output(0), 1);
        Due.is("live(1) after retract", x.live(1), 1);
        x.retract();
        Due.is("live(1) of the one taken away", x.live(1), 0);
        Due.is("meet of the one taken away", x.meet(0, 0), false);
    }

    private static void retractOfNothing() {
        GotoColour x = new GotoColour();
        Due.is("retract of none", x.retract(), GotoColour.BAD);
        Due.is("retract of none again", x.retract(), GotoColour.BAD);
        Due.is("emit after retract of none", x.emit(GotoColour.STOP, 0, 0, 0), 1);
        Due.is("retract of 1", x.retract(), 0);
        Due.is("retract of none at last", x.retract(), GotoColour.BAD);
    }

    private static void retractLeavesTheLatestRun() {
        GotoColour x = new GotoColour();
        x.start(3, 7);
        x.emit(GotoColour.PRINT, 3, 0, 0);
        x.run(250);
        x.retract();
        x.start(3, 8);
        x.emit(GotoColour.STOP, 0, 0, 0);
        Due.is("executed of the latest run", x.executed(), 1);
        Due.is("printed of the latest run", x.printed(), 1);
        Due.is("output of the latest run", x.output(0), 7);
    }

    private static void startSetsAndRefuses() {
        int[] wrong = {LOW, -1, 8, 9, 32, HIGH};
        GotoColour x = new GotoColour();
        for (int v = 0; v < 8; v++) {
            Due.is("start(" + v + ")", x.start(v, v == 5 ? LOW : 100 + v), true);
            x.emit(GotoColour.PRINT, v, 0, 0);
        }
        for (int v : wrong) {
            Due.is("start(" + v + ")", x.start(v, 77), false);
        }
        x.run(250);
        for (int v = 0; v < 8; v++) {
            Due.is("start value " + v, x.output(v), v == 5 ? LOW : 100 + v);
        }
        Due.is("start(4) once more", x.start(4, HIGH), true);
        x.run(250);
        Due.is("start value 4 once more", x.output(4), HIGH);
        Due.is("start value 3 as before", x.output(3), 103);
    }

    private static void startIsForLaterRuns() {
        GotoColour x = new GotoColour();
        x.emit(GotoColour.PRINT, 1, 0, 0);
        x.emit(GotoColour.SET, 1, 50, 0);
        x.start(1, 3);
        x.run(250);
        x.start(1, 4);
        Due.is("output before the next run", x.output(0), 3);
        x.run(250);
        Due.is("output of the next run", x.output(0), 4);
        x.run(250);
        Due.is("a run leaves the start values", x.output(0), 4);
    }

    private static void objectsAreApart() {
        GotoColour x = new GotoColour();
        GotoColour y = new GotoColour();
        x.start(0, 5);
        x.emit(GotoColour.PRINT, 0, 0, 0);
        x.run(250);
        Due.is("another object's retract", y.retract(), GotoColour.BAD);
        Due.is("another object's printed", y.printed(), 0);
        Due.is("another object's live", y.live(0), 0);
        y.emit(GotoColour.PRINT, 0, 0, 0);
        y.run(250);
        Due.is("another object's output", y.output(0), 0);
        Due.is("this object's output", x.output(0), 5);
    }
}
