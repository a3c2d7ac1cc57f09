/** Promises 5 to 8: run, executed, printed and output. */
public final class RunTest {
    private static final int LOW = Integer.MIN_VALUE;
    private static final int HIGH = Integer.MAX_VALUE;

    public static void main(String[] args) {
        arithmetic();
        aMayBeReadByItsOwnInstruction();
        ifgoto();
        switchWays();
        switchPastTheEnd();
        gotoPastTheEnd();
        stopEnds();
        fuelIsClamped();
        fuelThatJustSuffices();
        emptyProgram();
        eachRunBeginsAnew();
        outputKeepsThirtyTwo();
        outputOfAShorterRun();
        Due.end();
    }

    private static void arithmetic() {
        int[] numbers = {LOW, LOW + 1, -65536, -2, -1, 0, 1, 2, 3, 46341, 65536, HIGH - 1, HIGH};
        for (int p : numbers) {
            for (int q : numbers) {
                String of = " of " + p + " and " + q;
                Due.is("ADD" + of, result(GotoColour.ADD, p, q), p + q);
                Due.is("SUB" + of, result(GotoColour.SUB, p, q), p - q);
                Due.is("MUL" + of, result(GotoColour.MUL, p, q), p * q);
                Due.is("LESS" + of, result(GotoColour.LESS, p, q), p < q ? 1 : 0);
                Due.is("MOVE" + of, result(GotoColour.MOVE, p, q), p);
            }
        }
    }

    private static int result(int op, int p, int q) {
        GotoColour x = new GotoColour();
        x.start(0, 12345);
        x.start(3, p);
        x.start(7, q);
        x.emit(op, 0, 3, 7);
        x.emit(GotoColour.PRINT, 0, 0, 0);
        x.emit(GotoColour.PRINT, 3, 0, 0);
        x.emit(GotoColour.PRINT, 7, 0, 0);
        Due.is("run of op " + op, x.run(250), GotoColour.ENDED);
        Due.is("variable b after op " + op, x.output(1), p);
        Due.is("variable c after op " + op, x.output(2), q);
        return x.output(0);
    }

    private static void aMayBeReadByItsOwnInstruction() {
        GotoColour x = new GotoColour();
        x.start(2, 5);
        x.emit(GotoColour.SUB, 2, 2, 2);
        x.emit(GotoColour.PRINT, 2, 0, 0);
        x.emit(GotoColour.SET, 2, -3, 0);
        x.emit(GotoColour.MUL, 2, 2, 2);
        x.emit(GotoColour.PRINT, 2, 0, 0);
        x.emit(GotoColour.MOVE, 2, 2, 0);
        x.emit(GotoColour.PRINT, 2, 0, 0);
        x.emit(GotoColour.LESS, 2, 2, 2);
        x.emit(GotoColour.PRINT, 2, 0, 0);
        x.run(250);
        Due.is("SUB 2 2 2", x.output(0), 0);
        Due.is("MUL 2 2 2", x.output(1), 9);
        Due.is("MOVE 2 2", x.output(2), 9);
        Due.is("LESS 2 2 2", x.output(3), 0);
    }

    private static void ifgoto() {
        int[] numbers = {LOW, -1, 0, 1, 2, HIGH};
        for (int n : numbers) {
            GotoColour x = new GotoColour();
            x.start(4, n);
            x.emit(GotoColour.IFGOTO, 4, 2, 0);
            x.emit(GotoColour.PRINT, 4, 0, 0);
            x.emit(GotoColour.STOP, 0, 0, 0);
            Due.is("run of IFGOTO on " + n, x.run(250), GotoColour.ENDED);
            Due.is("printed of IFGOTO on " + n, x.printed(), n == 0 ? 1 : 0);
            Due.is("executed of IFGOTO on " + n, x.executed(), n == 0 ? 3 : 2);
        }
    }

    private static void switchWays() {
        int[] numbers = {LOW, -2, -1, 0, 1, 2, 3, 4, 5, HIGH};
        for (int ways = 1; ways <= 4; ways++) {
            for (int n : numbers) {
                GotoColour x = new GotoColour();
                x.start(0, n);
                for (int v = 1; v < 8; v++) {
                    x.start(v, 10 * v);
                }
                x.emit(GotoColour.SWITCH, 0, 3, ways);
                x.emit(GotoColour.PRINT, 7, 0, 0);
                x.emit(GotoColour.STOP, 0, 0, 0);
                for (int v = 1; v <= 5; v++) {
                    x.emit(GotoColour.PRINT, v, 0, 0);
                }
                boolean taken = n >= 0 && n < ways;
                Due.is("SWITCH of " + ways + " on " + n + ": run", x.run(250), GotoColour.ENDED);
                Due.is("SWITCH of " + ways + " on " + n + ": output(0)", x.output(0), taken ? 10 * (n + 1) : 70);
                Due.is("SWITCH of " + ways + " on " + n + ": printed", x.printed(), taken ? 5 - n : 1);
                Due.is("SWITCH of " + ways + " on " + n + ": executed", x.executed(), taken ? 6 - n : 3);
            }
        }
    }

    private static void switchPastTheEnd() {
        for (int n = 0; n < 4; n++) {
            GotoColour x = new GotoColour();
            x.start(0, n);
            x.emit(GotoColour.SWITCH, 0, 31, 4);
            x.emit(GotoColour.GOTO, 1, 0, 0);
            Due.is("SWITCH to " + (31 + n) + " of 2", x.run(250), GotoColour.ENDED);
            Due.is("executed of SWITCH to " + (31 + n) + " of 2", x.executed(), 1);
            for (int i = 2; i < 31; i++) {
                x.emit(GotoColour.GOTO, 1, 0, 0);
            }
            x.emit(GotoColour.PRINT, 0, 0, 0);
            Due.is("SWITCH to " + (31 + n) + " of 32", x.run(1), n == 0 ? GotoColour.OUT_OF_FUEL : GotoColour.ENDED);
            Due.is("SWITCH to " + (31 + n) + " of 32", x.run(250), GotoColour.ENDED);
            Due.is("printed of SWITCH to " + (31 + n) + " of 32", x.printed(), n == 0 ? 1 : 0);
        }
    }

    private static void gotoPastTheEnd() {
        GotoColour x = new GotoColour();
        x.emit(GotoColour.GOTO, 1, 0, 0);
        Due.is("GOTO to just past the end, run(1)", x.run(1), GotoColour.ENDED);
        Due.is("GOTO to just past the end, executed", x.executed(), 1);
        x.emit(GotoColour.GOTO, 1, 0, 0);
        Due.is("GOTO to what is there now, run(1)", x.run(1), GotoColour.OUT_OF_FUEL);
        Due.is("GOTO to itself, run(250)", x.run(250), GotoColour.OUT_OF_FUEL);
        x.retract();
        x.emit(GotoColour.IFGOTO, 0, 31, 0);
        x.start(0, 1);
        Due.is("IFGOTO past the end", x.run(2), GotoColour.ENDED);
        Due.is("IFGOTO past the end, executed", x.executed(), 2);
    }

    private static void stopEnds() {
        GotoColour x = new GotoColour();
        x.emit(GotoColour.STOP, 0, 0, 0);
        x.emit(GotoColour.PRINT, 0, 0, 0);
        Due.is("STOP, run(0)", x.run(0), GotoColour.OUT_OF_FUEL);
        Due.is("STOP, executed of run(0)", x.executed(), 0);
        Due.is("STOP, run(1)", x.run(1), GotoColour.ENDED);
        Due.is("STOP, executed", x.executed(), 1);
        Due.is("STOP, printed", x.printed(), 0);
        while (x.emit(GotoColour.PRINT, 0, 0, 0) > 0) {
            continue;
        }
        Due.is("STOP in a full program", x.run(250), GotoColour.ENDED);
        Due.is("STOP in a full program, executed", x.executed(), 1);
    }

    private static void fuelIsClamped() {
        GotoColour x = new GotoColour();
        x.emit(GotoColour.PRINT, 0, 0, 0);
        x.emit(GotoColour.GOTO, 0, 0, 0);
        int[][] fuels = {{LOW, 0}, {-1, 0}, {0, 0}, {1, 1}, {249, 249}, {250, 250}, {251, 250}, {1000, 250}, {HIGH, 250}};
        for (int[] fuel : fuels) {
            Due.is("run(" + fuel[0] + ")", x.run(fuel[0]), GotoColour.OUT_OF_FUEL);
            Due.is("executed of run(" + fuel[0] + ")", x.executed(), fuel[1]);
            Due.is("printed of run(" + fuel[0] + ")", x.printed(), (fuel[1] + 1) / 2);
        }
    }

    private static void fuelThatJustSuffices() {
        GotoColour x = new GotoColour();
        // 124 turns of two instructions, with one before and one after them: 250 in all.
        x.start(0, 124);
        x.emit(GotoColour.SET, 1, 1, 0);
        x.emit(GotoColour.SUB, 0, 0, 1);
        x.emit(GotoColour.IFGOTO, 0, 1, 0);
        x.emit(GotoColour.PRINT, 0, 0, 0);
        Due.is("250 instructions on 249", x.run(249), GotoColour.OUT_OF_FUEL);
        Due.is("printed on 249", x.printed(), 0);
        Due.is("250 instructions on 250", x.run(250), GotoColour.ENDED);
        Due.is("executed on 250", x.executed(), 250);
        Due.is("printed on 250", x.printed(), 1);
        x.emit(GotoColour.STOP, 0, 0, 0);
        Due.is("251 instructions on 250", x.run(250), GotoColour.OUT_OF_FUEL);
        Due.is("251 instructions on 251, which is 250", x.run(251), GotoColour.OUT_OF_FUEL);
        Due.is("executed on 251", x.executed(), 250);
    }

    private static void emptyProgram() {
        GotoColour x = new GotoColour();
        int[] fuels = {LOW, -1, 0, 1, 250, HIGH};
        for (int fuel : fuels) {
            Due.is("empty: run(" + fuel + ")", x.run(fuel), GotoColour.ENDED);
            Due.is("empty: executed()", x.executed(), 0);
            Due.is("empty: printed()", x.printed(), 0);
        }
    }

    private static void eachRunBeginsAnew() {
        GotoColour x = new GotoColour();
        x.start(0, 1);
        for (int v = 0; v < 8; v++) {
            x.emit(GotoColour.PRINT, v, 0, 0);
        }
        for (int v = 0; v < 8; v++) {
            x.emit(GotoColour.SET, v, 90 + v, 0);
        }
        for (int round = 0; round < 3; round++) {
            Due.is("round " + round + ": run", x.run(250), GotoColour.ENDED);
            Due.is("round " + round + ": executed", x.executed(), 16);
            Due.is("round " + round + ": printed", x.printed(), 8);
            for (int v = 0; v < 8; v++) {
                Due.is("round " + round + ": output(" + v + ")", x.output(v), v == 0 ? 1 : 0);
            }
        }
    }

    private static void outputKeepsThirtyTwo() {
        GotoColour x = new GotoColour();
        x.start(1, 1);
        x.emit(GotoColour.ADD, 0, 0, 1);
        x.emit(GotoColour.PRINT, 0, 0, 0);
        x.emit(GotoColour.GOTO, 0, 0, 0);
        for (int values = 31; values <= 34; values++) {
            x.run(3 * values);
            Due.is("printed of " + values, x.printed(), values);
            for (int k = -2; k <= 36; k++) {
                boolean there = k >= 0 && k < values && k < 32;
                Due.is("output(" + k + ") of " + values, x.output(k), there ? k + 1 : 0);
            }
        }
        x.run(250);
        Due.is("printed of run(250)", x.printed(), 83);
        Due.is("output(0) of 83", x.output(0), 1);
        Due.is("output(31) of 83", x.output(31), 32);
        int[] wrong = {LOW, -1, 32, 33, 82, 83, HIGH};
        for (int k : wrong) {
            Due.is("output(" + k + ") of 83", x.output(k), 0);
        }
    }

    private static void outputOfAShorterRun() {
        GotoColour x = new GotoColour();
        x.start(0, 6);
        x.emit(GotoColour.PRINT, 0, 0, 0);
        x.emit(GotoColour.GOTO, 0, 0, 0);
        x.run(250);
        Due.is("output(5) of the longer run", x.output(5), 6);
        x.run(4);
        Due.is("printed of the shorter run", x.printed(), 2);
        Due.is("output(1) of the shorter run", x.output(1), 6);
        Due.is("output(2) of the shorter run", x.output(2), 0);
        x.run(0);
        Due.is("printed of run(0)", x.printed(), 0);
        Due.is("output(0) of run(0)", x.output(0), 0);
    }
}
