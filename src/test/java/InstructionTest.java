/** Terms: what each instruction does, and which one is next. */
public final class InstructionTest {
    private static final int LOW = Integer.MIN_VALUE;
    private static final int HIGH = Integer.MAX_VALUE;

    public static void main(String[] args) {
        Due.tests(
                InstructionTest::eightVariables,
                InstructionTest::arithmeticWraps,
                InstructionTest::arithmeticOnManyNumbers,
                InstructionTest::lessIsSigned,
                InstructionTest::setTakesAnyNumber,
                InstructionTest::moveCopies,
                InstructionTest::aMayBeReadByItsOwnInstruction,
                InstructionTest::printAddsToTheEnd,
                InstructionTest::numberedFromNought,
                InstructionTest::gotoIsNext,
                InstructionTest::ifgotoOnNotNought,
                InstructionTest::switchOnItsWays,
                InstructionTest::switchOutsideItsWays,
                InstructionTest::stopEnds,
                InstructionTest::nextNumberIsNext,
                InstructionTest::noInstructionAfterTheLast,
                InstructionTest::noInstructionAtATarget,
                InstructionTest::noInstructionAtAWay);
    }

    private static void eightVariables() {
        Due.sentence("Terms: There are 8 variables, 0 to 7");
        GotoColour x = new GotoColour();
        for (int v = 0; v < 8; v++) {
            x.emit(GotoColour.SET, v, 100 + v, 0);
        }
        for (int v = 0; v < 8; v++) {
            x.emit(GotoColour.PRINT, v, 0, 0);
        }
        x.run(250);
        for (int v = 0; v < 8; v++) {
            Due.is("variable " + v, x.output(v), 100 + v);
        }
    }

    private static int result(int op, int p, int q) {
        GotoColour x = new GotoColour();
        x.start(0, 12345);
        x.start(3, p);
        x.start(7, q);
        x.emit(op, 0, 3, 7);
        x.emit(GotoColour.PRINT, 0, 0, 0);
        x.emit(GotoColour.PRINT, 3, 0, 0);
        x.emit(GotoColour.PRINT, 7, 0, 0);
        Due.is("run of op " + op, x.run(250), GotoColour.ENDED);
        Due.is("variable b after op " + op, x.output(1), p);
        Due.is("variable c after op " + op, x.output(2), q);
        return x.output(0);
    }

    private static void arithmeticWraps() {
        Due.sentence("Terms: arithmetic wraps as in Java");
        Due.is("2147483647 + 1", result(GotoColour.ADD, 2147483647, 1), -2147483648);
        Due.is("2147483647 + 2147483647", result(GotoColour.ADD, 2147483647, 2147483647), -2);
        Due.is("-2147483648 + -1", result(GotoColour.ADD, -2147483648, -1), 2147483647);
        Due.is("-2147483648 + -2147483648", result(GotoColour.ADD, -2147483648, -2147483648), 0);
        Due.is("-2147483648 - 1", result(GotoColour.SUB, -2147483648, 1), 2147483647);
        Due.is("2147483647 - -1", result(GotoColour.SUB, 2147483647, -1), -2147483648);
        Due.is("0 - -2147483648", result(GotoColour.SUB, 0, -2147483648), -2147483648);
        Due.is("65536 * 65536", result(GotoColour.MUL, 65536, 65536), 0);
        Due.is("46341 * 46341", result(GotoColour.MUL, 46341, 46341), -2147479015);
        Due.is("-2147483648 * -1", result(GotoColour.MUL, -2147483648, -1), -2147483648);
        Due.is("2147483647 * 2147483647", result(GotoColour.MUL, 2147483647, 2147483647), 1);
    }

    private static void arithmeticOnManyNumbers() {
        Due.sentence("Terms: variable a becomes variable b + variable c, SUB: b - c, MUL: b * c");
        int[] numbers = {LOW, LOW + 1, -65536, -2, -1, 0, 1, 2, 3, 46341, 65536, HIGH - 1, HIGH};
        for (int p : numbers) {
            for (int q : numbers) {
                String of = " of " + p + " and " + q;
                Due.is("ADD" + of, result(GotoColour.ADD, p, q), p + q);
                Due.is("SUB" + of, result(GotoColour.SUB, p, q), p - q);
                Due.is("MUL" + of, result(GotoColour.MUL, p, q), p * q);
            }
        }
    }

    private static void lessIsSigned() {
        Due.sentence("Terms: 1 if variable b < variable c (signed), else 0");
        // In the order of the numbers, so that the places tell which one is less.
        int[] rising = {LOW, LOW + 1, -65536, -1, 0, 1, 65536, HIGH - 1, HIGH};
        for (int p = 0; p < rising.length; p++) {
            for (int q = 0; q < rising.length; q++) {
                Due.is("LESS of " + rising[p] + " and " + rising[q],
                        result(GotoColour.LESS, rising[p], rising[q]), p < q ? 1 : 0);
            }
        }
    }

    private static void setTakesAnyNumber() {
        Due.sentence("Terms: variable a becomes the number n");
        int[] numbers = {LOW, -1, 0, 1, 7, 8, 31, 32, HIGH};
        for (int n : numbers) {
            GotoColour x = new GotoColour();
            x.start(7, 5);
            x.emit(GotoColour.SET, 7, n, 0);
            x.emit(GotoColour.PRINT, 7, 0, 0);
            x.run(250);
            Due.is("SET 7 " + n, x.output(0), n);
        }
    }

    private static void moveCopies() {
        Due.sentence("Terms: variable a becomes variable b");
        int[] numbers = {LOW, -1, 0, 1, HIGH};
        for (int n : numbers) {
            Due.is("MOVE of " + n, result(GotoColour.MOVE, n, 77), n);
        }
    }

    private static void aMayBeReadByItsOwnInstruction() {
        Due.sentence("Terms: variable a becomes variable b + variable c, with a, b and c one variable");
        GotoColour x = new GotoColour();
        x.start(2, 5);
        x.emit(GotoColour.SUB, 2, 2, 2);
        x.emit(GotoColour.PRINT, 2, 0, 0);
        x.emit(GotoColour.SET, 2, -3, 0);
        x.emit(GotoColour.MUL, 2, 2, 2);
        x.emit(GotoColour.PRINT, 2, 0, 0);
        x.emit(GotoColour.MOVE, 2, 2, 0);
        x.emit(GotoColour.ADD, 2, 2, 2);
        x.emit(GotoColour.PRINT, 2, 0, 0);
        x.emit(GotoColour.LESS, 2, 2, 2);
        x.emit(GotoColour.PRINT, 2, 0, 0);
        x.run(250);
        Due.is("SUB 2 2 2", x.output(0), 0);
        Due.is("MUL 2 2 2", x.output(1), 9);
        Due.is("MOVE 2 2, ADD 2 2 2", x.output(2), 18);
        Due.is("LESS 2 2 2", x.output(3), 0);
    }

    private static void printAddsToTheEnd() {
        Due.sentence("Terms: adds the value of variable a to the end of the output");
        GotoColour x = new GotoColour();
        x.start(5, -4);
        x.emit(GotoColour.PRINT, 5, 0, 0);
        x.emit(GotoColour.SET, 5, 6, 0);
        x.emit(GotoColour.PRINT, 5, 0, 0);
        x.emit(GotoColour.PRINT, 0, 0, 0);
        x.run(250);
        Due.is("printed()", x.printed(), 3);
        Due.is("output(0)", x.output(0), -4);
        Due.is("output(1)", x.output(1), 6);
        Due.is("output(2)", x.output(2), 0);
    }

    private static void numberedFromNought() {
        Due.sentence("Terms: a list of up to 32 instructions, numbered from 0");
        // 0 goes to the last one, which goes to 1: all of the numbering's edges are walked over.
        GotoColour x = new GotoColour();
        x.emit(GotoColour.GOTO, 31, 0, 0);
        x.emit(GotoColour.PRINT, 6, 0, 0);
        for (int i = 2; i < 31; i++) {
            x.emit(GotoColour.STOP, 0, 0, 0);
        }
        Due.is("emit of the last", x.emit(GotoColour.GOTO, 1, 0, 0), 32);
        Due.is("run(250)", x.run(250), GotoColour.ENDED);
        Due.is("executed()", x.executed(), 4);
        Due.is("printed()", x.printed(), 1);
    }

    private static void gotoIsNext() {
        Due.sentence("Terms: GOTO t: instruction t is next");
        GotoColour x = new GotoColour();
        x.emit(GotoColour.GOTO, 3, 0, 0);
        x.emit(GotoColour.PRINT, 1, 0, 0);
        x.emit(GotoColour.STOP, 0, 0, 0);
        x.emit(GotoColour.GOTO, 1, 0, 0);
        Due.is("run forth and back", x.run(250), GotoColour.ENDED);
        Due.is("executed forth and back", x.executed(), 4);
        GotoColour y = new GotoColour();
        y.emit(GotoColour.GOTO, 0, 0, 0);
        Due.is("run of GOTO to itself", y.run(250), GotoColour.OUT_OF_FUEL);
        Due.is("executed of GOTO to itself", y.executed(), 250);
    }

    private static void ifgotoOnNotNought() {
        Due.sentence("Terms: if variable a is not 0, instruction t is next");
        int[] numbers = {LOW, -1, 0, 1, 2, 65536, HIGH};
        for (int n : numbers) {
            GotoColour x = new GotoColour();
            x.start(4, n);
            x.emit(GotoColour.IFGOTO, 4, 2, 0);
            x.emit(GotoColour.PRINT, 4, 0, 0);
            x.emit(GotoColour.STOP, 0, 0, 0);
            Due.is("run of IFGOTO on " + n, x.run(250), GotoColour.ENDED);
            Due.is("printed of IFGOTO on " + n, x.printed(), n == 0 ? 1 : 0);
            Due.is("executed of IFGOTO on " + n, x.executed(), n == 0 ? 3 : 2);
        }
    }

    /** Way w prints 10 * (w + 1) and what comes behind it; the next number prints 70 alone. */
    private static GotoColour switchOf(int ways, int on) {
        GotoColour x = new GotoColour();
        x.start(0, on);
        for (int v = 1; v < 8; v++) {
            x.start(v, 10 * v);
        }
        x.emit(GotoColour.SWITCH, 0, 3, ways);
        x.emit(GotoColour.PRINT, 7, 0, 0);
        x.emit(GotoColour.STOP, 0, 0, 0);
        for (int v = 1; v <= 5; v++) {
            x.emit(GotoColour.PRINT, v, 0, 0);
        }
        return x;
    }

    private static void switchOnItsWays() {
        Due.sentence("Terms: if variable a is from 0 to n - 1, instruction t + variable a is next");
        for (int ways = 1; ways <= 4; ways++) {
            for (int on = 0; on < ways; on++) {
                String of = "SWITCH of " + ways + " on " + on;
                GotoColour x = switchOf(ways, on);
                Due.is(of + ": run", x.run(250), GotoColour.ENDED);
                Due.is(of + ": output(0)", x.output(0), 10 * (on + 1));
                Due.is(of + ": printed", x.printed(), 5 - on);
                Due.is(of + ": executed", x.executed(), 6 - on);
            }
        }
    }

    private static void switchOutsideItsWays() {
        Due.sentence("Terms: SWITCH where variable a is not from 0 to n - 1");
        for (int ways = 1; ways <= 4; ways++) {
            int[] outside = {LOW, LOW + 1, -4, -3, -2, -1, ways, ways + 1, 31, 32, HIGH - 2, HIGH};
            for (int on : outside) {
                String of = "SWITCH of " + ways + " on " + on;
                GotoColour x = switchOf(ways, on);
                Due.is(of + ": run", x.run(250), GotoColour.ENDED);
                Due.is(of + ": output(0)", x.output(0), 70);
                Due.is(of + ": printed", x.printed(), 1);
                Due.is(of + ": executed", x.executed(), 3);
            }
        }
    }

    private static void stopEnds() {
        Due.sentence("Terms: STOP ends the run");
        GotoColour x = new GotoColour();
        x.emit(GotoColour.STOP, 0, 0, 0);
        for (int i = 1; i < 32; i++) {
            x.emit(GotoColour.PRINT, 0, 0, 0);
            Due.is("run with " + i + " behind STOP", x.run(250), GotoColour.ENDED);
            Due.is("executed with " + i + " behind STOP", x.executed(), 1);
            Due.is("printed with " + i + " behind STOP", x.printed(), 0);
        }
    }

    private static void nextNumberIsNext() {
        Due.sentence("Terms: Where nothing else is said the instruction with the next number is next");
        int[] ops = {GotoColour.SET, GotoColour.MOVE, GotoColour.ADD, GotoColour.SUB, GotoColour.MUL,
            GotoColour.LESS, GotoColour.PRINT, GotoColour.IFGOTO, GotoColour.SWITCH};
        for (int op : ops) {
            // Variable 2 is one at which neither IFGOTO nor SWITCH jumps.
            GotoColour x = new GotoColour();
            x.start(2, op == GotoColour.IFGOTO ? 0 : 4);
            x.emit(op, 2, 3, 4);
            x.emit(GotoColour.SET, 6, 9, 0);
            x.emit(GotoColour.STOP, 0, 0, 0);
            x.emit(GotoColour.GOTO, 3, 0, 0);
            Due.is("run of op " + op, x.run(250), GotoColour.ENDED);
            Due.is("executed of op " + op, x.executed(), 3);
        }
    }

    private static void noInstructionAfterTheLast() {
        Due.sentence("Terms: When there is no instruction with the number that is next, after the last one");
        GotoColour x = new GotoColour();
        Due.is("run of 0 instructions", x.run(250), GotoColour.ENDED);
        Due.is("executed of 0 instructions", x.executed(), 0);
        for (int length = 1; length <= 32; length++) {
            x.emit(GotoColour.PRINT, 0, 0, 0);
            Due.is("run of " + length, x.run(250), GotoColour.ENDED);
            Due.is("executed of " + length, x.executed(), length);
        }
    }

    private static void noInstructionAtATarget() {
        Due.sentence("Terms: When there is no instruction with the number that is next, at a target");
        for (int t = 2; t < 32; t++) {
            GotoColour x = new GotoColour();
            x.start(0, 1);
            x.emit(GotoColour.GOTO, t, 0, 0);
            x.emit(GotoColour.GOTO, 1, 0, 0);
            Due.is("run of GOTO " + t, x.run(250), GotoColour.ENDED);
            Due.is("executed of GOTO " + t, x.executed(), 1);
            GotoColour y = new GotoColour();
            y.start(0, 1);
            y.emit(GotoColour.IFGOTO, 0, t, 0);
            y.emit(GotoColour.GOTO, 1, 0, 0);
            Due.is("run of IFGOTO " + t, y.run(250), GotoColour.ENDED);
            Due.is("executed of IFGOTO " + t, y.executed(), 1);
        }
        // The one that was not there comes to be there, and goes again.
        GotoColour x = new GotoColour();
        x.emit(GotoColour.GOTO, 1, 0, 0);
        Due.is("run before 1 is there", x.run(250), GotoColour.ENDED);
        x.emit(GotoColour.GOTO, 1, 0, 0);
        Due.is("run while 1 is there", x.run(250), GotoColour.OUT_OF_FUEL);
        x.retract();
        Due.is("run when 1 is taken away", x.run(250), GotoColour.ENDED);
    }

    private static void noInstructionAtAWay() {
        Due.sentence("Terms: When there is no instruction with the number that is next, at a SWITCH's way");
        for (int on = 0; on < 4; on++) {
            GotoColour x = new GotoColour();
            x.start(0, on);
            x.emit(GotoColour.SWITCH, 0, 31, 4);
            x.emit(GotoColour.GOTO, 1, 0, 0);
            Due.is("run of SWITCH to " + (31 + on) + " of 2", x.run(250), GotoColour.ENDED);
            Due.is("executed of SWITCH to " + (31 + on) + " of 2", x.executed(), 1);
            for (int i = 2; i < 31; i++) {
                x.emit(GotoColour.GOTO, 1, 0, 0);
            }
            x.emit(GotoColour.PRINT, 0, 0, 0);
            // Of 31, 32, 33 and 34, a full program has 31 alone: none of the others is 0, 1 or 2 again.
            Due.is("run of SWITCH to " + (31 + on) + " of 32", x.run(250), GotoColour.ENDED);
            Due.is("executed of SWITCH to " + (31 + on) + " of 32", x.executed(), on == 0 ? 2 : 1);
            Due.is("printed of SWITCH to " + (31 + on) + " of 32", x.printed(), on == 0 ? 1 : 0);
        }
    }
}
