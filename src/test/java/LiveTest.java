/** Terms READ, WRITTEN and LIVE, and promises 9 and 10: live and meet. */
public final class LiveTest {
    private static final int LOW = Integer.MIN_VALUE;
    private static final int HIGH = Integer.MAX_VALUE;

    public static void main(String[] args) {
        Due.tests(
                LiveTest::whatIsRead,
                LiveTest::whatIsWritten,
                LiveTest::theListOfOne,
                LiveTest::theLastOneMayWrite,
                LiveTest::noneBeforeTheLastWrites,
                LiveTest::stopHasNoneAfterIt,
                LiveTest::theEndHasNoneAfterIt,
                LiveTest::gotoHasOneAfterIt,
                LiveTest::bothWaysOfIfgoto,
                LiveTest::allWaysOfSwitch,
                LiveTest::waysOfSwitchPastTheEnd,
                LiveTest::throughALoop,
                LiveTest::theLongestList,
                LiveTest::valuesPlayNoPart,
                LiveTest::liveIsASet,
                LiveTest::liveOfNoSuchInstruction,
                LiveTest::liveFollowsTheProgram,
                LiveTest::meetIsAtOneInstruction,
                LiveTest::meetIsAtAnyInstruction,
                LiveTest::meetOfOneVariable,
                LiveTest::meetOfAnEmptyProgram,
                LiveTest::meetOutside);
    }

    private static int liveOfOne(int op, int a, int b, int c) {
        GotoColour x = new GotoColour();
        x.emit(op, a, b, c);
        return x.live(0);
    }

    private static void whatIsRead() {
        Due.sentence("Terms: READ by MOVE (b), ADD to LESS (b and c), PRINT, IFGOTO and SWITCH (a)");
        Due.is("live at SET 1", liveOfOne(GotoColour.SET, 1, 2, 4), 0);
        Due.is("live at MOVE 1 2", liveOfOne(GotoColour.MOVE, 1, 2, 4), 4);
        Due.is("live at ADD 1 2 4", liveOfOne(GotoColour.ADD, 1, 2, 4), 20);
        Due.is("live at SUB 1 2 4", liveOfOne(GotoColour.SUB, 1, 2, 4), 20);
        Due.is("live at MUL 1 2 4", liveOfOne(GotoColour.MUL, 1, 2, 4), 20);
        Due.is("live at LESS 1 2 4", liveOfOne(GotoColour.LESS, 1, 2, 4), 20);
        Due.is("live at PRINT 1", liveOfOne(GotoColour.PRINT, 1, 2, 4), 2);
        Due.is("live at GOTO 1", liveOfOne(GotoColour.GOTO, 1, 2, 4), 0);
        Due.is("live at IFGOTO 1 2", liveOfOne(GotoColour.IFGOTO, 1, 2, 4), 2);
        Due.is("live at SWITCH 1 2 4", liveOfOne(GotoColour.SWITCH, 1, 2, 4), 2);
        Due.is("live at STOP", liveOfOne(GotoColour.STOP, 1, 2, 4), 0);
        Due.is("live at ADD 3 3 3", liveOfOne(GotoColour.ADD, 3, 3, 3), 8);
        Due.is("live at MOVE 7 7", liveOfOne(GotoColour.MOVE, 7, 7, 0), 128);
        Due.is("live at LESS 0 7 0", liveOfOne(GotoColour.LESS, 0, 7, 0), 129);
    }

    private static void whatIsWritten() {
        Due.sentence("Terms: WRITTEN by SET to LESS (a)");
        for (int op = GotoColour.SET; op <= GotoColour.SWITCH; op++) {
            boolean writes = op <= GotoColour.LESS;
            // The target of GOTO is a, that of IFGOTO and SWITCH is b: all go to 1 at the latest.
            GotoColour x = new GotoColour();
            x.emit(op, 1, op == GotoColour.IFGOTO || op == GotoColour.SWITCH ? 1 : 2, 3);
            x.emit(GotoColour.PRINT, 1, 0, 0);
            x.emit(GotoColour.PRINT, 6, 0, 0);
            Due.is("bit 1 before PRINT 1, op " + op, x.live(0) >> 1 & 1, writes ? 0 : 1);
            Due.is("bit 6 before PRINT 6, op " + op, x.live(0) >> 6 & 1, 1);
            Due.is("live(1) after op " + op, x.live(1), 66);
        }
    }

    private static void theListOfOne() {
        Due.sentence("Terms: a list of instructions that begins with i, of i alone");
        GotoColour x = new GotoColour();
        x.emit(GotoColour.STOP, 0, 0, 0);
        x.emit(GotoColour.PRINT, 4, 0, 0);
        Due.is("live(1), to which none comes", x.live(1), 16);
        Due.is("live(0)", x.live(0), 0);
    }

    private static void theLastOneMayWrite() {
        Due.sentence("Terms: whose last one reads v, and writes it as well");
        for (int op = GotoColour.MOVE; op <= GotoColour.LESS; op++) {
            boolean hasC = op >= GotoColour.ADD;
            GotoColour x = new GotoColour();
            x.emit(GotoColour.SET, 7, 0, 0);
            x.emit(op, 1, 1, 2);
            Due.is("live(0) before op " + op + " of 1 1 2", x.live(0), hasC ? 6 : 2);
            Due.is("live(1) at op " + op + " of 1 1 2", x.live(1), hasC ? 6 : 2);
            Due.is("live at op " + op + " of 1 1 1", liveOfOne(op, 1, 1, 1), 2);
        }
    }

    private static void noneBeforeTheLastWrites() {
        Due.sentence("Terms: none of which before the last one writes v");
        GotoColour x = new GotoColour();
        x.emit(GotoColour.PRINT, 2, 0, 0);
        x.emit(GotoColour.SET, 2, 9, 0);
        x.emit(GotoColour.SET, 3, 9, 0);
        x.emit(GotoColour.ADD, 0, 2, 3);
        x.emit(GotoColour.PRINT, 5, 0, 0);
        int[] due = {4 | 32, 32, 4 | 32, 4 | 8 | 32, 32};
        for (int i = 0; i < due.length; i++) {
            Due.is("live(" + i + ")", x.live(i), due[i]);
        }
        // A write on one way alone: along the other one, the variable is live.
        GotoColour y = new GotoColour();
        y.emit(GotoColour.IFGOTO, 0, 2, 0);
        y.emit(GotoColour.SET, 6, 1, 0);
        y.emit(GotoColour.PRINT, 6, 0, 0);
        Due.is("live(0) around a write", y.live(0), 1 | 64);
        Due.is("live(1) at the write", y.live(1), 0);
    }

    private static void stopHasNoneAfterIt() {
        Due.sentence("Terms: each next one can come after the one before, and none after STOP");
        GotoColour x = new GotoColour();
        x.emit(GotoColour.PRINT, 1, 0, 0);
        x.emit(GotoColour.STOP, 0, 0, 0);
        x.emit(GotoColour.PRINT, 2, 0, 0);
        Due.is("live(0) before STOP", x.live(0), 2);
        Due.is("live(1) at STOP", x.live(1), 0);
        Due.is("live(2) behind STOP", x.live(2), 4);
    }

    private static void theEndHasNoneAfterIt() {
        Due.sentence("Terms: each next one can come after the one before, and none after the end");
        GotoColour x = new GotoColour();
        x.emit(GotoColour.PRINT, 2, 0, 0);
        x.emit(GotoColour.GOTO, 31, 0, 0);
        x.emit(GotoColour.PRINT, 3, 0, 0);
        Due.is("live(0) before GOTO 31", x.live(0), 4);
        Due.is("live(1) at GOTO 31", x.live(1), 0);
        Due.is("live(2) at the last", x.live(2), 8);
        // Behind instruction 31 there is none: it is not instruction 0 again.
        for (int i = 3; i < 31; i++) {
            x.emit(GotoColour.STOP, 0, 0, 0);
        }
        x.emit(GotoColour.SET, 0, 0, 0);
        Due.is("live(31) of 32", x.live(31), 0);
        Due.is("live(1) at GOTO 31 of 32", x.live(1), 0);
    }

    private static void gotoHasOneAfterIt() {
        Due.sentence("Terms: each next one can come after the one before, and t alone after GOTO t");
        GotoColour x = new GotoColour();
        x.emit(GotoColour.GOTO, 2, 0, 0);
        x.emit(GotoColour.PRINT, 1, 0, 0);
        x.emit(GotoColour.PRINT, 2, 0, 0);
        Due.is("live(0) at GOTO 2", x.live(0), 4);
        x.emit(GotoColour.GOTO, 1, 0, 0);
        Due.is("live(0) at GOTO 2, with a way back", x.live(0), 6);
        Due.is("live(3) at GOTO 1", x.live(3), 6);
        GotoColour y = new GotoColour();
        y.emit(GotoColour.GOTO, 0, 0, 0);
        y.emit(GotoColour.PRINT, 1, 0, 0);
        Due.is("live(0) at GOTO to itself", y.live(0), 0);
    }

    private static void bothWaysOfIfgoto() {
        Due.sentence("Terms: both ways of an IFGOTO count");
        GotoColour x = new GotoColour();
        x.emit(GotoColour.IFGOTO, 0, 3, 0);
        x.emit(GotoColour.PRINT, 1, 0, 0);
        x.emit(GotoColour.STOP, 0, 0, 0);
        x.emit(GotoColour.PRINT, 2, 0, 0);
        Due.is("live(0) at IFGOTO", x.live(0), 7);
        GotoColour y = new GotoColour();
        y.emit(GotoColour.IFGOTO, 0, 31, 0);
        y.emit(GotoColour.PRINT, 1, 0, 0);
        Due.is("live(0) at IFGOTO past the end", y.live(0), 3);
        GotoColour z = new GotoColour();
        z.emit(GotoColour.PRINT, 1, 0, 0);
        z.emit(GotoColour.IFGOTO, 0, 0, 0);
        Due.is("live(1) at IFGOTO as the last", z.live(1), 3);
    }

    private static void allWaysOfSwitch() {
        Due.sentence("Terms: all n + 1 ways of a SWITCH");
        for (int ways = 1; ways <= 4; ways++) {
            // Way w leads to the PRINT of variable w + 1 alone, the next number to that of variable 7.
            GotoColour x = new GotoColour();
            x.emit(GotoColour.SWITCH, 0, 3, ways);
            x.emit(GotoColour.PRINT, 7, 0, 0);
            x.emit(GotoColour.STOP, 0, 0, 0);
            for (int t = 3; t < 8; t++) {
                x.emit(GotoColour.GOTO, 2 * t + 2, 0, 0);
            }
            for (int v = 1; v <= 5; v++) {
                x.emit(GotoColour.PRINT, v, 0, 0);
                x.emit(GotoColour.STOP, 0, 0, 0);
            }
            for (int v = 1; v <= 5; v++) {
                Due.is("bit " + v + " of live(0) at SWITCH of " + ways, x.live(0) >> v & 1, v <= ways ? 1 : 0);
            }
            Due.is("bit 7 of live(0) at SWITCH of " + ways, x.live(0) >> 7 & 1, 1);
            Due.is("bit 0 of live(0) at SWITCH of " + ways, x.live(0) & 1, 1);
        }
    }

    private static void waysOfSwitchPastTheEnd() {
        Due.sentence("Terms: all n + 1 ways of a SWITCH, some past the end");
        GotoColour x = new GotoColour();
        x.emit(GotoColour.SWITCH, 0, 29, 4);
        x.emit(GotoColour.STOP, 0, 0, 0);
        for (int i = 2; i < 32; i++) {
            x.emit(GotoColour.PRINT, i == 31 ? 6 : 5, 0, 0);
        }
        Due.is("live(0) at SWITCH to 29..32 of 32", x.live(0), 1 | 32 | 64);
        x.retract();
        Due.is("live(0) at SWITCH to 29..32 of 31", x.live(0), 1 | 32);
        x.retract();
        x.retract();
        Due.is("live(0) at SWITCH to 29..32 of 29", x.live(0), 1);
        // 32, 33 and 34 are not 0, 1 and 2 again.
        GotoColour y = new GotoColour();
        y.emit(GotoColour.PRINT, 2, 0, 0);
        y.emit(GotoColour.PRINT, 3, 0, 0);
        y.emit(GotoColour.PRINT, 4, 0, 0);
        for (int i = 3; i < 31; i++) {
            y.emit(GotoColour.STOP, 0, 0, 0);
        }
        y.emit(GotoColour.SWITCH, 0, 31, 4);
        Due.is("live(31) at SWITCH to 31..34 of 32", y.live(31), 1);
    }

    private static void throughALoop() {
        Due.sentence("Terms: a list of instructions, around a loop");
        GotoColour x = new GotoColour();
        x.emit(GotoColour.SET, 1, 1, 0);
        x.emit(GotoColour.PRINT, 2, 0, 0);
        x.emit(GotoColour.SET, 2, 5, 0);
        x.emit(GotoColour.SUB, 0, 0, 1);
        x.emit(GotoColour.IFGOTO, 0, 1, 0);
        int[] due = {5, 7, 3, 7, 7};
        for (int i = 0; i < due.length; i++) {
            Due.is("live(" + i + ")", x.live(i), due[i]);
        }
    }

    private static void theLongestList() {
        Due.sentence("Terms: a list of instructions, through all 32");
        // Once against the order of their numbers and once along with it: a search that goes over the
        // program in one order finds one of the two slowly.
        GotoColour back = new GotoColour();
        back.emit(GotoColour.PRINT, 3, 0, 0);
        for (int i = 1; i < 32; i++) {
            back.emit(GotoColour.GOTO, i - 1, 0, 0);
        }
        GotoColour forth = new GotoColour();
        for (int i = 0; i < 31; i++) {
            forth.emit(GotoColour.GOTO, i + 1, 0, 0);
        }
        forth.emit(GotoColour.PRINT, 3, 0, 0);
        for (int i = 0; i < 32; i++) {
            Due.is("back: live(" + i + ")", back.live(i), 8);
            Due.is("forth: live(" + i + ")", forth.live(i), 8);
        }
    }

    private static void valuesPlayNoPart() {
        Due.sentence("Terms: both ways of an IFGOTO count, though a run takes but one");
        GotoColour x = new GotoColour();
        x.emit(GotoColour.SET, 0, 0, 0);
        x.emit(GotoColour.IFGOTO, 0, 3, 0);
        x.emit(GotoColour.STOP, 0, 0, 0);
        x.emit(GotoColour.PRINT, 5, 0, 0);
        x.run(250);
        Due.is("live(0) over a way never taken", x.live(0), 32);
        x.start(0, 9);
        Due.is("live(0) after start", x.live(0), 32);
    }

    private static void liveIsASet() {
        Due.sentence("Promise 9: as a set (bit v speaks of variable v)");
        GotoColour x = new GotoColour();
        for (int v = 0; v < 8; v++) {
            Due.is("live at PRINT " + v, liveOfOne(GotoColour.PRINT, v, 0, 0), 1 << v);
            x.emit(GotoColour.PRINT, v, 0, 0);
        }
        for (int i = 0; i < 8; i++) {
            Due.is("live(" + i + ") of all", x.live(i), 256 - (1 << i));
        }
    }

    private static void liveOfNoSuchInstruction() {
        Due.sentence("Promise 9: 0 if there is no such instruction");
        GotoColour x = new GotoColour();
        for (int length = 0; length <= 32; length++) {
            int[] none = {LOW, -32, -1, length, length + 1, 32, 33, 64, HIGH};
            for (int i : none) {
                Due.is("live(" + i + ") of " + length, x.live(i), 0);
            }
            if (length > 0) {
                Due.is("live(" + (length - 1) + ") of " + length, x.live(length - 1), 1);
                Due.is("live(0) of " + length, x.live(0), 1);
            }
            x.emit(GotoColour.PRINT, 0, 0, 0);
        }
        for (int length = 31; length >= 0; length--) {
            x.retract();
            Due.is("live(" + length + ") of what was taken away", x.live(length), 0);
        }
    }

    private static void liveFollowsTheProgram() {
        Due.sentence("Promise 9: The variables that are live at instruction i, of the program as it is now");
        GotoColour x = new GotoColour();
        x.emit(GotoColour.GOTO, 1, 0, 0);
        Due.is("live(0) with nothing after it", x.live(0), 0);
        x.emit(GotoColour.PRINT, 4, 0, 0);
        Due.is("live(0) before PRINT 4", x.live(0), 16);
        x.retract();
        Due.is("live(0) with PRINT 4 taken away", x.live(0), 0);
        x.emit(GotoColour.PRINT, 4, 0, 0);
        Due.is("live(0) with PRINT 4 back", x.live(0), 16);
        // A loop keeps up what an earlier answer has left in it, unless each answer is found anew.
        x.retract();
        x.emit(GotoColour.GOTO, 0, 0, 0);
        Due.is("live(0) with a loop in its place", x.live(0), 0);
        Due.is("live(1) with a loop in its place", x.live(1), 0);
        Due.is("meet(4, 4) with a loop in its place", x.meet(4, 4), false);
    }

    private static void meetIsAtOneInstruction() {
        Due.sentence("Promise 10: Whether there is an instruction at which both u and v are live");
        GotoColour x = new GotoColour();
        x.emit(GotoColour.PRINT, 0, 0, 0);
        x.emit(GotoColour.SET, 1, 7, 0);
        x.emit(GotoColour.PRINT, 1, 0, 0);
        x.emit(GotoColour.STOP, 0, 0, 0);
        Due.is("meet(0, 1), live one after the other", x.meet(0, 1), false);
        Due.is("meet(1, 0), live one after the other", x.meet(1, 0), false);
        x.emit(GotoColour.LESS, 5, 7, 6);
        Due.is("meet(6, 7), where no run comes to", x.meet(6, 7), true);
        Due.is("meet(7, 6), where no run comes to", x.meet(7, 6), true);
        Due.is("meet(5, 6), 5 written alone", x.meet(5, 6), false);
        Due.is("meet(0, 7)", x.meet(0, 7), false);
        x.retract();
        Due.is("meet(6, 7) after retract", x.meet(6, 7), false);
    }

    private static void meetIsAtAnyInstruction() {
        Due.sentence("Promise 10: there is an instruction, the first or the last of 32 among them");
        for (int at = 0; at < 32; at++) {
            GotoColour x = new GotoColour();
            for (int i = 0; i < 32; i++) {
                x.emit(i == at ? GotoColour.MUL : GotoColour.STOP, 0, 2, 4);
            }
            Due.is("meet(2, 4) at " + at, x.meet(2, 4), true);
            Due.is("meet(4, 2) at " + at, x.meet(4, 2), true);
            Due.is("meet(0, 4) at " + at, x.meet(0, 4), false);
        }
    }

    private static void meetOfOneVariable() {
        Due.sentence("Promise 10: both u and v are live, where u is v");
        for (int v = 0; v < 8; v++) {
            GotoColour x = new GotoColour();
            x.emit(GotoColour.PRINT, v, 0, 0);
            for (int u = 0; u < 8; u++) {
                Due.is("meet(" + u + ", " + u + ") with PRINT " + v, x.meet(u, u), u == v);
            }
        }
    }

    private static void meetOfAnEmptyProgram() {
        Due.sentence("Promise 10: Whether there is an instruction, of an empty program");
        GotoColour x = new GotoColour();
        Due.is("meet(0, 1) of a new object", x.meet(0, 1), false);
        x.emit(GotoColour.ADD, 0, 0, 1);
        Due.is("meet(0, 1) of ADD 0 0 1", x.meet(0, 1), true);
        x.retract();
        Due.is("meet(0, 1) of none", x.meet(0, 1), false);
        Due.is("meet(0, 0) of none", x.meet(0, 0), false);
    }

    private static void meetOutside() {
        Due.sentence("Promise 10: false for numbers outside 0..7");
        int[] outside = {LOW, -32, -25, -8, -1, 8, 9, 16, 31, 32, 39, 256, HIGH};
        GotoColour x = new GotoColour();
        for (int v = 0; v < 8; v++) {
            x.emit(GotoColour.PRINT, v, 0, 0);
        }
        for (int w : outside) {
            Due.is("meet(" + w + ", " + w + ")", x.meet(w, w), false);
            for (int v = 0; v < 8; v++) {
                Due.is("meet(" + v + ", " + w + ")", x.meet(v, w), false);
                Due.is("meet(" + w + ", " + v + ")", x.meet(w, v), false);
            }
        }
        for (int u = 0; u < 8; u++) {
            for (int v = 0; v < 8; v++) {
                Due.is("meet(" + u + ", " + v + ")", x.meet(u, v), true);
            }
        }
    }
}
