/** Promises 9 and 10: live and meet. */
public final class LiveTest {
    private static final int LOW = Integer.MIN_VALUE;
    private static final int HIGH = Integer.MAX_VALUE;

    public static void main(String[] args) {
        whatIsRead();
        whatIsWritten();
        noSuchInstruction();
        stopAndTheEndCutOff();
        gotoGoesOneWay();
        bothWaysOfIfgoto();
        allWaysOfSwitch();
        throughALoop();
        theLongestList();
        followsTheProgram();
        valuesPlayNoPart();
        meetIsAtOneInstruction();
        meetOutside();
        Due.end();
    }

    private static int liveOfOne(int op, int a, int b, int c) {
        GotoColour x = new GotoColour();
        x.emit(op, a, b, c);
        return x.live(0);
    }

    private static void whatIsRead() {
        Due.is("live at SET 1", liveOfOne(GotoColour.SET, 1, 2, 4), 0);
        Due.is("live at MOVE 1 2", liveOfOne(GotoColour.MOVE, 1, 2, 4), 4);
        Due.is("live at ADD 1 2 4", liveOfOne(GotoColour.ADD, 1, 2, 4), 20);
        Due.is("live at SUB 1 2 4", liveOfOne(GotoColour.SUB, 1, 2, 4), 20);
        Due.is("live at MUL 1 2 4", liveOfOne(GotoColour.MUL, 1, 2, 4), 20);
        Due.is("live at LESS 1 2 4", liveOfOne(GotoColour.LESS, 1, 2, 4), 20);
        Due.is("live at PRINT 1", liveOfOne(GotoColour.PRINT, 1, 2, 4), 2);
        Due.is("live at GOTO 1", liveOfOne(GotoColour.GOTO, 1, 2, 4), 0);
        Due.is("live at IFGOTO 1 2", liveOfOne(GotoColour.IFGOTO, 1, 2, 4), 2);
        Due.is("live at SWITCH 1 2 4", liveOfOne(GotoColour.SWITCH, 1, 2, 4), 2);
        Due.is("live at STOP", liveOfOne(GotoColour.STOP, 1, 2, 4), 0);
        Due.is("live at ADD 3 3 3", liveOfOne(GotoColour.ADD, 3, 3, 3), 8);
        Due.is("live at MOVE 7 7", liveOfOne(GotoColour.MOVE, 7, 7, 0), 128);
        Due.is("live at LESS 0 7 0", liveOfOne(GotoColour.LESS, 0, 7, 0), 129);
    }

    private static void whatIsWritten() {
        for (int op = 0; op <= 10; op++) {
            boolean writes = op <= GotoColour.LESS;
            boolean goesOn = op != GotoColour.STOP;
            GotoColour x = new GotoColour();
            x.emit(op, 1, op == GotoColour.GOTO ? 0 : 2, 3);
            x.emit(GotoColour.PRINT, 1, 0, 0);
            x.emit(GotoColour.PRINT, 6, 0, 0);
            Due.is("bit 1 before PRINT 1, op " + op, x.live(0) >> 1 & 1, goesOn && !writes ? 1 : 0);
            Due.is("bit 6 before PRINT 6, op " + op, x.live(0) >> 6 & 1, goesOn ? 1 : 0);
            Due.is("live(1) after op " + op, x.live(1), 66);
        }
        GotoColour x = new GotoColour();
        x.emit(GotoColour.ADD, 1, 1, 2);
        x.emit(GotoColour.PRINT, 1, 0, 0);
        Due.is("live at what reads and writes 1", x.live(0), 6);
    }

    private static void noSuchInstruction() {
        GotoColour x = new GotoColour();
        x.emit(GotoColour.PRINT, 0, 0, 0);
        int[] wrong = {LOW, -33, -32, -1, 1, 2, 31, 32, 33, HIGH};
        for (int i : wrong) {
            Due.is("live(" + i + ") of 1", x.live(i), 0);
        }
        Due.is("live(0) of 1", x.live(0), 1);
        for (int i = 1; i < 32; i++) {
            x.emit(GotoColour.PRINT, 0, 0, 0);
        }
        Due.is("live(31) of 32", x.live(31), 1);
        Due.is("live(32) of 32", x.live(32), 0);
    }

    private static void stopAndTheEndCutOff() {
        GotoColour x = new GotoColour();
        x.emit(GotoColour.PRINT, 1, 0, 0);
        x.emit(GotoColour.STOP, 0, 0, 0);
        x.emit(GotoColour.PRINT, 2, 0, 0);
        x.emit(GotoColour.GOTO, 31, 0, 0);
        x.emit(GotoColour.PRINT, 3, 0, 0);
        Due.is("live(0) before STOP", x.live(0), 2);
        Due.is("live(1) at STOP", x.live(1), 0);
        Due.is("live(2) before GOTO 31", x.live(2), 4);
        Due.is("live(3) at GOTO 31", x.live(3), 0);
        Due.is("live(4), which no run comes to", x.live(4), 8);
    }

    private static void gotoGoesOneWay() {
        GotoColour x = new GotoColour();
        x.emit(GotoColour.GOTO, 2, 0, 0);
        x.emit(GotoColour.PRINT, 1, 0, 0);
        x.emit(GotoColour.PRINT, 2, 0, 0);
        Due.is("live(0) at GOTO 2", x.live(0), 4);
        x.emit(GotoColour.GOTO, 1, 0, 0);
        Due.is("live(0) at GOTO 2, with a way back", x.live(0), 6);
        Due.is("live(3) at GOTO 1", x.live(3), 6);
        GotoColour y = new GotoColour();
        y.emit(GotoColour.GOTO, 0, 0, 0);
        y.emit(GotoColour.PRINT, 1, 0, 0);
        Due.is("live(0) at GOTO to itself", y.live(0), 0);
    }

    private static void bothWaysOfIfgoto() {
        GotoColour x = new GotoColour();
        x.emit(GotoColour.IFGOTO, 0, 3, 0);
        x.emit(GotoColour.PRINT, 1, 0, 0);
        x.emit(GotoColour.STOP, 0, 0, 0);
        x.emit(GotoColour.PRINT, 2, 0, 0);
        Due.is("live(0) at IFGOTO", x.live(0), 7);
        GotoColour y = new GotoColour();
        y.emit(GotoColour.IFGOTO, 0, 31, 0);
        y.emit(GotoColour.PRINT, 1, 0, 0);
        Due.is("live(0) at IFGOTO past the end", y.live(0), 3);
    }

    private static void allWaysOfSwitch() {
        for (int ways = 1; ways <= 4; ways++) {
            GotoColour x = new GotoColour();
            x.emit(GotoColour.SWITCH, 0, 3, ways);
            x.emit(GotoColour.PRINT, 7, 0, 0);
            x.emit(GotoColour.STOP, 0, 0, 0);
            for (int t = 3; t < 8; t++) {
                x.emit(GotoColour.GOTO, 2 * t + 2, 0, 0);
            }
            for (int v = 1; v <= 5; v++) {
                x.emit(GotoColour.PRINT, v, 0, 0);
                x.emit(GotoColour.STOP, 0, 0, 0);
            }
            int due = 1 | 128;
            for (int v = 1; v <= ways; v++) {
                due |= 1 << v;
            }
            Due.is("live(0) at SWITCH of " + ways, x.live(0), due);
        }
        GotoColour y = new GotoColour();
        y.emit(GotoColour.SWITCH, 0, 29, 4);
        y.emit(GotoColour.STOP, 0, 0, 0);
        for (int i = 2; i < 32; i++) {
            y.emit(GotoColour.PRINT, i == 31 ? 6 : 5, 0, 0);
        }
        Due.is("live(0) at SWITCH partly past the end", y.live(0), 1 | 32 | 64);
        y.retract();
        Due.is("live(0) at SWITCH with one less", y.live(0), 1 | 32);
    }

    private static void throughALoop() {
        GotoColour x = new GotoColour();
        x.emit(GotoColour.SET, 1, 1, 0);
        x.emit(GotoColour.PRINT, 2, 0, 0);
        x.emit(GotoColour.SET, 2, 5, 0);
        x.emit(GotoColour.SUB, 0, 0, 1);
        x.emit(GotoColour.IFGOTO, 0, 1, 0);
        Due.is("loop: live(0)", x.live(0), 5);
        Due.is("loop: live(1)", x.live(1), 7);
        Due.is("loop: live(2)", x.live(2), 3);
        Due.is("loop: live(3)", x.live(3), 7);
        Due.is("loop: live(4)", x.live(4), 7);
    }

    private static void theLongestList() {
        // A list through all 32 instructions, once against the order of their numbers and once along
        // with it: a search that goes over the program in one order finds one of the two slowly.
        GotoColour back = new GotoColour();
        back.emit(GotoColour.PRINT, 3, 0, 0);
        for (int i = 1; i < 32; i++) {
            back.emit(GotoColour.GOTO, i - 1, 0, 0);
        }
        GotoColour forth = new GotoColour();
        for (int i = 0; i < 31; i++) {
            forth.emit(GotoColour.GOTO, i + 1, 0, 0);
        }
        forth.emit(GotoColour.PRINT, 3, 0, 0);
        for (int i = 0; i < 32; i++) {
            Due.is("back: live(" + i + ")", back.live(i), 8);
            Due.is("forth: live(" + i + ")", forth.live(i), 8);
        }
    }

    private static void followsTheProgram() {
        GotoColour x = new GotoColour();
        x.emit(GotoColour.GOTO, 1, 0, 0);
        Due.is("live(0) with nothing after it", x.live(0), 0);
        x.emit(GotoColour.PRINT, 4, 0, 0);
        Due.is("live(0) before PRINT 4", x.live(0), 16);
        x.retract();
        Due.is("live(0) with PRINT 4 taken away", x.live(0), 0);
        x.emit(GotoColour.PRINT, 4, 0, 0);
        Due.is("live(0) with PRINT 4 back", x.live(0), 16);
        // A loop keeps up what an earlier answer has left in it, unless each answer is found anew.
        x.retract();
        x.emit(GotoColour.GOTO, 0, 0, 0);
        Due.is("live(0) with a loop in its place", x.live(0), 0);
        Due.is("live(1) with a loop in its place", x.live(1), 0);
        Due.is("meet(4, 4) with a loop in its place", x.meet(4, 4), false);
    }

    private static void valuesPlayNoPart() {
        GotoColour x = new GotoColour();
        x.emit(GotoColour.SET, 0, 0, 0);
        x.emit(GotoColour.IFGOTO, 0, 3, 0);
        x.emit(GotoColour.STOP, 0, 0, 0);
        x.emit(GotoColour.PRINT, 5, 0, 0);
        x.run(250);
        Due.is("live(0) over a way never taken", x.live(0), 32);
        x.start(0, 9);
        Due.is("live(0) after start", x.live(0), 32);
        Due.is("executed after live", x.executed(), 3);
        Due.is("printed after live", x.printed(), 0);
    }

    private static void meetIsAtOneInstruction() {
        GotoColour x = new GotoColour();
        x.emit(GotoColour.PRINT, 0, 0, 0);
        x.emit(GotoColour.SET, 1, 7, 0);
        x.emit(GotoColour.PRINT, 1, 0, 0);
        x.emit(GotoColour.STOP, 0, 0, 0);
        Due.is("meet(0, 0)", x.meet(0, 0), true);
        Due.is("meet(1, 1)", x.meet(1, 1), true);
        Due.is("meet(2, 2)", x.meet(2, 2), false);
        Due.is("meet(0, 1), live one after the other", x.meet(0, 1), false);
        Due.is("meet(1, 0), live one after the other", x.meet(1, 0), false);
        x.emit(GotoColour.LESS, 5, 7, 6);
        Due.is("meet(6, 7), where no run comes to", x.meet(6, 7), true);
        Due.is("meet(7, 6), where no run comes to", x.meet(7, 6), true);
        Due.is("meet(5, 6), 5 written alone", x.meet(5, 6), false);
        Due.is("meet(0, 7)", x.meet(0, 7), false);
        x.retract();
        Due.is("meet(6, 7) after retract", x.meet(6, 7), false);
        meetAtTheLast();
    }

    private static void meetAtTheLast() {
        GotoColour x = new GotoColour();
        for (int i = 0; i < 31; i++) {
            x.emit(GotoColour.STOP, 0, 0, 0);
        }
        x.emit(GotoColour.MUL, 0, 2, 4);
        Due.is("meet(2, 4) at instruction 31", x.meet(2, 4), true);
        Due.is("meet(0, 4) at instruction 31", x.meet(0, 4), false);
    }

    private static void meetOutside() {
        GotoColour x = new GotoColour();
        for (int v = 0; v < 8; v++) {
            x.emit(GotoColour.PRINT, v, 0, 0);
        }
        int[] wrong = {LOW, -32, -25, -8, -1, 8, 9, 31, 32, 39, HIGH};
        for (int w : wrong) {
            Due.is("meet(" + w + ", " + w + ")", x.meet(w, w), false);
            for (int v = 0; v < 8; v++) {
                Due.is("meet(" + v + ", " + w + ")", x.meet(v, w), false);
                Due.is("meet(" + w + ", " + v + ")", x.meet(w, v), false);
            }
        }
        for (int u = 0; u < 8; u++) {
            for (int v = 0; v < 8; v++) {
                Due.is("meet(" + u + ", " + v + ")", x.meet(u, v), true);
            }
        }
    }
}
