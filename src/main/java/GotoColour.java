public final class GotoColour {
    public static final int SET = 0;
    public static final int MOVE = 1;
    public static final int ADD = 2;
    public static final int SUB = 3;
    public static final int MUL = 4;
    public static final int LESS = 5;
    public static final int PRINT = 6;
    public static final int GOTO = 7;
    public static final int IFGOTO = 8;
    public static final int SWITCH = 9;
    public static final int STOP = 10;
    public static final int BAD = -1;
    public static final int FULL = -2;
    public static final int ENDED = 1;
    public static final int OUT_OF_FUEL = 2;

    private static final int VARIABLES = 8;
    private static final int CAPACITY = 32;
    private static final int KEPT_VALUES = 32;
    private static final int MOST_FUEL = 250;
    private static final int MOST_WAYS = 4;

    // Instruction i is opOf[i] with the numbers firstOf[i], secondOf[i] and thirdOf[i]: the a, b and c
    // that emit was given. emit lets in no variable outside 0..7 and no target outside 0..31, so the
    // numbers that an instruction has can be used as indexes without being looked at again.
    private final int[] opOf = new int[CAPACITY];
    private final int[] firstOf = new int[CAPACITY];
    private final int[] secondOf = new int[CAPACITY];
    private final int[] thirdOf = new int[CAPACITY];
    private int count = 0;

    private final int[] startValues = new int[VARIABLES];
    private final int[] values = new int[VARIABLES];
    private final int[] keptOutput = new int[KEPT_VALUES];
    private int executedCount = 0;
    private int printedCount = 0;

    private final int[] liveSets = new int[CAPACITY];

    public GotoColour() {
    }

    public int emit(int op, int a, int b, int c) {
        if (count >= CAPACITY) {
            return FULL;
        }
        if (!isInstruction(op, a, b, c)) {
            return BAD;
        }
        opOf[count] = op;
        firstOf[count] = a;
        secondOf[count] = b;
        thirdOf[count] = c;
        count++;
        return count;
    }

    public int retract() {
        if (count == 0) {
            return BAD;
        }
        count--;
        return count;
    }

    public boolean start(int v, int value) {
        if (!isVariable(v)) {
            return false;
        }
        startValues[v] = value;
        return true;
    }

    public int run(int fuel) {
        int limit = clampFuel(fuel);
        beginRun();
        int next = 0;
        for (int done = 0; done < limit && next < count; done++) {
            next = execute(next);
            executedCount++;
        }
        // A run whose last drop of fuel led past the program has ended all the same.
        return next < count ? OUT_OF_FUEL : ENDED;
    }

    public int executed() {
        return executedCount;
    }

    public int printed() {
        return printedCount;
    }

    public int output(int k) {
        if (k < 0 || k >= printedCount || k >= KEPT_VALUES) {
            return 0;
        }
        return keptOutput[k];
    }

    public int live(int i) {
        if (i < 0 || i >= count) {
            return 0;
        }
        findLiveSets();
        return liveSets[i];
    }

    public boolean meet(int u, int v) {
        if (!isVariable(u) || !isVariable(v)) {
            return false;
        }
        findLiveSets();
        int both = 1 << u | 1 << v;
        for (int i = 0; i < count; i++) {
            if ((liveSets[i] & both) == both) {
                return true;
            }
        }
        return false;
    }

    private static boolean isInstruction(int op, int a, int b, int c) {
        switch (op) {
            case SET:
            case PRINT:
                return isVariable(a);
            case MOVE:
                return isVariable(a) && isVariable(b);
            case ADD:
            case SUB:
            case MUL:
            case LESS:
                return isVariable(a) && isVariable(b) && isVariable(c);
            case GOTO:
                return isTarget(a);
            case IFGOTO:
                return isVariable(a) && isTarget(b);
            case SWITCH:
                return isVariable(a) && isTarget(b) && c >= 1 && c <= MOST_WAYS;
            case STOP:
                return true;
            default:
                return false;
        }
    }

    private static boolean isVariable(int v) {
        return v >= 0 && v < VARIABLES;
    }

    // A target need not be there yet: it only has to be a number that an instruction can come to have.
    private static boolean isTarget(int t) {
        return t >= 0 && t < CAPACITY;
    }

    private static int clampFuel(int fuel) {
        if (fuel < 0) {
            return 0;
        }
        return fuel > MOST_FUEL ? MOST_FUEL : fuel;
    }

    private void beginRun() {
        for (int v = 0; v < VARIABLES; v++) {
            values[v] = startValues[v];
        }
        executedCount = 0;
        printedCount = 0;
    }

    // Answers the number that is next; it is count or more when the run ends.
    private int execute(int i) {
        int a = firstOf[i];
        int b = secondOf[i];
        int c = thirdOf[i];
        switch (opOf[i]) {
            case SET:
                values[a] = b;
                return i + 1;
            case MOVE:
                values[a] = values[b];
                return i + 1;
            case ADD:
                values[a] = values[b] + values[c];
                return i + 1;
            case SUB:
                values[a] = values[b] - values[c];
                return i + 1;
            case MUL:
                values[a] = values[b] * values[c];
                return i + 1;
            case LESS:
                values[a] = values[b] < values[c] ? 1 : 0;
                return i + 1;
            case PRINT:
                print(values[a]);
                return i + 1;
            case GOTO:
                return a;
            case IFGOTO:
                return values[a] != 0 ? b : i + 1;
            case SWITCH:
                return values[a] >= 0 && values[a] < c ? b + values[a] : i + 1;
            default:
                return count;
        }
    }

    private void print(int value) {
        if (printedCount < KEPT_VALUES) {
            keptOutput[printedCount] = value;
        }
        printedCount++;
    }

    // Each pass takes in at least the lists that are one instruction longer, and a list that goes
    // through no instruction twice has at most count of them, so count passes find every list.
    // It begins with empty sets: what an earlier program left in a loop would keep itself up.
    private void findLiveSets() {
        for (int i = 0; i < count; i++) {
            liveSets[i] = 0;
        }
        for (int pass = 0; pass < count; pass++) {
            for (int i = count - 1; i >= 0; i--) {
                liveSets[i] = readBy(i) | liveAfter(i) & ~writtenBy(i);
            }
        }
    }

    private int readBy(int i) {
        switch (opOf[i]) {
            case MOVE:
                return 1 << secondOf[i];
            case ADD:
            case SUB:
            case MUL:
            case LESS:
                return 1 << secondOf[i] | 1 << thirdOf[i];
            case PRINT:
            case IFGOTO:
            case SWITCH:
                return 1 << firstOf[i];
            default:
                return 0;
        }
    }

    private int writtenBy(int i) {
        return opOf[i] <= LESS ? 1 << firstOf[i] : 0;
    }

    private int liveAfter(int i) {
        switch (opOf[i]) {
            case GOTO:
                return liveSetAt(firstOf[i]);
            case IFGOTO:
                return liveSetAt(i + 1) | liveSetAt(secondOf[i]);
            case SWITCH:
                return liveSetAt(i + 1) | liveAtWays(secondOf[i], thirdOf[i]);
            case STOP:
                return 0;
            default:
                return liveSetAt(i + 1);
        }
    }

    private int liveAtWays(int target, int ways) {
        int found = 0;
        for (int way = 0; way < ways; way++) {
            found |= liveSetAt(target + way);
        }
        return found;
    }

    private int liveSetAt(int i) {
        return i < count ? liveSets[i] : 0;
    }
}
