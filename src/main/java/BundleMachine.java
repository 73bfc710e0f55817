/**
 * A straight program of up to 24 instructions over 8 registers and 16 memory cells,
 * with the weight of each instruction and the number of links between them.
 */
public final class BundleMachine {
    public static final int ADD = 0;
    public static final int SUB = 1;
    public static final int MUL = 2;
    public static final int XOR = 3;
    public static final int LESS = 4;
    public static final int PICK = 5;
    public static final int ADDI = 6;
    public static final int LOAD = 7;
    public static final int STORE = 8;
    public static final int BAD = -1;
    public static final int FULL = -2;

    private static final int MOST_INSTRUCTIONS = 24;
    private static final int REGISTERS = 8;
    private static final int CELLS = 16;
    private static final int CELL_MASK = CELLS - 1;
    private static final int NO_WRITER = -1;

    private final int[] registers = new int[REGISTERS];
    private final int[] cells = new int[CELLS];

    private final int[] ops = new int[MOST_INSTRUCTIONS];
    private final int[] ds = new int[MOST_INSTRUCTIONS];
    private final int[] as = new int[MOST_INSTRUCTIONS];
    private final int[] bs = new int[MOST_INSTRUCTIONS];
    private int count = 0;

    // An instruction hangs only on earlier ones, and only the last one is ever taken away,
    // so both numbers are settled when it is added and hold for as long as it stays.
    private final int[] weights = new int[MOST_INSTRUCTIONS];
    private final int[] linksBack = new int[MOST_INSTRUCTIONS];

    public BundleMachine() {
    }

    public int emit(int op, int d, int a, int b) {
        if (count >= MOST_INSTRUCTIONS) {
            return FULL;
        }
        if (!isInstruction(op, d, a, b)) {
            return BAD;
        }
        ops[count] = op;
        ds[count] = d;
        as[count] = a;
        bs[count] = b;
        settleWeightAndLinks(count);
        count++;
        return count;
    }

    public int retract() {
        if (count == 0) {
            return BAD;
        }
        count--;
        return count;
    }

    public int drop() {
        int dropped = count;
        count = 0;
        return dropped;
    }

    public int run() {
        for (int i = 0; i < count; i++) {
            perform(i);
        }
        return count;
    }

    public int register(int r) {
        return isRegister(r) ? registers[r] : 0;
    }

    public boolean setRegister(int r, int value) {
        if (!isRegister(r)) {
            return false;
        }
        registers[r] = value;
        return true;
    }

    public int memory(int cell) {
        return isCell(cell) ? cells[cell] : 0;
    }

    public boolean setMemory(int cell, int value) {
        if (!isCell(cell)) {
            return false;
        }
        cells[cell] = value;
        return true;
    }

    public int weight(int i) {
        return i >= 0 && i < count ? weights[i] : BAD;
    }

    public int heaviest() {
        int greatest = 0;
        for (int i = 0; i < count; i++) {
            if (weights[i] > greatest) {
                greatest = weights[i];
            }
        }
        return greatest;
    }

    public int links() {
        int sum = 0;
        for (int i = 0; i < count; i++) {
            sum += linksBack[i];
        }
        return sum;
    }

    private static boolean isRegister(int r) {
        return r >= 0 && r < REGISTERS;
    }

    private static boolean isCell(int cell) {
        return cell >= 0 && cell < CELLS;
    }

    private static boolean isInstruction(int op, int d, int a, int b) {
        if (op < ADD || op > STORE || !isRegister(d) || !isRegister(a)) {
            return false;
        }
        return !namesRegisterInB(op) || isRegister(b);
    }

    private static boolean namesRegisterInB(int op) {
        return op <= PICK;
    }

    private static int timeOf(int op) {
        if (op == MUL) {
            return 3;
        }
        return op == LOAD ? 2 : 1;
    }

    private void perform(int i) {
        int op = ops[i];
        int d = ds[i];
        int left = registers[as[i]];
        int right = namesRegisterInB(op) ? registers[bs[i]] : bs[i];
        if (op == STORE) {
            cells[(left + right) & CELL_MASK] = registers[d];
        } else {
            registers[d] = result(op, registers[d], left, right);
        }
    }

    private int result(int op, int old, int left, int right) {
        switch (op) {
            case SUB:
                return left - right;
            case MUL:
                return left * right;
            case XOR:
                return left ^ right;
            case LESS:
                return left < right ? 1 : 0;
            case PICK:
                return old != 0 ? left : right;
            case LOAD:
                return cells[(left + right) & CELL_MASK];
            default:
                // ADD and ADDI differ only in where the right side came from.
                return left + right;
        }
    }

    // Each instruction writes at most one register, so different registers that j reads
    // have different last writers: going register by register counts no couple twice.
    private void settleWeightAndLinks(int j) {
        int hangsOn = 0;
        int greatest = 0;
        for (int r = 0; r < REGISTERS; r++) {
            int writer = reads(j, r) ? lastWriterBefore(j, r) : NO_WRITER;
            if (writer != NO_WRITER) {
                hangsOn++;
                if (weights[writer] > greatest) {
                    greatest = weights[writer];
                }
            }
        }
        linksBack[j] = hangsOn;
        weights[j] = timeOf(ops[j]) + greatest;
    }

    private boolean reads(int j, int r) {
        int op = ops[j];
        if (as[j] == r || (namesRegisterInB(op) && bs[j] == r)) {
            return true;
        }
        return (op == PICK || op == STORE) && ds[j] == r;
    }

    private int lastWriterBefore(int j, int r) {
        for (int i = j - 1; i >= 0; i--) {
            if (ops[i] != STORE && ds[i] == r) {
                return i;
            }
        }
        return NO_WRITER;
    }
}
