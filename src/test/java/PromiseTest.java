/** Each promise of the document by its number: ordinary inputs, named edges and wrong inputs. */
public final class PromiseTest {
    private static final int ADD = BundleMachine.ADD;
    private static final int SUB = BundleMachine.SUB;
    private static final int MUL = BundleMachine.MUL;
    private static final int XOR = BundleMachine.XOR;
    private static final int LESS = BundleMachine.LESS;
    private static final int PICK = BundleMachine.PICK;
    private static final int ADDI = BundleMachine.ADDI;
    private static final int LOAD = BundleMachine.LOAD;
    private static final int STORE = BundleMachine.STORE;
    private static final int BAD = BundleMachine.BAD;
    private static final int FULL = BundleMachine.FULL;
    private static final int MAX = Integer.MAX_VALUE;
    private static final int MIN = Integer.MIN_VALUE;
    private static final int MOST = 24;
    private static final int[] NO_REGISTER = {-1, 8, 9, 16, MIN, MAX};
    private static final int[] NO_CELL = {-1, 16, 17, 32, MIN, MAX};

    public static void main(String[] args) {
        promise1NewObject();
        promise1ObjectsAreApart();
        promise2EmitCounts();
        promise2EmitWrongInputs();
        promise2EmitTakesAnyNumber();
        promise2EmitFullComesFirst();
        promise3Retract();
        promise3RetractTakesTheLast();
        promise4Drop();
        promises3And4LeaveTheValues();
        promise5RunEachInstruction();
        promise5RunWraps();
        promise5RunCellAddresses();
        promise5RunInOrder();
        promise5RunKeepsTheProgram();
        promises6And7Registers();
        promises8And9Memory();
        promise10Times();
        promise10Weight();
        promise10WeightWrongInputs();
        promise10WeightAfterRetract();
        promise11Heaviest();
        promise12LinksOfEachInstruction();
        promise12Links();
        promise12LinksAreCouples();
        promise13RefusedCallsChangeNothing();
        promise13RefusedWhenFull();
        promise13RefusedWhenEmpty();
        Due.end();
    }

    private static void promise1NewObject() {
        BundleMachine x = new BundleMachine();
        for (int r = 0; r < 8; r++) {
            Due.same("1: new register " + r, x.register(r), 0);
        }
        for (int cell = 0; cell < 16; cell++) {
            Due.same("1: new cell " + cell, x.memory(cell), 0);
        }
        Due.same("1: new heaviest", x.heaviest(), 0);
        Due.same("1: new links", x.links(), 0);
        Due.same("1: new weight(0)", x.weight(0), BAD);
        Due.same("1: new run", x.run(), 0);
        Due.same("1: new retract", x.retract(), BAD);
        Due.same("1: new drop", x.drop(), 0);
    }

    private static void promise1ObjectsAreApart() {
        BundleMachine x = new BundleMachine();
        x.setRegister(3, 5);
        x.setMemory(3, 5);
        x.emit(ADDI, 0, 0, 1);
        BundleMachine y = new BundleMachine();
        Due.same("1: second object's register", y.register(3), 0);
        Due.same("1: second object's cell", y.memory(3), 0);
        Due.same("1: second object's program", y.run(), 0);
        y.setRegister(3, 6);
        Due.same("1: first object's register", x.register(3), 5);
        Due.same("1: first object's program", x.run(), 1);
    }

    private static void promise2EmitCounts() {
        BundleMachine x = new BundleMachine();
        for (int k = 0; k < MOST; k++) {
            Due.same("2: emit number " + k, x.emit(k % 9, k % 8, 7 - k % 8, k % 8), k + 1);
        }
        Due.same("2: emit number 24", x.emit(ADD, 0, 0, 0), FULL);
        Due.same("2: the program after FULL", x.run(), MOST);
        x.retract();
        Due.same("2: emit after retract", x.emit(ADD, 0, 0, 0), MOST);
        x.drop();
        Due.same("2: emit after drop", x.emit(ADD, 0, 0, 0), 1);
    }

    private static void promise2EmitWrongInputs() {
        BundleMachine x = new BundleMachine();
        for (int op : new int[] {-1, -2, 9, 10, MIN, MAX}) {
            Due.same("2: emit op " + op, x.emit(op, 0, 0, 0), BAD);
        }
        for (int op = ADD; op <= STORE; op++) {
            for (int r : NO_REGISTER) {
                Due.same("2: op " + op + " d " + r, x.emit(op, r, 0, 0), BAD);
                Due.same("2: op " + op + " a " + r, x.emit(op, 0, r, 0), BAD);
            }
        }
        for (int op = ADD; op <= PICK; op++) {
            for (int r : NO_REGISTER) {
                Due.same("2: op " + op + " b " + r, x.emit(op, 0, 0, r), BAD);
            }
        }
        Due.same("2: the program after BAD", x.run(), 0);
        Due.same("2: emit after BAD", x.emit(ADD, 7, 7, 7), 1);
    }

    private static void promise2EmitTakesAnyNumber() {
        BundleMachine x = new BundleMachine();
        int count = 0;
        for (int op = ADDI; op <= STORE; op++) {
            for (int n : NO_REGISTER) {
                count++;
                Due.same("2: op " + op + " n " + n, x.emit(op, 7, 7, n), count);
            }
        }
    }

    private static void promise2EmitFullComesFirst() {
        BundleMachine x = Machines.filled();
        Due.same("2: full, wrong op", x.emit(9, 0, 0, 0), FULL);
        Due.same("2: full, wrong d", x.emit(ADD, 8, 0, 0), FULL);
        Due.same("2: full, wrong a", x.emit(ADD, 0, -1, 0), FULL);
        Due.same("2: full, wrong b", x.emit(ADD, 0, 0, 8), FULL);
    }

    private static void promise3Retract() {
        BundleMachine x = Machines.filled();
        for (int left = MOST - 1; left >= 0; left--) {
            Due.same("3: retract to " + left, x.retract(), left);
        }
        Due.same("3: retract of nothing", x.retract(), BAD);
        Due.same("3: retract of nothing again", x.retract(), BAD);
        Due.same("3: emit after that", x.emit(ADD, 0, 0, 0), 1);
    }

    private static void promise3RetractTakesTheLast() {
        BundleMachine x = new BundleMachine();
        x.emit(ADDI, 1, 0, 10);
        x.emit(ADDI, 2, 0, 20);
        x.emit(ADDI, 3, 0, 30);
        Due.same("3: retract", x.retract(), 2);
        x.run();
        Due.same("3: first stays", x.register(1), 10);
        Due.same("3: second stays", x.register(2), 20);
        Due.same("3: third is gone", x.register(3), 0);
        x.retract();
        Due.same("3: registers stay as they are", x.register(2), 20);
    }

    private static void promise4Drop() {
        BundleMachine x = new BundleMachine();
        Due.same("4: drop of nothing", x.drop(), 0);
        x.setMemory(4, 44);
        x.emit(ADDI, 1, 1, 10);
        x.emit(MUL, 2, 1, 1);
        x.run();
        Due.same("4: drop of two", x.drop(), 2);
        Due.same("4: drop again", x.drop(), 0);
        Due.same("4: run after drop", x.run(), 0);
        Due.same("4: register after drop", x.register(1), 10);
        Due.same("4: cell after drop", x.memory(4), 44);
        Due.same("4: heaviest after drop", x.heaviest(), 0);
        Due.same("4: links after drop", x.links(), 0);
        Due.same("4: weight after drop", x.weight(0), BAD);
        Due.same("4: retract after drop", x.retract(), BAD);
        x.emit(ADD, 3, 1, 2);
        Due.same("4: no link to what was dropped", x.links(), 0);
        Due.same("4: no weight of what was dropped", x.weight(0), 1);
        Due.same("4: drop of a full program", Machines.filled().drop(), MOST);
    }

    private static void promises3And4LeaveTheValues() {
        BundleMachine retracted = Machines.sample();
        retracted.retract();
        Machines.sameValues("3: after retract", retracted, Machines.sample());
        BundleMachine dropped = Machines.sample();
        dropped.drop();
        Machines.sameValues("4: after drop", dropped, Machines.sample());
    }

    private static void promise5RunEachInstruction() {
        Due.same("5: ADD", after(ADD, 0, 30, 12), 42);
        Due.same("5: SUB", after(SUB, 0, 30, 12), 18);
        Due.same("5: MUL", after(MUL, 0, 30, -12), -360);
        Due.same("5: XOR", after(XOR, 0, 12, 10), 6);
        Due.same("5: LESS of less", after(LESS, 9, -1, 0), 1);
        Due.same("5: LESS of equal", after(LESS, 9, 4, 4), 0);
        Due.same("5: LESS of greater", after(LESS, 9, 5, 4), 0);
        Due.same("5: LESS of the ends", after(LESS, 9, MIN, MAX), 1);
        Due.same("5: LESS of the ends turned", after(LESS, 9, MAX, MIN), 0);
        Due.same("5: PICK on 1", after(PICK, 1, 30, 12), 30);
        Due.same("5: PICK on -1", after(PICK, -1, 30, 12), 30);
        Due.same("5: PICK on MIN", after(PICK, MIN, 30, 12), 30);
        Due.same("5: PICK on 0", after(PICK, 0, 30, 12), 12);
        BundleMachine x = new BundleMachine();
        x.setRegister(1, 7);
        x.setRegister(3, 77);
        x.setMemory(9, 99);
        x.emit(ADDI, 2, 1, -20);
        x.emit(LOAD, 4, 1, 2);
        x.emit(STORE, 3, 1, 3);
        Due.same("5: run of three", x.run(), 3);
        Due.same("5: ADDI", x.register(2), -13);
        Due.same("5: LOAD", x.register(4), 99);
        Due.same("5: LOAD leaves the cell", x.memory(9), 99);
        Due.same("5: STORE", x.memory(10), 77);
        Due.same("5: STORE leaves d", x.register(3), 77);
        Due.same("5: a is left", x.register(1), 7);
    }

    private static void promise5RunWraps() {
        Due.same("5: ADD wraps", after(ADD, 0, MAX, 1), MIN);
        Due.same("5: SUB wraps", after(SUB, 0, MIN, 1), MAX);
        Due.same("5: MUL wraps", after(MUL, 0, 65536, 65536), 0);
        Due.same("5: MUL wraps at MIN", after(MUL, 0, MIN, -1), MIN);
        BundleMachine x = new BundleMachine();
        x.setRegister(1, MAX);
        x.emit(ADDI, 1, 1, MAX);
        x.run();
        Due.same("5: ADDI wraps", x.register(1), -2);
    }

    private static void promise5RunCellAddresses() {
        int[][] addresses = {{0, 0, 0}, {15, 0, 15}, {16, 0, 0}, {15, 1, 0}, {0, -1, 15}, {-17, 0, 15},
            {3, 32, 3}, {MAX, 1, 0}, {MAX, 0, 15}, {MIN, -1, 15}, {MAX, MAX, 14}, {-5, 2, 13}};
        for (int[] address : addresses) {
            BundleMachine x = new BundleMachine();
            for (int cell = 0; cell < 16; cell++) {
                x.setMemory(cell, 100 + cell);
            }
            x.setRegister(1, address[0]);
            x.setRegister(2, -7);
            x.emit(LOAD, 3, 1, address[1]);
            x.emit(STORE, 2, 1, address[1]);
            x.run();
            String where = address[0] + " + " + address[1];
            Due.same("5: LOAD at " + where, x.register(3), 100 + address[2]);
            for (int cell = 0; cell < 16; cell++) {
                int want = cell == address[2] ? -7 : 100 + cell;
                Due.same("5: cell " + cell + " after STORE at " + where, x.memory(cell), want);
            }
        }
    }

    private static void promise5RunInOrder() {
        BundleMachine x = new BundleMachine();
        x.setRegister(1, 3);
        x.setRegister(2, 4);
        x.emit(XOR, 1, 1, 2);
        x.emit(XOR, 2, 1, 2);
        x.emit(XOR, 1, 1, 2);
        x.emit(STORE, 1, 0, 5);
        x.emit(LOAD, 3, 0, 5);
        x.emit(STORE, 2, 0, 5);
        x.emit(MUL, 4, 3, 3);
        x.emit(ADDI, 3, 3, 1);
        x.run();
        Due.same("5: exchanged 1", x.register(1), 4);
        Due.same("5: exchanged 2", x.register(2), 3);
        Due.same("5: LOAD between two STOREs, then ADDI", x.register(3), 5);
        Due.same("5: MUL before the ADDI", x.register(4), 16);
        Due.same("5: the later STORE stands", x.memory(5), 3);
        BundleMachine y = new BundleMachine();
        y.setRegister(6, 5);
        y.emit(MUL, 6, 6, 6);
        y.emit(SUB, 6, 6, 6);
        y.emit(PICK, 6, 6, 7);
        y.run();
        Due.same("5: d, a and b the same register", y.register(6), 0);
    }

    private static void promise5RunKeepsTheProgram() {
        BundleMachine x = new BundleMachine();
        Due.same("5: run of nothing", x.run(), 0);
        x.emit(ADDI, 1, 1, 3);
        x.emit(ADD, 2, 2, 1);
        for (int k = 1; k <= 5; k++) {
            Due.same("5: run " + k, x.run(), 2);
            Due.same("5: sum in 1 after run " + k, x.register(1), 3 * k);
            Due.same("5: sum in 2 after run " + k, x.register(2), 3 * k * (k + 1) / 2);
        }
        Due.same("5: links after runs", x.links(), 1);
        Due.same("5: emit after runs", x.emit(ADD, 0, 0, 0), 3);
        BundleMachine full = Machines.filled();
        Due.same("5: run of a full program", full.run(), MOST);
        Due.same("5: all 24 ran", full.register(1), MOST);
    }

    private static void promises6And7Registers() {
        BundleMachine x = new BundleMachine();
        for (int r = 0; r < 8; r++) {
            Due.yes("7: setRegister " + r, x.setRegister(r, 10 * r - 35));
        }
        for (int r : NO_REGISTER) {
            Due.no("7: setRegister " + r, x.setRegister(r, 99));
            Due.same("6: register " + r, x.register(r), 0);
        }
        for (int r = 0; r < 8; r++) {
            Due.same("6: register " + r, x.register(r), 10 * r - 35);
        }
        Due.yes("7: set to MIN", x.setRegister(7, MIN));
        Due.same("6: is MIN", x.register(7), MIN);
        Due.yes("7: set to MAX", x.setRegister(7, MAX));
        Due.same("6: is MAX", x.register(7), MAX);
        Due.yes("7: set to 0", x.setRegister(7, 0));
        Due.same("6: is 0", x.register(7), 0);
        Due.same("6: the cells are apart", x.memory(0), 0);
    }

    private static void promises8And9Memory() {
        BundleMachine x = new BundleMachine();
        for (int cell = 0; cell < 16; cell++) {
            Due.yes("9: setMemory " + cell, x.setMemory(cell, 10 * cell - 75));
        }
        for (int cell : NO_CELL) {
            Due.no("9: setMemory " + cell, x.setMemory(cell, 99));
            Due.same("8: memory " + cell, x.memory(cell), 0);
        }
        for (int cell = 0; cell < 16; cell++) {
            Due.same("8: memory " + cell, x.memory(cell), 10 * cell - 75);
        }
        Due.yes("9: set to MIN", x.setMemory(15, MIN));
        Due.same("8: is MIN", x.memory(15), MIN);
        Due.yes("9: set to MAX", x.setMemory(15, MAX));
        Due.same("8: is MAX", x.memory(15), MAX);
        Due.yes("9: set to 0", x.setMemory(15, 0));
        Due.same("8: is 0", x.memory(15), 0);
        Due.same("8: the registers are apart", x.register(0), 0);
    }

    private static void promise10Times() {
        int[] times = {1, 1, 3, 1, 1, 1, 1, 2, 1};
        for (int op = ADD; op <= STORE; op++) {
            BundleMachine x = new BundleMachine();
            x.emit(op, 1, 2, 3);
            Due.same("10: time of op " + op, x.weight(0), times[op]);
        }
    }

    private static void promise10Weight() {
        BundleMachine x = new BundleMachine();
        x.emit(MUL, 1, 0, 0);
        x.emit(LOAD, 2, 0, 0);
        x.emit(ADD, 3, 1, 2);
        x.emit(ADD, 3, 2, 1);
        x.emit(ADDI, 1, 0, 0);
        x.emit(ADD, 4, 1, 2);
        x.emit(STORE, 3, 4, 0);
        x.emit(LOAD, 5, 0, 0);
        x.emit(MUL, 6, 3, 3);
        int[] due = {3, 2, 4, 4, 1, 3, 5, 2, 7};
        for (int i = 0; i < due.length; i++) {
            Due.same("10: weight(" + i + ")", x.weight(i), due[i]);
        }
        x.run();
        Due.same("10: weight after a run", x.weight(8), 7);
        BundleMachine chain = new BundleMachine();
        for (int i = 0; i < MOST; i++) {
            chain.emit(MUL, 1, 1, 1);
        }
        for (int i = 0; i < MOST; i++) {
            Due.same("10: chain weight(" + i + ")", chain.weight(i), 3 * (i + 1));
        }
        Due.same("11: chain heaviest", chain.heaviest(), 72);
        Due.same("12: chain links", chain.links(), MOST - 1);
    }

    private static void promise10WeightWrongInputs() {
        BundleMachine x = new BundleMachine();
        Due.same("10: weight(0) of nothing", x.weight(0), BAD);
        x.emit(MUL, 0, 0, 0);
        x.emit(MUL, 0, 0, 0);
        for (int i : new int[] {-1, 2, 3, 23, 24, 25, MIN, MAX}) {
            Due.same("10: weight(" + i + ") of two", x.weight(i), BAD);
        }
        BundleMachine full = Machines.filled();
        Due.same("10: weight(23) of a full program", full.weight(23), MOST);
        for (int i : new int[] {-1, 24, 25, MIN, MAX}) {
            Due.same("10: weight(" + i + ") of a full program", full.weight(i), BAD);
        }
    }

    private static void promise10WeightAfterRetract() {
        BundleMachine x = new BundleMachine();
        x.emit(LOAD, 1, 0, 0);
        x.emit(MUL, 1, 1, 1);
        x.retract();
        Due.same("10: weight of what was retracted", x.weight(1), BAD);
        Due.same("11: heaviest after retract", x.heaviest(), 2);
        Due.same("12: links after retract", x.links(), 0);
        x.emit(ADDI, 2, 1, 0);
        Due.same("10: weight on what stayed", x.weight(1), 3);
        Due.same("12: links to what stayed", x.links(), 1);
    }

    private static void promise11Heaviest() {
        BundleMachine x = new BundleMachine();
        Due.same("11: of nothing", x.heaviest(), 0);
        x.emit(ADD, 1, 0, 0);
        Due.same("11: of one ADD", x.heaviest(), 1);
        x.emit(MUL, 2, 1, 1);
        Due.same("11: the last", x.heaviest(), 4);
        x.emit(LOAD, 3, 0, 0);
        Due.same("11: not the last", x.heaviest(), 4);
        x.emit(STORE, 2, 3, 0);
        Due.same("11: a STORE", x.heaviest(), 5);
        x.drop();
        x.emit(MUL, 0, 0, 0);
        x.emit(ADDI, 1, 1, 0);
        Due.same("11: the first", x.heaviest(), 3);
    }

    /** What an instruction of each kind with d 1, a 2, b 3 hangs on when all registers were written. */
    private static void promise12LinksOfEachInstruction() {
        boolean[] readsD = {false, false, false, false, false, true, false, false, true};
        for (int op = ADD; op <= STORE; op++) {
            Due.same("12: op " + op + " after a write of d", linksAfterWriteOf(1, op), readsD[op] ? 1 : 0);
            Due.same("12: op " + op + " after a write of a", linksAfterWriteOf(2, op), 1);
            Due.same("12: op " + op + " after a write of b", linksAfterWriteOf(3, op), op <= PICK ? 1 : 0);
            Due.same("12: op " + op + " after a write of another", linksAfterWriteOf(4, op), 0);
            BundleMachine x = new BundleMachine();
            x.emit(op, 1, 2, 3);
            x.emit(ADDI, 5, 1, 0);
            Due.same("12: a read of d after op " + op, x.links(), op == STORE ? 0 : 1);
        }
    }

    private static int linksAfterWriteOf(int r, int op) {
        BundleMachine x = new BundleMachine();
        x.emit(ADDI, r, 0, 0);
        x.emit(op, 1, 2, 3);
        return x.links();
    }

    private static void promise12Links() {
        BundleMachine x = new BundleMachine();
        Due.same("12: of nothing", x.links(), 0);
        x.emit(ADDI, 1, 0, 1);
        Due.same("12: of one", x.links(), 0);
        x.emit(ADDI, 1, 0, 2);
        Due.same("12: a write over a write", x.links(), 0);
        x.emit(ADDI, 2, 1, 0);
        Due.same("12: only the last writer", x.links(), 1);
        x.emit(STORE, 1, 2, 0);
        Due.same("12: a STORE reads d and a", x.links(), 3);
        x.emit(ADDI, 3, 1, 0);
        Due.same("12: a STORE writes no register", x.links(), 4);
        x.emit(LOAD, 4, 0, 0);
        Due.same("12: a LOAD does not hang on a STORE", x.links(), 4);
        x.emit(PICK, 4, 1, 3);
        Due.same("12: a PICK reads d, a and b", x.links(), 7);
        x.emit(ADD, 5, 4, 4);
        Due.same("12: the PICK wrote d", x.links(), 8);
        x.emit(ADD, 5, 5, 5);
        Due.same("12: reads and writes the same register", x.links(), 9);
        x.emit(ADDI, 6, 7, 5);
        Due.same("12: the number of an ADDI is no register", x.links(), 9);
    }

    private static void promise12LinksAreCouples() {
        BundleMachine x = new BundleMachine();
        x.emit(ADDI, 1, 0, 1);
        x.emit(PICK, 1, 1, 1);
        Due.same("12: one couple by d, a and b at once", x.links(), 1);
        x.emit(STORE, 1, 1, 1);
        Due.same("12: one couple by d and a at once", x.links(), 2);
        BundleMachine most = new BundleMachine();
        most.emit(ADDI, 1, 0, 0);
        most.emit(ADDI, 2, 0, 0);
        most.emit(ADDI, 3, 0, 0);
        for (int k = 3; k < MOST; k++) {
            most.emit(PICK, 1 + k % 3, 1 + (k + 1) % 3, 1 + (k + 2) % 3);
        }
        Due.same("12: three for each PICK", most.links(), 3 * (MOST - 3));
    }

    private static void promise13RefusedCallsChangeNothing() {
        BundleMachine x = Machines.sample();
        x.emit(-1, 5, 1, 1);
        x.emit(9, 5, 1, 1);
        x.emit(ADD, 8, 1, 1);
        x.emit(LOAD, 5, -1, 1);
        x.emit(PICK, 5, 1, 8);
        x.setRegister(-1, 99);
        x.setRegister(8, 99);
        x.setMemory(-1, 99);
        x.setMemory(16, 99);
        x.register(8);
        x.memory(16);
        x.weight(-1);
        x.weight(3);
        Machines.sameState("13: after refused calls", x, Machines.sample());
    }

    private static void promise13RefusedWhenFull() {
        BundleMachine x = Machines.filled();
        x.emit(ADDI, 1, 1, 1000);
        x.emit(MUL, 1, 1, 1);
        Machines.sameState("13: after FULL", x, Machines.filled());
    }

    private static void promise13RefusedWhenEmpty() {
        BundleMachine x = new BundleMachine();
        x.retract();
        x.retract();
        x.emit(ADD, 0, 0, 8);
        Machines.sameState("13: after BAD on an empty program", x, new BundleMachine());
    }

    private static int after(int op, int old, int left, int right) {
        BundleMachine x = new BundleMachine();
        x.setRegister(1, old);
        x.setRegister(2, left);
        x.setRegister(3, right);
        x.emit(op, 1, 2, 3);
        x.run();
        Due.same("5: a is left by op " + op, x.register(2), left);
        Due.same("5: b is left by op " + op, x.register(3), right);
        return x.register(1);
    }
}
