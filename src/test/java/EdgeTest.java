/**
 * Each sentence of the document that names a boundary case, in the document's order, with a test
 * of its own. A sentence is printed if an answer of its test is not as due.
 */
public final class EdgeTest {
    private static final int ADD = BundleMachine.ADD;
    private static final int SUB = BundleMachine.SUB;
    private static final int MUL = BundleMachine.MUL;
    private static final int XOR = BundleMachine.XOR;
    private static final int LESS = BundleMachine.LESS;
    private static final int PICK = BundleMachine.PICK;
    private static final int ADDI = BundleMachine.ADDI;
    private static final int LOAD = BundleMachine.LOAD;
    private static final int STORE = BundleMachine.STORE;
    private static final int BAD = BundleMachine.BAD;
    private static final int FULL = BundleMachine.FULL;
    private static final int MAX = Integer.MAX_VALUE;
    private static final int MIN = Integer.MIN_VALUE;
    private static final int MOST = Machines.MOST;
    private static final int MOST_CALLS = 512;

    private static final int[] VALUES = {0, 1, -1, 127, -128, 255, 32768, 65536, MAX, MIN};
    private static final int[] NO_OP = {-1, -2, 9, 10, 16, 256, MIN, MAX, MIN + 1, MAX - 1};
    private static final int[] NO_REGISTER = {-1, -8, 8, 9, 15, 16, 256, MIN, MAX, MIN + 7, MAX - 7};
    private static final int[] NO_CELL = {-1, -16, 16, 17, 31, 32, 256, MIN, MAX, MIN + 15, MAX - 15};

    /** Register a, n, and the cell that the two name. */
    private static final int[][] ADDRESSES = {{0, 0, 0}, {0, 15, 15}, {0, 16, 0}, {15, 0, 15}, {16, 0, 0},
        {15, 1, 0}, {1, 15, 0}, {8, 7, 15}, {8, 8, 0}, {0, -1, 15}, {-1, 0, 15}, {-1, 1, 0}, {-16, 0, 0},
        {-17, 0, 15}, {0, -16, 0}, {-1, -1, 14}, {31, 32, 15}, {256, 5, 5}, {MAX, 0, 15}, {MAX, 1, 0},
        {MAX, MAX, 14}, {MIN, 0, 0}, {MIN, -1, 15}, {MIN, MIN, 0}, {MIN, MAX, 15}, {0, MAX, 15}, {0, MIN, 0}};

    private interface Call {
        void on(BundleMachine x);
    }

    public static void main(String[] args) {
        whatItIs();
        terms();
        newObject();
        building();
        running();
        valuesOneByOne();
        questions();
        refusals();
        Due.end();
    }

    private static void whatItIs() {
        sentence("What it is: An object is used for at most 512 calls after it has been made",
                EdgeTest::the512thCallAnswers);
        sentence("What it is: what later calls answer is free (but LANGUAGE.md, 7: no call may ever throw)",
                EdgeTest::laterCallsEnd);
    }

    private static void terms() {
        sentence("Terms: There are 8 REGISTERS, 0 to 7, all ints", EdgeTest::eightRegistersOfInts);
        sentence("Terms: 16 memory CELLS, 0 to 15, all ints", EdgeTest::sixteenCellsOfInts);
        sentence("Terms: arithmetic wraps as in Java", EdgeTest::arithmeticWraps);
        sentence("Terms: A program is a list of up to 24 instructions", EdgeTest::upTo24Instructions);
        sentence("Terms: one instruction wholly after the other", EdgeTest::oneWhollyAfterTheOther);
        sentence("Terms: LESS: 1 if register a < register b (signed), else 0", EdgeTest::lessIsSigned);
        sentence("Terms: PICK: register a if register d is not 0, else register b", EdgeTest::pickOnNotZero);
        sentence("Terms: ADDI: register a + the number n", EdgeTest::addiTakesTheNumber);
        sentence("Terms: LOAD: cell (register a + n) & 15", EdgeTest::loadWrapsRoundTheCells);
        sentence("Terms: STORE: cell (register a + n) & 15", EdgeTest::storeWrapsRoundTheCells);
        sentence("Terms: The TIME of a MUL is 3, of a LOAD 2, of all others 1", EdgeTest::times);
        sentence("Terms: HANGS ON an earlier instruction", EdgeTest::hangsOnEarlierOnly);
        sentence("Terms: no instruction between i and j writes that register", EdgeTest::noWriterBetween);
        sentence("Terms: a STORE reads d and a and writes no register", EdgeTest::storeReadsAndWrites);
        sentence("Terms: a PICK reads d, a and b", EdgeTest::pickReads);
        sentence("Terms: plus the greatest weight of the instructions that it hangs on", EdgeTest::greatestOfThree);
        sentence("Terms: just its time if there are none", EdgeTest::justItsTime);
    }

    private static void newObject() {
        sentence("1: An empty program", EdgeTest::newProgramIsEmpty);
        sentence("1: all registers and cells 0", EdgeTest::newValuesAreZero);
    }

    private static void building() {
        sentence("2: Adds an instruction at the end", EdgeTest::emitAddsAtTheEnd);
        sentence("2: Tested in this order: 24 instructions are there: FULL", EdgeTest::fullIsTestedFirst);
        sentence("2: op outside 0..8: BAD", EdgeTest::emitWrongOp);
        sentence("2: d outside 0..7: BAD", EdgeTest::emitWrongD);
        sentence("2: a outside 0..7: BAD", EdgeTest::emitWrongA);
        sentence("2: for ADD to PICK, b outside 0..7: BAD", EdgeTest::emitWrongB);
        sentence("2: n, in the others, is b: any int", EdgeTest::emitAnyNumber);
        sentence("2: Else answers the new number of instructions", EdgeTest::emitAnswersTheNewNumber);
        sentence("3: Takes the last instruction away; answers the new number", EdgeTest::retractFromFullToEmpty);
        sentence("3: BAD if there was none", EdgeTest::retractOfNone);
        sentence("4: Makes the program empty", EdgeTest::dropMakesEmpty);
        sentence("4: answers how many instructions it had", EdgeTest::dropAnswersTheOldNumber);
    }

    private static void running() {
        sentence("5: Runs the program (which stays)", EdgeTest::runKeepsTheProgram);
        sentence("5: Answers the number of instructions", EdgeTest::runAnswersTheNumber);
    }

    private static void valuesOneByOne() {
        sentence("6: 0 for r outside 0..7", EdgeTest::registerOutside);
        sentence("7: Sets a register. Else true", EdgeTest::setRegisterAtTheEnds);
        sentence("7: r outside 0..7: refused, answers false", EdgeTest::setRegisterOutside);
        sentence("8: 0 for cell outside 0..15", EdgeTest::memoryOutside);
        sentence("9: Sets a memory cell. Else true", EdgeTest::setMemoryAtTheEnds);
        sentence("9: cell outside 0..15: refused, answers false", EdgeTest::setMemoryOutside);
    }

    private static void questions() {
        sentence("10: The weight of instruction i (from 0)", EdgeTest::weightsFromZero);
        sentence("10: BAD if there is none", EdgeTest::weightOfNone);
        sentence("11: The greatest weight of an instruction", EdgeTest::heaviestWherever);
        sentence("11: 0 for an empty program", EdgeTest::heaviestOfEmpty);
        sentence("12: The number of couples of instructions i < j", EdgeTest::couplesCountOnce);
        sentence("12: The number of couples: an empty program and one instruction have none", EdgeTest::linksOfNoneAndOne);
    }

    private static void refusals() {
        sentence("13: refused, because a number is not as said there, changes nothing", EdgeTest::wrongNumberChangesNothing);
        sentence("13: refused, because something is not there, changes nothing", EdgeTest::notThereChangesNothing);
        sentence("13: refused, because a limit is reached, changes nothing", EdgeTest::limitChangesNothing);
    }

    private static void sentence(String words, Runnable test) {
        int before = Due.wrong();
        try {
            test.run();
        } catch (RuntimeException thrown) {
            Due.yes("no call throws, but: " + thrown, false);
        }
        if (Due.wrong() != before) {
            System.out.println("-- broken -- " + words);
        }
    }

    // What it is

    private static void the512thCallAnswers() {
        Due.same("512th call emit", afterCalls(MOST_CALLS - 1).emit(STORE, 7, 7, MIN), 3);
        Due.same("512th call retract", afterCalls(MOST_CALLS - 1).retract(), 1);
        Due.same("512th call drop", afterCalls(MOST_CALLS - 1).drop(), 2);
        Due.same("512th call run", afterCalls(MOST_CALLS - 1).run(), 2);
        Due.same("512th call register", afterCalls(MOST_CALLS - 1).register(1), MOST_CALLS - 3);
        Due.yes("512th call setRegister", afterCalls(MOST_CALLS - 1).setRegister(7, 1));
        Due.same("512th call memory", afterCalls(MOST_CALLS - 1).memory(5), MOST_CALLS - 3);
        Due.yes("512th call setMemory", afterCalls(MOST_CALLS - 1).setMemory(15, 1));
        Due.same("512th call weight", afterCalls(MOST_CALLS - 1).weight(1), 2);
        Due.same("512th call heaviest", afterCalls(MOST_CALLS - 1).heaviest(), 2);
        Due.same("512th call links", afterCalls(MOST_CALLS - 1).links(), 1);
        everyCallAnEmitOrRetract();
    }

    /** Two instructions and, with the calls that are left, as many runs: each adds 1 and stores the sum. */
    private static BundleMachine afterCalls(int calls) {
        BundleMachine x = new BundleMachine();
        x.emit(ADDI, 1, 1, 1);
        x.emit(STORE, 1, 0, 5);
        for (int k = 2; k < calls; k++) {
            x.run();
        }
        return x;
    }

    private static void everyCallAnEmitOrRetract() {
        BundleMachine x = new BundleMachine();
        int count = 0;
        boolean up = true;
        for (int call = 1; call <= MOST_CALLS; call++) {
            up = count == 0 || (up && count < MOST);
            count += up ? 1 : -1;
            Due.same("call " + call, up ? x.emit(ADD, 1, 1, 1) : x.retract(), count);
        }
    }

    private static void laterCallsEnd() {
        int[] numbers = {MIN, -1, 0, 7, 8, 15, 16, 23, 24, MAX};
        BundleMachine x = new BundleMachine();
        for (int k = 0; k < 40000; k++) {
            int p = numbers[k % 10];
            int q = numbers[k / 10 % 10];
            int r = numbers[k / 100 % 10];
            x.emit(k % 9, r & 7, k & 7, q & 7);
            x.emit(p, q, r, k);
            x.emit(k % 9, p, q, r);
            x.run();
            x.register(p);
            x.setRegister(q, p);
            x.memory(p);
            x.setMemory(q, r);
            x.weight(p);
            x.heaviest();
            x.links();
            if (k % 7 == 0) {
                x.retract();
            }
            if (k % 101 == 0) {
                x.drop();
                x.retract();
            }
        }
        Due.yes("all calls came to an end", true);
    }

    // Terms

    private static void eightRegistersOfInts() {
        for (int value : VALUES) {
            BundleMachine x = new BundleMachine();
            for (int r = 0; r < 8; r++) {
                x.setRegister(r, value ^ r);
            }
            for (int r = 0; r < 8; r++) {
                Due.same("register " + r + " set to " + (value ^ r), x.register(r), value ^ r);
            }
        }
        for (int r = 0; r < 8; r++) {
            BundleMachine x = new BundleMachine();
            x.setRegister(r, MIN + 1);
            x.emit(ADDI, 7 - r, r, 0);
            x.run();
            Due.same("register " + (7 - r) + " after a copy of " + r, x.register(7 - r), MIN + 1);
        }
    }

    private static void sixteenCellsOfInts() {
        for (int value : VALUES) {
            BundleMachine x = new BundleMachine();
            for (int cell = 0; cell < 16; cell++) {
                x.setMemory(cell, value ^ cell);
            }
            for (int cell = 0; cell < 16; cell++) {
                Due.same("cell " + cell + " set to " + (value ^ cell), x.memory(cell), value ^ cell);
            }
        }
        for (int cell = 0; cell < 16; cell++) {
            BundleMachine x = new BundleMachine();
            x.setMemory(cell, MAX - 1);
            x.emit(LOAD, 3, 0, cell);
            x.emit(STORE, 3, 0, 15 - cell);
            x.run();
            Due.same("cell " + (15 - cell) + " after a copy of " + cell, x.memory(15 - cell), MAX - 1);
        }
    }

    private static void arithmeticWraps() {
        Due.same("MAX + 1", after(ADD, 0, MAX, 1), MIN);
        Due.same("MAX + MAX", after(ADD, 0, MAX, MAX), -2);
        Due.same("MIN + MIN", after(ADD, 0, MIN, MIN), 0);
        Due.same("MIN + -1", after(ADD, 0, MIN, -1), MAX);
        Due.same("MIN - 1", after(SUB, 0, MIN, 1), MAX);
        Due.same("MAX - -1", after(SUB, 0, MAX, -1), MIN);
        Due.same("0 - MIN", after(SUB, 0, 0, MIN), MIN);
        Due.same("MIN - MAX", after(SUB, 0, MIN, MAX), 1);
        Due.same("65536 * 65536", after(MUL, 0, 65536, 65536), 0);
        Due.same("65536 * 32768", after(MUL, 0, 65536, 32768), MIN);
        Due.same("MAX * MAX", after(MUL, 0, MAX, MAX), 1);
        Due.same("MIN * -1", after(MUL, 0, MIN, -1), MIN);
        Due.same("MIN * MIN", after(MUL, 0, MIN, MIN), 0);
        Due.same("MAX ^ MIN", after(XOR, 0, MAX, MIN), -1);
        Due.same("MAX + the number 1", afterAddi(MAX, 1), MIN);
        Due.same("MIN + the number -1", afterAddi(MIN, -1), MAX);
        Due.same("MIN + the number MIN", afterAddi(MIN, MIN), 0);
    }

    private static void upTo24Instructions() {
        BundleMachine x = new BundleMachine();
        for (int k = 0; k < MOST; k++) {
            x.emit(ADDI, 1, 1, 1 << k);
        }
        Due.same("a 25th", x.emit(ADDI, 1, 1, 1 << 24), FULL);
        x.run();
        Due.same("each of the 24 ran once, and no 25th", x.register(1), (1 << 24) - 1);
    }

    private static void oneWhollyAfterTheOther() {
        BundleMachine x = new BundleMachine();
        x.setRegister(1, 10);
        x.setRegister(2, 20);
        x.emit(ADDI, 3, 1, 0);
        x.emit(ADDI, 1, 2, 0);
        x.emit(ADDI, 2, 3, 0);
        x.emit(STORE, 1, 0, 16);
        x.emit(LOAD, 4, 0, 0);
        x.emit(STORE, 2, 0, 32);
        x.emit(LOAD, 5, 0, -16);
        x.emit(MUL, 6, 4, 5);
        x.emit(ADDI, 6, 4, 1);
        x.run();
        Due.same("a read before a later write", x.register(3), 10);
        Due.same("a write after an earlier read", x.register(1), 20);
        Due.same("a read after an earlier write", x.register(2), 10);
        Due.same("a LOAD after the STORE of the same cell", x.register(4), 20);
        Due.same("a LOAD after the second STORE of that cell", x.register(5), 10);
        Due.same("the later of two STOREs stands", x.memory(0), 10);
        Due.same("a quick write stands over an earlier slow one", x.register(6), 21);
    }

    private static void lessIsSigned() {
        for (int left : VALUES) {
            for (int right : VALUES) {
                long gap = (long) left - right;
                Due.same(left + " < " + right, after(LESS, 9, left, right), gap < 0 ? 1 : 0);
            }
        }
        Due.same("LESS of a register and itself", afterOnOne(LESS, 5), 0);
    }

    private static void pickOnNotZero() {
        for (int old : VALUES) {
            Due.same("PICK on " + old, after(PICK, old, 30, 12), old == 0 ? 12 : 30);
            Due.same("PICK of 0 on " + old, after(PICK, old, 0, 12), old == 0 ? 12 : 0);
        }
        Due.same("PICK of a register on itself", afterOnOne(PICK, 5), 5);
    }

    private static void addiTakesTheNumber() {
        for (int n : VALUES) {
            Due.same("5 + the number " + n, afterAddi(5, n), 5 + n);
        }
        BundleMachine x = new BundleMachine();
        x.setRegister(3, 1000);
        x.emit(ADDI, 1, 2, 3);
        x.run();
        Due.same("0 + the number 3, where register 3 is 1000", x.register(1), 3);
    }

    private static void loadWrapsRoundTheCells() {
        for (int[] address : ADDRESSES) {
            BundleMachine x = Machines.sample();
            x.drop();
            x.setRegister(5, address[0]);
            x.emit(LOAD, 6, 5, address[1]);
            x.run();
            String where = address[0] + " + " + address[1];
            Due.same("LOAD at " + where, x.register(6), 100 + address[2]);
            for (int cell = 0; cell < 16; cell++) {
                Due.same("cell " + cell + " after LOAD at " + where, x.memory(cell), 100 + cell);
            }
        }
    }

    private static void storeWrapsRoundTheCells() {
        for (int[] address : ADDRESSES) {
            BundleMachine x = Machines.sample();
            x.drop();
            x.setRegister(5, address[0]);
            x.setRegister(6, -7);
            x.emit(STORE, 6, 5, address[1]);
            x.run();
            String where = address[0] + " + " + address[1];
            Due.same("d after STORE at " + where, x.register(6), -7);
            for (int cell = 0; cell < 16; cell++) {
                int want = cell == address[2] ? -7 : 100 + cell;
                Due.same("cell " + cell + " after STORE at " + where, x.memory(cell), want);
            }
        }
    }

    private static void times() {
        int[] times = {1, 1, 3, 1, 1, 1, 1, 2, 1};
        for (int op = ADD; op <= STORE; op++) {
            BundleMachine x = new BundleMachine();
            x.emit(op, 1, 2, 3);
            Due.same("time of op " + op, x.weight(0), times[op]);
        }
    }

    private static void hangsOnEarlierOnly() {
        BundleMachine x = new BundleMachine();
        x.emit(ADDI, 1, 1, 1);
        Due.same("an instruction does not hang on itself", x.links(), 0);
        Due.same("nor weigh on itself", x.weight(0), 1);
        x.emit(ADDI, 2, 3, 0);
        x.emit(MUL, 3, 4, 4);
        Due.same("nor on a later one that writes what it reads", x.links(), 0);
        Due.same("nor has the later one's weight", x.weight(1), 1);
    }

    private static void noWriterBetween() {
        for (int between = ADD; between <= STORE; between++) {
            BundleMachine x = new BundleMachine();
            x.emit(MUL, 1, 0, 0);
            x.emit(between, 1, 2, 3);
            int linksBefore = x.links();
            int weightBetween = x.weight(1);
            x.emit(ADDI, 4, 1, 0);
            int writer = between == STORE ? 3 : weightBetween;
            Due.same("one link, op " + between + " between", x.links() - linksBefore, 1);
            Due.same("its weight, op " + between + " between", x.weight(2), writer + 1);
        }
        BundleMachine other = new BundleMachine();
        other.emit(MUL, 1, 0, 0);
        other.emit(ADDI, 2, 0, 0);
        other.emit(ADDI, 4, 1, 0);
        Due.same("a writer of another register between", other.links(), 1);
        other.emit(ADDI, 5, 1, 0);
        Due.same("a reader of that register between", other.links(), 2);
        other.emit(ADDI, 1, 1, 0);
        other.emit(ADDI, 1, 1, 0);
        Due.same("j itself writes it", other.links(), 4);
    }

    private static void storeReadsAndWrites() {
        Due.same("STORE after a write of d", linksAfterWriteOf(1, STORE), 1);
        Due.same("STORE after a write of a", linksAfterWriteOf(2, STORE), 1);
        Due.same("STORE after a write of the register with the number n", linksAfterWriteOf(3, STORE), 0);
        BundleMachine x = new BundleMachine();
        x.emit(STORE, 1, 2, 3);
        x.emit(ADD, 4, 1, 2);
        x.emit(ADDI, 4, 3, 0);
        Due.same("nothing hangs on a STORE by a register", x.links(), 0);
        x.emit(LOAD, 5, 2, 3);
        Due.same("nor a LOAD by its cell", x.links(), 0);
        Due.same("nor has that LOAD its weight", x.weight(3), 2);
    }

    private static void pickReads() {
        Due.same("PICK after a write of d", linksAfterWriteOf(1, PICK), 1);
        Due.same("PICK after a write of a", linksAfterWriteOf(2, PICK), 1);
        Due.same("PICK after a write of b", linksAfterWriteOf(3, PICK), 1);
        Due.same("PICK after a write of another", linksAfterWriteOf(4, PICK), 0);
        for (int op = ADD; op < STORE; op++) {
            if (op != PICK) {
                Due.same("op " + op + " does not read d", linksAfterWriteOf(1, op), 0);
            }
        }
        BundleMachine x = new BundleMachine();
        x.emit(PICK, 1, 2, 3);
        x.emit(ADDI, 4, 1, 0);
        Due.same("a PICK writes d", x.links(), 1);
    }

    private static void greatestOfThree() {
        int[][] writes = {{MUL, LOAD, ADD}, {ADD, MUL, LOAD}, {LOAD, ADD, MUL}, {ADD, ADD, ADD}, {ADD, LOAD, ADD}};
        int[] due = {4, 4, 4, 2, 3};
        for (int k = 0; k < writes.length; k++) {
            BundleMachine x = new BundleMachine();
            for (int r = 1; r <= 3; r++) {
                x.emit(writes[k][r - 1], r, 0, 0);
            }
            x.emit(PICK, 1, 2, 3);
            Due.same("PICK after writes of row " + k, x.weight(3), due[k]);
        }
    }

    private static void justItsTime() {
        BundleMachine x = new BundleMachine();
        for (int k = 0; k < MOST - 1; k++) {
            x.emit(MUL, 1, 1, 1);
        }
        x.emit(LOAD, 2, 3, 1);
        Due.same("an instruction that hangs on none, after heavy ones", x.weight(MOST - 1), 2);
        x.retract();
        x.emit(ADD, 1, 2, 3);
        Due.same("one that only writes what heavy ones wrote", x.weight(MOST - 1), 1);
    }

    // Promise 1

    private static void newProgramIsEmpty() {
        Due.same("new run", new BundleMachine().run(), 0);
        Due.same("new drop", new BundleMachine().drop(), 0);
        Due.same("new retract", new BundleMachine().retract(), BAD);
        Due.same("new weight(0)", new BundleMachine().weight(0), BAD);
        Due.same("new heaviest", new BundleMachine().heaviest(), 0);
        Due.same("new links", new BundleMachine().links(), 0);
        Due.same("new emit", new BundleMachine().emit(ADD, 0, 0, 0), 1);
    }

    private static void newValuesAreZero() {
        BundleMachine other = Machines.sample();
        other.run();
        BundleMachine x = new BundleMachine();
        x.run();
        for (int r = 0; r < 8; r++) {
            Due.same("new register " + r, x.register(r), 0);
        }
        for (int cell = 0; cell < 16; cell++) {
            Due.same("new cell " + cell, x.memory(cell), 0);
        }
    }

    // Promises 2 to 4

    private static void emitAddsAtTheEnd() {
        BundleMachine x = new BundleMachine();
        for (int k = 0; k < MOST; k++) {
            x.setRegister(1, 0);
            x.emit(ADDI, 1, 0, k + 100);
            x.run();
            Due.same("the last of " + (k + 1) + " has the last word", x.register(1), k + 100);
        }
    }

    private static void fullIsTestedFirst() {
        BundleMachine x = Machines.filled();
        Due.same("full, all as said", x.emit(ADD, 0, 0, 0), FULL);
        for (int op : NO_OP) {
            Due.same("full, op " + op, x.emit(op, 0, 0, 0), FULL);
        }
        for (int r : NO_REGISTER) {
            Due.same("full, d " + r, x.emit(ADD, r, 0, 0), FULL);
            Due.same("full, a " + r, x.emit(ADD, 0, r, 0), FULL);
            Due.same("full, b " + r, x.emit(ADD, 0, 0, r), FULL);
            Due.same("full, all " + r, x.emit(r < 0 ? r : 9, r, r, r), FULL);
        }
        x.retract();
        Due.same("23 there, op 9", x.emit(9, 0, 0, 0), BAD);
        Due.same("23 there, b 8", x.emit(PICK, 0, 0, 8), BAD);
        Due.same("23 there, all as said", x.emit(PICK, 0, 0, 7), MOST);
    }

    private static void emitWrongOp() {
        for (int op : NO_OP) {
            for (int r = 0; r < 8; r++) {
                Due.same("op " + op, new BundleMachine().emit(op, r, r, r), BAD);
            }
        }
        for (int op = ADD; op <= STORE; op++) {
            Due.same("op " + op, new BundleMachine().emit(op, 0, 0, 0), 1);
        }
    }

    private static void emitWrongD() {
        for (int op = ADD; op <= STORE; op++) {
            for (int r : NO_REGISTER) {
                Due.same("op " + op + " d " + r, new BundleMachine().emit(op, r, 7, 0), BAD);
            }
            for (int r = 0; r < 8; r++) {
                Due.same("op " + op + " d " + r, new BundleMachine().emit(op, r, 7, 0), 1);
            }
        }
    }

    private static void emitWrongA() {
        for (int op = ADD; op <= STORE; op++) {
            for (int r : NO_REGISTER) {
                Due.same("op " + op + " a " + r, new BundleMachine().emit(op, 7, r, 0), BAD);
            }
            for (int r = 0; r < 8; r++) {
                Due.same("op " + op + " a " + r, new BundleMachine().emit(op, 7, r, 0), 1);
            }
        }
    }

    private static void emitWrongB() {
        for (int op = ADD; op <= PICK; op++) {
            for (int r : NO_REGISTER) {
                Due.same("op " + op + " b " + r, new BundleMachine().emit(op, 7, 0, r), BAD);
            }
            for (int r = 0; r < 8; r++) {
                Due.same("op " + op + " b " + r, new BundleMachine().emit(op, 7, 0, r), 1);
            }
        }
    }

    private static void emitAnyNumber() {
        for (int op = ADDI; op <= STORE; op++) {
            for (int n : NO_REGISTER) {
                Due.same("op " + op + " n " + n, new BundleMachine().emit(op, 7, 0, n), 1);
            }
            for (int n : VALUES) {
                Due.same("op " + op + " n " + n, new BundleMachine().emit(op, 0, 7, n), 1);
            }
        }
    }

    private static void emitAnswersTheNewNumber() {
        for (int op = ADD; op <= STORE; op++) {
            BundleMachine x = new BundleMachine();
            for (int k = 1; k <= MOST; k++) {
                Due.same("op " + op + " number " + k, x.emit(op, 1, 2, 3), k);
            }
        }
    }

    private static void retractFromFullToEmpty() {
        BundleMachine x = new BundleMachine();
        for (int k = 0; k < MOST; k++) {
            x.emit(ADDI, 1, 1, 1 << k);
        }
        for (int left = MOST - 1; left >= 0; left--) {
            Due.same("retract to " + left, x.retract(), left);
            x.setRegister(1, 0);
            Due.same("run of " + left, x.run(), left);
            Due.same("the first " + left + " are left", x.register(1), (1 << left) - 1);
            Due.same("heaviest of " + left, x.heaviest(), left);
            Due.same("links of " + left, x.links(), left == 0 ? 0 : left - 1);
            Due.same("weight of what is gone", x.weight(left), BAD);
        }
    }

    private static void retractOfNone() {
        BundleMachine x = new BundleMachine();
        Due.same("retract of a new program", x.retract(), BAD);
        Due.same("retract again", x.retract(), BAD);
        Due.same("emit after that", x.emit(ADD, 0, 0, 0), 1);
        Due.same("retract of the only one", x.retract(), 0);
        Due.same("retract of none", x.retract(), BAD);
        x.emit(ADD, 0, 0, 0);
        x.drop();
        Due.same("retract after drop", x.retract(), BAD);
    }

    private static void dropMakesEmpty() {
        for (int size = 0; size <= MOST; size++) {
            BundleMachine x = Machines.chain(size);
            x.drop();
            Due.same("run after a drop of " + size, x.run(), 0);
            Due.same("register after that", x.register(1), 0);
            Due.same("heaviest after that", x.heaviest(), 0);
            Due.same("links after that", x.links(), 0);
            Due.same("weight(0) after that", x.weight(0), BAD);
            Due.same("emit after that", x.emit(ADD, 2, 1, 1), 1);
            Due.same("links of it", x.links(), 0);
            Due.same("weight of it", x.weight(0), 1);
        }
    }

    private static void dropAnswersTheOldNumber() {
        for (int size = 0; size <= MOST; size++) {
            BundleMachine x = Machines.chain(size);
            Due.same("drop of " + size, x.drop(), size);
            Due.same("drop again", x.drop(), 0);
        }
    }

    // Promise 5

    private static void runKeepsTheProgram() {
        for (int size = 0; size <= MOST; size++) {
            BundleMachine x = Machines.chain(size);
            x.run();
            x.run();
            Due.same("two runs of " + size, x.register(1), 2 * size);
            Due.same("heaviest after them", x.heaviest(), size);
            Due.same("drop after them", x.drop(), size);
        }
    }

    private static void runAnswersTheNumber() {
        for (int size = 0; size <= MOST; size++) {
            BundleMachine x = Machines.chain(size);
            Due.same("run of " + size, x.run(), size);
            Due.same("run of " + size + " again", x.run(), size);
        }
    }

    // Promises 6 to 9

    private static void registerOutside() {
        BundleMachine x = Machines.sample();
        for (int r : NO_REGISTER) {
            Due.same("register(" + r + ")", x.register(r), 0);
        }
        Due.same("register(0)", x.register(0), 1);
        Due.same("register(7)", x.register(7), 8);
    }

    private static void setRegisterAtTheEnds() {
        for (int value : VALUES) {
            BundleMachine x = Machines.sample();
            Due.yes("setRegister(0, " + value + ")", x.setRegister(0, value));
            Due.yes("setRegister(7, " + value + ")", x.setRegister(7, value));
            Due.yes("setRegister(7, " + value + ") again", x.setRegister(7, value));
            Due.same("register 0", x.register(0), value);
            Due.same("register 7", x.register(7), value);
            for (int r = 1; r < 7; r++) {
                Due.same("register " + r + " is left", x.register(r), r + 1);
            }
        }
    }

    private static void setRegisterOutside() {
        for (int r : NO_REGISTER) {
            BundleMachine x = Machines.sample();
            Due.no("setRegister(" + r + ", 99)", x.setRegister(r, 99));
            Machines.sameValues("after setRegister(" + r + ", 99)", x, Machines.sample());
        }
    }

    private static void memoryOutside() {
        BundleMachine x = Machines.sample();
        for (int cell : NO_CELL) {
            Due.same("memory(" + cell + ")", x.memory(cell), 0);
        }
        Due.same("memory(0)", x.memory(0), 100);
        Due.same("memory(15)", x.memory(15), 115);
    }

    private static void setMemoryAtTheEnds() {
        for (int value : VALUES) {
            BundleMachine x = Machines.sample();
            Due.yes("setMemory(0, " + value + ")", x.setMemory(0, value));
            Due.yes("setMemory(15, " + value + ")", x.setMemory(15, value));
            Due.yes("setMemory(15, " + value + ") again", x.setMemory(15, value));
            Due.same("cell 0", x.memory(0), value);
            Due.same("cell 15", x.memory(15), value);
            for (int cell = 1; cell < 15; cell++) {
                Due.same("cell " + cell + " is left", x.memory(cell), 100 + cell);
            }
        }
    }

    private static void setMemoryOutside() {
        for (int cell : NO_CELL) {
            BundleMachine x = Machines.sample();
            Due.no("setMemory(" + cell + ", 99)", x.setMemory(cell, 99));
            Machines.sameValues("after setMemory(" + cell + ", 99)", x, Machines.sample());
        }
    }

    // Promises 10 to 12

    private static void weightsFromZero() {
        for (int size = 1; size <= MOST; size++) {
            BundleMachine x = Machines.chain(size);
            Due.same("weight of the first of " + size, x.weight(0), 1);
            Due.same("weight of the last of " + size, x.weight(size - 1), size);
        }
    }

    private static void weightOfNone() {
        for (int size = 0; size <= MOST; size++) {
            BundleMachine x = Machines.chain(size);
            for (int i : new int[] {-1, size, size + 1, MOST, MOST + 1, MIN, MAX}) {
                Due.same("weight(" + i + ") of " + size, x.weight(i), BAD);
            }
        }
        BundleMachine x = Machines.filled();
        x.retract();
        Due.same("weight(23) after a retract", x.weight(MOST - 1), BAD);
        x.drop();
        Due.same("weight(0) after a drop", x.weight(0), BAD);
    }

    private static void heaviestWherever() {
        for (int place = 0; place < MOST; place++) {
            BundleMachine x = new BundleMachine();
            for (int k = 0; k < MOST; k++) {
                x.emit(k == place ? MUL : ADD, 1, 2, 3);
            }
            Due.same("the MUL at " + place, x.heaviest(), 3);
        }
        BundleMachine chain = new BundleMachine();
        for (int k = 0; k < MOST; k++) {
            chain.emit(MUL, 1, 1, 1);
        }
        Due.same("the greatest that can be", chain.heaviest(), 3 * MOST);
    }

    private static void heaviestOfEmpty() {
        BundleMachine x = new BundleMachine();
        Due.same("heaviest of a new program", x.heaviest(), 0);
        x.emit(MUL, 1, 1, 1);
        x.retract();
        Due.same("heaviest after a retract", x.heaviest(), 0);
        x.emit(MUL, 1, 1, 1);
        x.drop();
        Due.same("heaviest after a drop", x.heaviest(), 0);
    }

    private static void couplesCountOnce() {
        BundleMachine x = new BundleMachine();
        x.emit(ADDI, 1, 0, 1);
        x.emit(ADD, 2, 1, 1);
        Due.same("by a and b at once", x.links(), 1);
        x.emit(STORE, 2, 2, 0);
        Due.same("by d and a at once", x.links(), 2);
        x.emit(PICK, 2, 2, 2);
        Due.same("by d, a and b at once", x.links(), 3);
        BundleMachine fan = new BundleMachine();
        fan.emit(ADDI, 1, 0, 1);
        for (int k = 1; k < MOST; k++) {
            fan.emit(ADD, 2, 1, 0);
        }
        Due.same("many on one", fan.links(), MOST - 1);
        BundleMachine most = new BundleMachine();
        for (int r = 1; r <= 3; r++) {
            most.emit(ADDI, r, 0, 0);
        }
        for (int k = 3; k < MOST; k++) {
            most.emit(PICK, 1 + k % 3, 1 + (k + 1) % 3, 1 + (k + 2) % 3);
        }
        Due.same("one on three, again and again", most.links(), 3 * (MOST - 3));
    }

    private static void linksOfNoneAndOne() {
        Due.same("links of an empty program", new BundleMachine().links(), 0);
        for (int op = ADD; op <= STORE; op++) {
            BundleMachine x = new BundleMachine();
            x.emit(op, 1, 1, 1);
            Due.same("links of one instruction, op " + op, x.links(), 0);
            x.emit(ADD, 2, 1, 1);
            x.retract();
            Due.same("links of one instruction after a retract", x.links(), 0);
            x.drop();
            Due.same("links after a drop", x.links(), 0);
        }
    }

    // Promise 13

    private static void wrongNumberChangesNothing() {
        for (int op : NO_OP) {
            changesNothing("emit op " + op, x -> x.emit(op, 1, 1, 1));
        }
        for (int r : NO_REGISTER) {
            changesNothing("register(" + r + ")", x -> x.register(r));
            changesNothing("setRegister(" + r + ", 99)", x -> x.setRegister(r, 99));
            for (int op = ADD; op <= STORE; op++) {
                int kind = op;
                changesNothing("emit op " + op + " d " + r, x -> x.emit(kind, r, 1, 1));
                changesNothing("emit op " + op + " a " + r, x -> x.emit(kind, 1, r, 1));
            }
            for (int op = ADD; op <= PICK; op++) {
                int kind = op;
                changesNothing("emit op " + op + " b " + r, x -> x.emit(kind, 1, 1, r));
            }
        }
        for (int cell : NO_CELL) {
            changesNothing("memory(" + cell + ")", x -> x.memory(cell));
            changesNothing("setMemory(" + cell + ", 99)", x -> x.setMemory(cell, 99));
        }
    }

    private static void changesNothing(String what, Call refused) {
        changesNothing(what + ", empty", new BundleMachine(), refused, new BundleMachine());
        changesNothing(what + ", three there", Machines.sample(), refused, Machines.sample());
        changesNothing(what + ", full", Machines.filled(), refused, Machines.filled());
    }

    private static void changesNothing(String what, BundleMachine x, Call refused, BundleMachine untouched) {
        refused.on(x);
        Machines.sameState("after " + what, x, untouched);
    }

    private static void notThereChangesNothing() {
        changesNothing("retract of none", new BundleMachine(), x -> x.retract(), new BundleMachine());
        BundleMachine x = Machines.sample();
        BundleMachine untouched = Machines.sample();
        x.drop();
        untouched.drop();
        changesNothing("retract of none, values set", x, y -> y.retract(), untouched);
        for (int i : new int[] {-1, MOST, MOST + 1, MIN, MAX}) {
            changesNothing("weight(" + i + ")", y -> y.weight(i));
        }
        changesNothing("weight(0) of none", new BundleMachine(), y -> y.weight(0), new BundleMachine());
        changesNothing("weight(3) of three", Machines.sample(), y -> y.weight(3), Machines.sample());
    }

    private static void limitChangesNothing() {
        for (int op = ADD; op <= STORE; op++) {
            int kind = op;
            changesNothing("a 25th, op " + op, Machines.filled(), x -> x.emit(kind, 1, 2, 3), Machines.filled());
        }
        changesNothing("a 25th that is wrong too", Machines.filled(), x -> x.emit(9, 8, 8, 8), Machines.filled());
        BundleMachine x = Machines.filled();
        for (int k = 0; k < 100; k++) {
            x.emit(MUL, 1, 1, 1);
        }
        Machines.sameState("after a hundred too many", x, Machines.filled());
    }

    // What several of these share

    private static int after(int op, int old, int left, int right) {
        BundleMachine x = new BundleMachine();
        x.setRegister(1, old);
        x.setRegister(2, left);
        x.setRegister(3, right);
        x.emit(op, 1, 2, 3);
        x.run();
        return x.register(1);
    }

    private static int afterOnOne(int op, int value) {
        BundleMachine x = new BundleMachine();
        x.setRegister(4, value);
        x.emit(op, 4, 4, 4);
        x.run();
        return x.register(4);
    }

    private static int afterAddi(int value, int n) {
        BundleMachine x = new BundleMachine();
        x.setRegister(2, value);
        x.emit(ADDI, 1, 2, n);
        x.run();
        return x.register(1);
    }

    private static int linksAfterWriteOf(int r, int op) {
        BundleMachine x = new BundleMachine();
        x.emit(ADDI, r, 0, 0);
        x.emit(op, 1, 2, 3);
        return x.links();
    }
}
