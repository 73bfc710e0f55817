/** Objects in states that several tests start from, and the comparison of two objects. */
final class Machines {
    static final int MOST = 24;

    private Machines() {
    }

    /** All registers and cells differ, and three instructions, of which each hangs on the one before. */
    static BundleMachine sample() {
        BundleMachine x = new BundleMachine();
        for (int r = 0; r < 8; r++) {
            x.setRegister(r, r + 1);
        }
        for (int cell = 0; cell < 16; cell++) {
            x.setMemory(cell, 100 + cell);
        }
        x.emit(BundleMachine.MUL, 1, 2, 3);
        x.emit(BundleMachine.LOAD, 4, 1, 0);
        x.emit(BundleMachine.STORE, 4, 2, 0);
        return x;
    }

    /** As many instructions as there may be, each of which adds 1 to register 1. */
    static BundleMachine filled() {
        return chain(MOST);
    }

    /** That many instructions, each of which adds 1 to register 1 and hangs on the one before. */
    static BundleMachine chain(int size) {
        BundleMachine x = new BundleMachine();
        for (int k = 0; k < size; k++) {
            x.emit(BundleMachine.ADDI, 1, 1, 1);
        }
        return x;
    }

    /** Uses both objects up: what is hidden shows only by running, adding and taking away. */
    static void sameState(String when, BundleMachine x, BundleMachine want) {
        sameValues(when, x, want);
        Due.same(when + ", links", x.links(), want.links());
        Due.same(when + ", heaviest", x.heaviest(), want.heaviest());
        for (int i = 0; i < MOST; i++) {
            Due.same(when + ", weight " + i, x.weight(i), want.weight(i));
        }
        Due.same(when + ", run", x.run(), want.run());
        sameValues(when + " and a run", x, want);
        Due.same(when + ", emit", x.emit(BundleMachine.PICK, 1, 2, 4), want.emit(BundleMachine.PICK, 1, 2, 4));
        Due.same(when + " and an emit, links", x.links(), want.links());
        Due.same(when + " and an emit, heaviest", x.heaviest(), want.heaviest());
        Due.same(when + ", retract", x.retract(), want.retract());
        Due.same(when + ", drop", x.drop(), want.drop());
    }

    static void sameValues(String when, BundleMachine x, BundleMachine want) {
        for (int r = 0; r < 8; r++) {
            Due.same(when + ", register " + r, x.register(r), want.register(r));
        }
        for (int cell = 0; cell < 16; cell++) {
            Due.same(when + ", cell " + cell, x.memory(cell), want.memory(cell));
        }
    }
}
