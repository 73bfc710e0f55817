import java.util.ArrayList;
import java.util.List;

/**
 * Long mixed runs of calls, each answer held against a second reading of the document that
 * takes "hangs on" and "weight" word by word and works everything out anew at each question.
 */
public final class ModelTest {
    private static final int OBJECTS = 2000;
    private static final int CALLS = 512;
    private static final int ENOUGH_SHOWN = 20;
    private static final int[] EDGES = {-2, -1, 0, 7, 8, 9, 15, 16, 24, 31, -17, Integer.MAX_VALUE, Integer.MIN_VALUE};

    private static long seed = 1;

    public static void main(String[] args) {
        for (int object = 0; object < OBJECTS && Due.wrong() < ENOUGH_SHOWN; object++) {
            oneObject(object);
        }
        Due.end();
    }

    private static void oneObject(int object) {
        BundleMachine x = new BundleMachine();
        Model model = new Model();
        // Some objects see few drops, so that long programs come about as well as short ones.
        int dropsIn = 20 + next(200);
        for (int call = 0; call < CALLS; call++) {
            String when = "object " + object + " call " + call + " ";
            if (next(dropsIn) == 0) {
                Due.same(when + "drop()", x.drop(), model.drop());
            } else {
                oneCall(when, x, model);
            }
        }
    }

    private static void oneCall(String when, BundleMachine x, Model model) {
        int p = number(24);
        int q = number(8);
        switch (next(14)) {
            case 0:
                Due.same(when + "retract()", x.retract(), model.retract());
                break;
            case 1:
                Due.same(when + "run()", x.run(), model.run());
                break;
            case 2:
                Due.same(when + "register(" + q + ")", x.register(q), model.register(q));
                break;
            case 3:
                Due.same(when + "setRegister(" + q + ", " + p + ")", x.setRegister(q, p) ? 1 : 0, model.set(model.registers, q, p));
                break;
            case 4:
                Due.same(when + "memory(" + p + ")", x.memory(p), model.memory(p));
                break;
            case 5:
                Due.same(when + "setMemory(" + p + ", " + q + ")", x.setMemory(p, q) ? 1 : 0, model.set(model.cells, p, q));
                break;
            case 6:
                Due.same(when + "weight(" + p + ")", x.weight(p), model.weight(p));
                break;
            case 7:
                Due.same(when + "heaviest()", x.heaviest(), model.heaviest());
                break;
            case 8:
                Due.same(when + "links()", x.links(), model.links());
                break;
            default:
                emit(when, x, model);
        }
    }

    private static void emit(String when, BundleMachine x, Model model) {
        int op = number(9);
        int d = number(8);
        int a = number(8);
        int b = number(8);
        Due.same(when + "emit(" + op + ", " + d + ", " + a + ", " + b + ")", x.emit(op, d, a, b), model.emit(op, d, a, b));
    }

    private static int number(int below) {
        return next(16) == 0 ? EDGES[next(EDGES.length)] : next(below);
    }

    /** A fixed row of numbers, the same at each run of the test. */
    private static int next(int below) {
        seed = seed * 6364136223846793005L + 1442695040888963407L;
        return (int) ((seed >>> 33) % below);
    }

    private static final class Model {
        final int[] registers = new int[8];
        final int[] cells = new int[16];
        final List<int[]> program = new ArrayList<>();

        int emit(int op, int d, int a, int b) {
            if (program.size() == 24) {
                return -2;
            }
            boolean good = within(op, 9) && within(d, 8) && within(a, 8) && (op > 5 || within(b, 8));
            if (!good) {
                return -1;
            }
            program.add(new int[] {op, d, a, b});
            return program.size();
        }

        int retract() {
            if (program.isEmpty()) {
                return -1;
            }
            program.remove(program.size() - 1);
            return program.size();
        }

        int drop() {
            int size = program.size();
            program.clear();
            return size;
        }

        int run() {
            for (int[] in : program) {
                step(in[0], in[1], in[2], in[3]);
            }
            return program.size();
        }

        private void step(int op, int d, int a, int b) {
            int[] r = registers;
            switch (op) {
                case 0 -> r[d] = r[a] + r[b];
                case 1 -> r[d] = r[a] - r[b];
                case 2 -> r[d] = r[a] * r[b];
                case 3 -> r[d] = r[a] ^ r[b];
                case 4 -> r[d] = r[a] < r[b] ? 1 : 0;
                case 5 -> r[d] = r[d] != 0 ? r[a] : r[b];
                case 6 -> r[d] = r[a] + b;
                case 7 -> r[d] = cells[Math.floorMod(r[a] + b, 16)];
                default -> cells[Math.floorMod(r[a] + b, 16)] = r[d];
            }
        }

        int register(int r) {
            return within(r, 8) ? registers[r] : 0;
        }

        int memory(int cell) {
            return within(cell, 16) ? cells[cell] : 0;
        }

        int set(int[] places, int place, int value) {
            if (!within(place, places.length)) {
                return 0;
            }
            places[place] = value;
            return 1;
        }

        int weight(int j) {
            if (!within(j, program.size())) {
                return -1;
            }
            return weights()[j];
        }

        int heaviest() {
            int greatest = 0;
            for (int weight : weights()) {
                greatest = Math.max(greatest, weight);
            }
            return greatest;
        }

        int links() {
            int couples = 0;
            for (int j = 0; j < program.size(); j++) {
                for (int i = 0; i < j; i++) {
                    couples += hangsOn(j, i) ? 1 : 0;
                }
            }
            return couples;
        }

        private int[] weights() {
            int[] weights = new int[program.size()];
            for (int j = 0; j < weights.length; j++) {
                int op = program.get(j)[0];
                int greatest = 0;
                for (int i = 0; i < j; i++) {
                    greatest = hangsOn(j, i) ? Math.max(greatest, weights[i]) : greatest;
                }
                weights[j] = greatest + (op == 2 ? 3 : op == 7 ? 2 : 1);
            }
            return weights;
        }

        private boolean hangsOn(int j, int i) {
            for (int r = 0; r < 8; r++) {
                boolean fresh = readBy(program.get(j)).contains(r) && writtenBy(program.get(i)) == r;
                for (int k = i + 1; k < j; k++) {
                    fresh = fresh && writtenBy(program.get(k)) != r;
                }
                if (fresh) {
                    return true;
                }
            }
            return false;
        }

        private static int writtenBy(int[] in) {
            return in[0] == 8 ? -1 : in[1];
        }

        private static List<Integer> readBy(int[] in) {
            return switch (in[0]) {
                case 5 -> List.of(in[1], in[2], in[3]);
                case 6, 7 -> List.of(in[2]);
                case 8 -> List.of(in[1], in[2]);
                default -> List.of(in[2], in[3]);
            };
        }

        private static boolean within(int number, int below) {
            return number >= 0 && number < below;
        }
    }
}
