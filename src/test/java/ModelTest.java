import java.util.ArrayDeque;
import java.util.ArrayList;
import java.util.Arrays;
import java.util.HashSet;
import java.util.List;
import java.util.Set;
import java.util.TreeMap;

/**
 * Runs of 512 calls on a heap and on a model that says the document's terms plainly: its objects are
 * never reused, and whether they are needed only counts. The calls are the same each time.
 */
public final class ModelTest {
    private static final class Thing {
        int number;
        final Thing[] fields = new Thing[2];
        boolean saved;
        int savedNumber;
        final Thing[] savedFields = new Thing[2];
    }

    private static final class Model {
        final Thing[] registers = new Thing[4];
        final Thing[] roots = new Thing[3];
        final Thing[] savedRoots = new Thing[3];
        final List<Thing> all = new ArrayList<>();

        int make(int g, int number) {
            if (outside(g, 4)) return PersistentHeap.BAD;
            if (needed() == 24) return PersistentHeap.FULL;
            Thing made = new Thing();
            made.number = number;
            all.add(made);
            registers[g] = made;
            return PersistentHeap.OK;
        }

        int fromRoot(int g, int r) {
            if (outside(g, 4) || outside(r, 3)) return PersistentHeap.BAD;
            registers[g] = roots[r];
            return PersistentHeap.OK;
        }

        int toRoot(int r, int g) {
            if (outside(g, 4) || outside(r, 3)) return PersistentHeap.BAD;
            roots[r] = registers[g];
            return PersistentHeap.OK;
        }

        int fromField(int g, int s, int f) {
            if (outside(g, 4) || outside(s, 4) || outside(f, 2)) return PersistentHeap.BAD;
            if (registers[s] == null) return PersistentHeap.NOTHING;
            registers[g] = registers[s].fields[f];
            return PersistentHeap.OK;
        }

        int toField(int s, int f, int g) {
            if (outside(g, 4) || outside(s, 4) || outside(f, 2)) return PersistentHeap.BAD;
            if (registers[s] == null) return PersistentHeap.NOTHING;
            registers[s].fields[f] = registers[g];
            return PersistentHeap.OK;
        }

        int release(int g) {
            if (outside(g, 4)) return PersistentHeap.BAD;
            registers[g] = null;
            return PersistentHeap.OK;
        }

        int number(int g) {
            return outside(g, 4) || registers[g] == null ? 0 : registers[g].number;
        }

        int setNumber(int g, int number) {
            if (outside(g, 4)) return PersistentHeap.BAD;
            if (registers[g] == null) return PersistentHeap.NOTHING;
            registers[g].number = number;
            return PersistentHeap.OK;
        }

        boolean same(int g, int h) {
            return !outside(g, 4) && !outside(h, 4) && registers[g] == registers[h];
        }

        int save() {
            System.arraycopy(roots, 0, savedRoots, 0, 3);
            for (Thing thing : all) {
                thing.saved = true;
                thing.savedNumber = thing.number;
                System.arraycopy(thing.fields, 0, thing.savedFields, 0, 2);
            }
            return closure(false, roots);
        }

        int back() {
            System.arraycopy(savedRoots, 0, roots, 0, 3);
            for (Thing thing : all) {
                if (thing.saved) {
                    thing.number = thing.savedNumber;
                    System.arraycopy(thing.savedFields, 0, thing.fields, 0, 2);
                }
            }
            return closure(false, roots);
        }

        int crash(int when) {
            if (outside(when, 3)) return PersistentHeap.BAD;
            if (when == 2) save();
            Arrays.fill(registers, null);
            return back();
        }

        int needed() {
            return closure(true, registers, roots, savedRoots);
        }

        int reach(int r) {
            return outside(r, 3) ? PersistentHeap.BAD : closure(false, new Thing[] {roots[r]});
        }

        private static boolean outside(int value, int bound) {
            return value < 0 || value >= bound;
        }

        private static int closure(boolean overSavedFields, Thing[]... starts) {
            Set<Thing> come = new HashSet<>();
            ArrayDeque<Thing> ahead = new ArrayDeque<>();
            for (Thing[] start : starts) {
                addAll(ahead, start);
            }
            while (!ahead.isEmpty()) {
                Thing thing = ahead.pop();
                if (come.add(thing)) {
                    addAll(ahead, thing.fields);
                    if (overSavedFields) addAll(ahead, thing.savedFields);
                }
            }
            return come.size();
        }

        private static void addAll(ArrayDeque<Thing> ahead, Thing[] things) {
            for (Thing thing : things) {
                if (thing != null) ahead.push(thing);
            }
        }
    }

    private static final int CALLS = 512;
    private static final int RUNS = 4000;

    private static long seed = 1;
    private static int wrong = 0;
    private static PersistentHeap heap;
    private static Model model;
    private static int calls;
    private static int run;
    private static final TreeMap<String, Integer> answers = new TreeMap<>();

    private static int pick(int bound) {
        seed = seed * 6364136223846793005L + 1442695040888963407L;
        return (int) ((seed >>> 33) % bound);
    }

    /** Mostly inside 0..bound-1, now and then just or far outside. */
    private static int argument(int bound) {
        if (pick(40) != 0) return pick(bound);
        int[] outside = {-1, bound, Integer.MIN_VALUE, Integer.MAX_VALUE};
        return outside[pick(4)];
    }

    private static int anyNumber() {
        int[] numbers = {Integer.MIN_VALUE, -3, -2, -1, 0, Integer.MAX_VALUE};
        return pick(4) == 0 ? numbers[pick(6)] : pick(1000);
    }

    private static void due(String method, int got, int want, int... arguments) {
        calls++;
        answers.merge(method + (want < 0 && !method.equals("number") ? " " + want : ""), 1, Integer::sum);
        if (got != want) {
            wrong++;
            if (wrong <= 20) {
                System.out.println("run " + run + ", call " + calls + ": " + method
                    + Arrays.toString(arguments) + " answered " + got + ", due is " + want);
            }
        }
    }

    private static void make(int g) {
        int n = anyNumber();
        due("make", heap.make(g, n), model.make(g, n), g, n);
    }

    private static void toField(int s, int f, int g) {
        due("toField", heap.toField(s, f, g), model.toField(s, f, g), s, f, g);
    }

    private static void toRoot(int r, int g) {
        due("toRoot", heap.toRoot(r, g), model.toRoot(r, g), r, g);
    }

    private static void fromRoot(int g, int r) {
        due("fromRoot", heap.fromRoot(g, r), model.fromRoot(g, r), g, r);
    }

    /** Puts a new object between a root and what it refers to: so runs come to 24 objects. */
    private static void grow() {
        int r = pick(3);
        int f = pick(2);
        fromRoot(0, r);
        make(1);
        toField(1, f, 0);
        toRoot(r, 1);
    }

    private static void look() {
        int g = argument(4);
        int h = argument(4);
        int r = argument(3);
        due("same", heap.same(g, h) ? 1 : 0, model.same(g, h) ? 1 : 0, g, h);
        due("number", heap.number(g), model.number(g), g);
        due("needed", heap.needed(), model.needed());
        due("reach", heap.reach(r), model.reach(r), r);
    }

    private static void change() {
        int g = argument(4);
        int s = argument(4);
        int f = argument(2);
        int n = anyNumber();
        switch (pick(7)) {
            case 0: make(g); break;
            case 1: fromRoot(g, argument(3)); break;
            case 2: toRoot(argument(3), g); break;
            case 3: due("fromField", heap.fromField(g, s, f), model.fromField(g, s, f), g, s, f); break;
            case 4: toField(s, f, g); break;
            case 5: due("release", heap.release(g), model.release(g), g); break;
            default: due("setNumber", heap.setNumber(g, n), model.setNumber(g, n), g, n);
        }
    }

    private static void wholeState() {
        int when = argument(3);
        int steps = argument(25);
        switch (pick(8)) {
            case 0: case 1: case 2: due("save", heap.save(), model.save()); break;
            case 3: case 4: due("back", heap.back(), model.back()); break;
            case 5: due("crash", heap.crash(when), model.crash(when), when); break;
            case 6: due("collect", heap.collect(), model.needed()); break;
            default: due("collectAndCrash", heap.collectAndCrash(steps), model.crash(0), steps);
        }
    }

    private static void oneRun() {
        heap = new PersistentHeap();
        model = new Model();
        calls = 0;
        int growing = pick(30);
        int whole = 1 + pick(10);
        while (calls + 4 <= CALLS) {
            int kind = pick(100);
            if (kind < growing) grow();
            else if (kind < growing + whole) wholeState();
            else if (kind < growing + whole + 15) look();
            else change();
        }
    }

    private static void dueToHaveCome(String answer) {
        if (answers.getOrDefault(answer, 0) < 100) {
            wrong++;
            System.out.println("the runs hardly came to: " + answer);
        }
    }

    public static void main(String[] args) {
        for (run = 1; run <= RUNS; run++) {
            oneRun();
        }
        String[] come = {"make", "make -1", "make -2", "fromRoot", "fromRoot -1", "toRoot", "toRoot -1",
            "fromField", "fromField -1", "fromField -3", "toField", "toField -1", "toField -3", "release",
            "release -1", "number", "setNumber", "setNumber -1", "setNumber -3", "same", "save", "back",
            "crash", "crash -1", "collect", "collectAndCrash", "needed", "reach", "reach -1"};
        for (String answer : come) {
            dueToHaveCome(answer);
        }
        System.out.println(wrong == 0 ? RUNS + " runs are as in the model" : wrong + " faults: " + answers);
        if (wrong != 0) {
            System.exit(1);
        }
    }
}
