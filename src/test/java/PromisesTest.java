/** Each promise of the document: ordinary inputs, the edges that it names, and wrong inputs. */
public final class PromisesTest {
    private static final int BAD = PersistentHeap.BAD;
    private static final int FULL = PersistentHeap.FULL;
    private static final int NOTHING = PersistentHeap.NOTHING;
    private static final int OK = PersistentHeap.OK;

    private static final int MIN = Integer.MIN_VALUE;
    private static final int MAX = Integer.MAX_VALUE;
    private static final int[] NO_REGISTER = {MIN, -1, 4, 5, MAX};
    private static final int[] NO_ROOT = {MIN, -1, 3, 4, MAX};
    private static final int[] NO_FIELD = {MIN, -1, 2, 3, MAX};

    private static int wrong = 0;
    private static String part = "";

    private static void due(String call, int got, int want) {
        if (got != want) {
            wrong++;
            System.out.println(part + ": " + call + " answered " + got + ", due is " + want);
        }
    }

    private static void due(String call, boolean got, boolean want) {
        if (got != want) {
            wrong++;
            System.out.println(part + ": " + call + " answered " + got + ", due is " + want);
        }
    }

    /** Register 0 and root 0 refer to the first of a list over field 0: count, .., 2, 1. */
    private static PersistentHeap list(int count) {
        PersistentHeap x = new PersistentHeap();
        for (int i = 1; i <= count; i++) {
            push(x, i);
        }
        return x;
    }

    private static void push(PersistentHeap x, int number) {
        due("make(1, " + number + ")", x.make(1, number), OK);
        due("toField(1, 0, 0)", x.toField(1, 0, 0), OK);
        due("toRoot(0, 1)", x.toRoot(0, 1), OK);
        due("fromRoot(0, 0)", x.fromRoot(0, 0), OK);
        due("release(1)", x.release(1), OK);
    }

    /** Looks at the list over field 0 from root 0 on, with register 3. */
    private static void dueList(PersistentHeap x, int... numbers) {
        x.fromRoot(3, 0);
        for (int i = 0; i < numbers.length; i++) {
            due("number(3) at " + i, x.number(3), numbers[i]);
            due("fromField(3, 3, 0) at " + i, x.fromField(3, 3, 0), OK);
        }
        due("end of the list", x.setNumber(3, 0), NOTHING);
    }

    private static void dueNoRegisters(PersistentHeap x) {
        for (int g = 0; g < 4; g++) {
            due("setNumber(" + g + ", 1)", x.setNumber(g, 1), NOTHING);
            due("number(" + g + ")", x.number(g), 0);
        }
    }

    private static void newObject() {
        PersistentHeap x = new PersistentHeap();
        dueNoRegisters(x);
        for (int r = 0; r < 3; r++) {
            due("reach(" + r + ")", x.reach(r), 0);
            x.fromRoot(r, r);
        }
        dueNoRegisters(x);
        due("needed()", x.needed(), 0);
        due("back() first", new PersistentHeap().back(), 0);
        due("save() first", new PersistentHeap().save(), 0);
        due("crash(0) first", new PersistentHeap().crash(0), 0);
        due("crash(2) first", new PersistentHeap().crash(2), 0);
        due("collect() first", new PersistentHeap().collect(), 0);
        due("collectAndCrash(1) first", new PersistentHeap().collectAndCrash(1), 0);
        PersistentHeap y = new PersistentHeap();
        y.make(0, 1);
        due("needed() of another heap", x.needed(), 0);
        due("BAD", BAD, -1);
        due("FULL", FULL, -2);
        due("NOTHING", NOTHING, -3);
        due("OK", OK, 0);
    }

    private static void savedStateOfANewObject() {
        PersistentHeap x = new PersistentHeap();
        x.make(0, 4);
        x.toField(0, 0, 0);
        x.toRoot(1, 0);
        due("back() before any save", x.back(), 0);
        due("reach(1)", x.reach(1), 0);
        due("number(0) of an object that isn't in the saved state", x.number(0), 4);
        x.fromField(1, 0, 0);
        due("same(0, 1)", x.same(0, 1), true);
        due("crash(0) before any save", x.crash(0), 0);
        due("needed()", x.needed(), 0);
    }

    private static void make() {
        PersistentHeap x = new PersistentHeap();
        int[] numbers = {MIN, -1, 0, MAX};
        for (int g = 0; g < 4; g++) {
            due("make(" + g + ")", x.make(g, numbers[g]), OK);
        }
        for (int g = 0; g < 4; g++) {
            due("number(" + g + ")", x.number(g), numbers[g]);
        }
        due("needed()", x.needed(), 4);
        for (int f = 0; f < 2; f++) {
            x.fromField(1, 0, f);
            due("field " + f + " of a new object", x.setNumber(1, 1), NOTHING);
        }
        x.make(0, 7);
        due("number(0) after making anew", x.number(0), 7);
        for (int g : NO_REGISTER) {
            due("make(" + g + ", 1)", x.make(g, 1), BAD);
        }
        due("needed() after BAD", x.needed(), 3);
    }

    private static void makeWhenFull() {
        PersistentHeap x = list(23);
        due("needed()", x.needed(), 23);
        due("the 24th make", x.make(2, 24), OK);
        due("needed()", x.needed(), 24);
        due("make when 24 are needed", x.make(3, 25), FULL);
        due("register 3 after FULL", x.setNumber(3, 0), NOTHING);
        due("make in place of the 24th", x.make(2, 25), FULL);
        due("number(2) after FULL", x.number(2), 24);
        for (int g : NO_REGISTER) {
            due("make(" + g + ", 1) when full", x.make(g, 1), BAD);
        }
        due("needed() after FULL", x.needed(), 24);
        x.release(2);
        due("make after release", x.make(2, 26), OK);
        due("number(2)", x.number(2), 26);
        x.release(0);
        due("make when root 0 still leads to 23", x.make(0, 1), FULL);
        x.toRoot(0, 0);
        due("needed() when root 0 is cut", x.needed(), 1);
        due("make when root 0 is cut", x.make(0, 1), OK);
    }

    private static void makeWhenSavedObjectsFill() {
        PersistentHeap x = list(24);
        x.save();
        x.release(0);
        x.toRoot(0, 0);
        due("reach(0)", x.reach(0), 0);
        due("needed() over the saved root", x.needed(), 24);
        due("make when the saved state needs 24", x.make(0, 1), FULL);
        x.save();
        due("needed() after save", x.needed(), 0);
        due("make after save", x.make(0, 1), OK);
    }

    /** 24 objects, each with saved and present fields, give way to 24 new ones. */
    private static void madeObjectsAreNew() {
        PersistentHeap x = list(24);
        x.fromRoot(1, 0);
        for (int i = 0; i < 24; i++) {
            x.toField(1, 1, 0);
            x.fromField(1, 1, 0);
        }
        x.save();
        x.crash(0);
        x.toRoot(0, 0);
        x.crash(2);
        for (int i = 0; i < 24; i++) {
            due("make(0, " + i + ")", x.make(0, 100 + i), OK);
            due("needed()", x.needed(), 1 + i);
            for (int f = 0; f < 2; f++) {
                x.fromField(2, 0, f);
                due("field " + f + " of a new object", x.setNumber(2, 0), NOTHING);
            }
            due("back()", x.back(), i);
            due("number(0) after back", x.number(0), 100 + i);
            x.fromRoot(1, 0);
            x.toField(0, 0, 1);
            x.toRoot(0, 0);
            x.release(1);
            x.save();
        }
        due("reach(0)", x.reach(0), 24);
    }

    private static void fromRoot() {
        PersistentHeap x = new PersistentHeap();
        for (int r = 0; r < 3; r++) {
            x.make(0, 10 + r);
            x.toRoot(r, 0);
        }
        for (int g = 0; g < 4; g++) {
            for (int r = 0; r < 3; r++) {
                due("fromRoot(" + g + ", " + r + ")", x.fromRoot(g, r), OK);
                due("number(" + g + ")", x.number(g), 10 + r);
            }
        }
        for (int bad : NO_REGISTER) {
            due("fromRoot(" + bad + ", 0)", x.fromRoot(bad, 0), BAD);
        }
        for (int bad : NO_ROOT) {
            due("fromRoot(0, " + bad + ")", x.fromRoot(0, bad), BAD);
        }
        due("number(0) after BAD", x.number(0), 12);
        x.save();
        x.make(1, 20);
        x.toRoot(2, 1);
        x.fromRoot(0, 2);
        due("number(0), from the present root", x.number(0), 20);
        x.release(1);
        x.toRoot(2, 1);
        due("fromRoot of nothing", x.fromRoot(0, 2), OK);
        due("number(0)", x.number(0), 0);
        due("same(0, 1)", x.same(0, 1), true);
    }

    private static void toRoot() {
        PersistentHeap x = new PersistentHeap();
        for (int g = 0; g < 4; g++) {
            x.make(g, 10 + g);
        }
        for (int r = 0; r < 3; r++) {
            for (int g = 3; g >= 1; g--) {
                due("toRoot(" + r + ", " + g + ")", x.toRoot(r, g), OK);
                x.fromRoot(0, r);
                due("same(0, " + g + ")", x.same(0, g), true);
            }
        }
        for (int bad : NO_ROOT) {
            due("toRoot(" + bad + ", 2)", x.toRoot(bad, 2), BAD);
        }
        for (int bad : NO_REGISTER) {
            due("toRoot(0, " + bad + ")", x.toRoot(0, bad), BAD);
        }
        x.fromRoot(0, 0);
        due("root 0 after BAD", x.number(0), 11);
        x.release(0);
        due("toRoot of nothing", x.toRoot(1, 0), OK);
        due("reach(1)", x.reach(1), 0);
        due("reach(0)", x.reach(0), 1);
        due("reach(2)", x.reach(2), 1);
    }

    private static void fields() {
        PersistentHeap x = new PersistentHeap();
        x.make(0, 1);
        x.make(1, 2);
        x.make(2, 3);
        due("toField(0, 0, 1)", x.toField(0, 0, 1), OK);
        due("toField(0, 1, 2)", x.toField(0, 1, 2), OK);
        due("toField(1, 0, 1)", x.toField(1, 0, 1), OK);
        due("fromField(3, 0, 0)", x.fromField(3, 0, 0), OK);
        due("same(3, 1)", x.same(3, 1), true);
        due("fromField(3, 0, 1)", x.fromField(3, 0, 1), OK);
        due("same(3, 2)", x.same(3, 2), true);
        due("fromField(1, 1, 0), to itself", x.fromField(1, 1, 0), OK);
        due("number(1)", x.number(1), 2);
        due("fromField(3, 2, 1), nothing", x.fromField(3, 2, 1), OK);
        due("setNumber(3, 0)", x.setNumber(3, 0), NOTHING);
        due("toField(0, 0, 3), nothing", x.toField(0, 0, 3), OK);
        x.fromField(1, 0, 0);
        due("setNumber(1, 0)", x.setNumber(1, 0), NOTHING);
        due("needed()", x.needed(), 2);
        due("fromField(0, 0, 1), into its own register", x.fromField(0, 0, 1), OK);
        due("same(0, 2)", x.same(0, 2), true);
        due("needed()", x.needed(), 1);
    }

    private static void fromFieldWrong() {
        PersistentHeap x = new PersistentHeap();
        x.make(0, 1);
        x.make(1, 2);
        for (int bad : NO_REGISTER) {
            due("fromField(" + bad + ", 0, 0)", x.fromField(bad, 0, 0), BAD);
            due("fromField(0, " + bad + ", 0)", x.fromField(0, bad, 0), BAD);
            due("fromField(" + bad + ", 2, 0), 2 is empty", x.fromField(bad, 2, 0), BAD);
        }
        for (int bad : NO_FIELD) {
            due("fromField(1, 0, " + bad + ")", x.fromField(1, 0, bad), BAD);
            due("fromField(1, 2, " + bad + "), 2 is empty", x.fromField(1, 2, bad), BAD);
        }
        for (int f = 0; f < 2; f++) {
            due("fromField(1, 2, " + f + "), 2 is empty", x.fromField(1, 2, f), NOTHING);
        }
        due("number(0)", x.number(0), 1);
        due("number(1)", x.number(1), 2);
    }

    private static void toFieldWrong() {
        PersistentHeap x = new PersistentHeap();
        x.make(0, 1);
        x.make(1, 2);
        x.toField(0, 0, 1);
        x.toField(0, 1, 1);
        x.toField(1, 0, 1);
        for (int bad : NO_REGISTER) {
            due("toField(" + bad + ", 0, 0)", x.toField(bad, 0, 0), BAD);
            due("toField(0, 0, " + bad + ")", x.toField(0, 0, bad), BAD);
            due("toField(2, 0, " + bad + "), 2 is empty", x.toField(2, 0, bad), BAD);
        }
        for (int bad : NO_FIELD) {
            due("toField(0, " + bad + ", 2)", x.toField(0, bad, 2), BAD);
            due("toField(2, " + bad + ", 0), 2 is empty", x.toField(2, bad, 0), BAD);
        }
        for (int f = 0; f < 2; f++) {
            due("toField(2, " + f + ", 0), 2 is empty", x.toField(2, f, 0), NOTHING);
            x.fromField(3, 0, f);
            due("same(3, 1), field " + f + " unchanged", x.same(3, 1), true);
        }
        x.fromField(3, 1, 0);
        due("same(3, 1), the neighbour's field unchanged", x.same(3, 1), true);
        due("number(2)", x.number(2), 0);
    }

    private static void release() {
        PersistentHeap x = new PersistentHeap();
        for (int g = 0; g < 4; g++) {
            x.make(g, 5 + g);
        }
        for (int bad : NO_REGISTER) {
            due("release(" + bad + ")", x.release(bad), BAD);
        }
        due("needed()", x.needed(), 4);
        for (int g = 0; g < 4; g++) {
            due("release(" + g + ")", x.release(g), OK);
            due("number(" + g + ")", x.number(g), 0);
            due("needed()", x.needed(), 3 - g);
        }
        due("release(0) again", x.release(0), OK);
        dueNoRegisters(x);
    }

    private static void numbers() {
        PersistentHeap x = new PersistentHeap();
        x.make(0, 5);
        for (int g : NO_REGISTER) {
            due("number(" + g + ")", x.number(g), 0);
            due("setNumber(" + g + ", 9)", x.setNumber(g, 9), BAD);
        }
        due("number(0)", x.number(0), 5);
        due("number(1), nothing", x.number(1), 0);
        due("setNumber(1, 9), nothing", x.setNumber(1, 9), NOTHING);
        due("number(1), still nothing", x.number(1), 0);
        x.toRoot(0, 0);
        x.fromRoot(3, 0);
        x.make(2, 6);
        for (int number : new int[] {MIN, -3, -1, 0, 1, MAX}) {
            due("setNumber(0, " + number + ")", x.setNumber(0, number), OK);
            due("number(0)", x.number(0), number);
            due("number(3), the same object", x.number(3), number);
            due("number(2), another object", x.number(2), 6);
        }
    }

    private static void same() {
        PersistentHeap x = new PersistentHeap();
        due("same(0, 1), both nothing", x.same(0, 1), true);
        x.make(0, 5);
        x.make(1, 5);
        due("same(0, 0)", x.same(0, 0), true);
        due("same(2, 2), nothing", x.same(2, 2), true);
        due("same(0, 1), equal but two", x.same(0, 1), false);
        due("same(0, 2), one nothing", x.same(0, 2), false);
        due("same(2, 0), one nothing", x.same(2, 0), false);
        x.toRoot(0, 0);
        x.fromRoot(3, 0);
        due("same(0, 3)", x.same(0, 3), true);
        due("same(3, 0)", x.same(3, 0), true);
        for (int bad : NO_REGISTER) {
            for (int g = 0; g < 4; g++) {
                due("same(" + bad + ", " + g + ")", x.same(bad, g), false);
                due("same(" + g + ", " + bad + ")", x.same(g, bad), false);
            }
            due("same(" + bad + ", " + bad + ")", x.same(bad, bad), false);
        }
    }

    private static void save() {
        PersistentHeap x = list(3);
        x.make(1, 50);
        x.toRoot(1, 1);
        x.toRoot(2, 0);
        x.make(2, 60);
        due("save(), shared objects counted once", x.save(), 4);
        due("number(0)", x.number(0), 3);
        due("needed()", x.needed(), 5);
        x.setNumber(0, 33);
        x.setNumber(2, 66);
        x.toField(2, 0, 1);
        x.toField(2, 1, 0);
        due("back()", x.back(), 4);
        due("number(2), saved though no root leads to it", x.number(2), 60);
        for (int f = 0; f < 2; f++) {
            x.fromField(3, 2, f);
            due("field " + f + " of it", x.setNumber(3, 0), NOTHING);
        }
        dueList(x, 3, 2, 1);
        x.setNumber(0, 34);
        push(x, 4);
        due("save() again", x.save(), 5);
        due("crash(0)", x.crash(0), 5);
        dueList(x, 4, 34, 2, 1);
    }

    private static void saveEndsTheNeedOfOldFields() {
        PersistentHeap x = list(3);
        x.save();
        x.toField(0, 0, 1);
        due("needed() before save", x.needed(), 3);
        due("save()", x.save(), 1);
        due("needed() after save", x.needed(), 1);
    }

    private static void back() {
        PersistentHeap x = list(2);
        x.save();
        x.setNumber(0, 20);
        x.make(2, 7);
        x.toField(2, 0, 0);
        x.toField(2, 1, 2);
        x.toField(0, 1, 2);
        push(x, 3);
        x.toRoot(2, 2);
        due("reach(0)", x.reach(0), 4);
        due("back()", x.back(), 2);
        due("number(0), made since the saving", x.number(0), 3);
        due("number(2), made since the saving", x.number(2), 7);
        due("reach(2)", x.reach(2), 0);
        x.fromField(1, 2, 1);
        due("same(1, 2), a field of a new object stays", x.same(1, 2), true);
        x.fromField(1, 2, 0);
        due("number(1), changed back", x.number(1), 2);
        x.fromField(3, 1, 1);
        due("its field 1, changed back", x.setNumber(3, 0), NOTHING);
        dueList(x, 2, 1);
        due("back() again", x.back(), 2);
        due("number(2)", x.number(2), 7);
        x.setNumber(2, 8);
        x.save();
        x.setNumber(2, 9);
        x.back();
        due("number(2), saved since", x.number(2), 8);
    }

    private static void crash() {
        PersistentHeap x = list(2);
        x.save();
        for (int when = 0; when < 2; when++) {
            x.fromRoot(0, 0);
            x.setNumber(0, 9);
            push(x, 5);
            x.make(3, 1);
            due("crash(" + when + ")", x.crash(when), 2);
            dueNoRegisters(x);
            due("needed()", x.needed(), 2);
            dueList(x, 2, 1);
        }
        x.fromRoot(0, 0);
        x.setNumber(0, 9);
        push(x, 5);
        x.make(2, 6);
        due("crash(2)", x.crash(2), 3);
        dueNoRegisters(x);
        due("needed()", x.needed(), 3);
        dueList(x, 5, 9, 1);
        due("crash(0) after crash(2)", x.crash(0), 3);
        dueList(x, 5, 9, 1);
    }

    private static void crashWrong() {
        PersistentHeap x = list(1);
        x.save();
        push(x, 2);
        for (int when : new int[] {MIN, -1, 3, 4, MAX}) {
            due("crash(" + when + ")", x.crash(when), BAD);
        }
        due("number(0)", x.number(0), 2);
        due("reach(0), nothing went back", x.reach(0), 2);
        due("back(), nothing was saved", x.back(), 1);
    }

    private static void collect() {
        PersistentHeap x = list(5);
        x.save();
        x.fromField(1, 0, 0);
        x.toRoot(0, 1);
        x.toField(1, 0, 2);
        x.toField(1, 1, 0);
        x.make(2, 70);
        x.toField(2, 1, 1);
        for (int i = 0; i < 3; i++) {
            due("collect()", x.collect(), 6);
            due("reach(0)", x.reach(0), 2);
            due("needed()", x.needed(), 6);
            due("number(0)", x.number(0), 5);
            due("number(1)", x.number(1), 4);
            due("number(2)", x.number(2), 70);
            x.fromField(3, 2, 1);
            due("same(3, 1)", x.same(3, 1), true);
            x.fromField(3, 1, 1);
            due("same(3, 0)", x.same(3, 0), true);
            x.release(3);
        }
        due("back()", x.back(), 5);
        dueList(x, 5, 4, 3, 2, 1);
        x.release(2);
        due("collect()", x.collect(), 5);
        PersistentHeap full = list(24);
        due("collect() when 24 are needed", full.collect(), 24);
        due("make after that", full.make(1, 1), FULL);
    }

    private static void collectAndCrash() {
        for (int steps : new int[] {MIN, -1, 0, 1, 2, 3, 23, 24, 25, MAX}) {
            PersistentHeap x = list(3);
            x.save();
            x.setNumber(0, 30);
            x.toField(0, 0, 1);
            push(x, 4);
            x.make(2, 9);
            due("collectAndCrash(" + steps + ")", x.collectAndCrash(steps), 3);
            dueNoRegisters(x);
            due("needed()", x.needed(), 3);
            dueList(x, 3, 2, 1);
            due("collectAndCrash(" + steps + ") again", x.collectAndCrash(steps), 3);
            dueList(x, 3, 2, 1);
        }
    }

    private static void needed() {
        PersistentHeap x = list(4);
        due("needed()", x.needed(), 4);
        x.save();
        x.fromField(1, 0, 0);
        x.fromField(2, 1, 0);
        due("needed(), each counted once", x.needed(), 4);
        x.release(1);
        x.toField(0, 0, 1);
        x.toRoot(0, 1);
        x.release(0);
        due("needed() over saved root and fields", x.needed(), 4);
        x.make(0, 9);
        x.make(1, 8);
        x.toField(0, 1, 1);
        x.toField(1, 1, 0);
        x.release(1);
        due("needed(), a ring from register 0", x.needed(), 6);
        x.release(0);
        due("needed(), the ring is gone", x.needed(), 4);
        x.save();
        due("needed(), register 2 alone", x.needed(), 2);
        x.release(2);
        due("needed()", x.needed(), 0);
    }

    /** Saved fields lead from a register's object, and present ones from a saved root's. */
    private static void neededOverMixedFields() {
        PersistentHeap x = new PersistentHeap();
        x.make(0, 1);
        x.make(1, 2);
        x.toField(0, 0, 1);
        x.release(1);
        x.save();
        x.toField(0, 0, 1);
        due("needed() over a saved field from a register", x.needed(), 2);
        x.toRoot(1, 0);
        x.save();
        x.make(1, 3);
        x.make(2, 4);
        x.toField(1, 1, 2);
        x.toField(0, 1, 1);
        x.toRoot(1, 3);
        x.release(0);
        x.release(1);
        x.release(2);
        due("reach(1)", x.reach(1), 0);
        due("needed() over present fields from a saved root", x.needed(), 3);
        due("back()", x.back(), 1);
        due("needed()", x.needed(), 1);
    }

    private static void reach() {
        PersistentHeap x = list(3);
        x.make(1, 10);
        x.toRoot(1, 1);
        x.toField(1, 0, 0);
        x.toField(1, 1, 1);
        x.toField(0, 1, 1);
        due("reach(0), a ring", x.reach(0), 4);
        due("reach(1), a ring", x.reach(1), 4);
        due("reach(2), nothing", x.reach(2), 0);
        x.save();
        x.toField(0, 0, 2);
        due("reach(0) over present fields alone", x.reach(0), 2);
        x.toField(0, 1, 2);
        due("reach(0)", x.reach(0), 1);
        x.toRoot(1, 2);
        due("reach(1) from the present root alone", x.reach(1), 0);
        for (int r : NO_ROOT) {
            due("reach(" + r + ")", x.reach(r), BAD);
        }
        due("reach(0) of 24", list(24).reach(0), 24);
    }

    public static void main(String[] args) {
        part = "promise 1";
        newObject();
        savedStateOfANewObject();
        part = "promise 2";
        make();
        makeWhenFull();
        makeWhenSavedObjectsFill();
        madeObjectsAreNew();
        part = "promise 3";
        fromRoot();
        part = "promise 4";
        toRoot();
        part = "promises 5 and 6";
        fields();
        part = "promise 5";
        fromFieldWrong();
        part = "promise 6";
        toFieldWrong();
        part = "promise 7";
        release();
        part = "promises 8 and 9";
        numbers();
        part = "promise 10";
        same();
        part = "promise 11";
        save();
        saveEndsTheNeedOfOldFields();
        part = "promise 12";
        back();
        part = "promise 13";
        crash();
        crashWrong();
        part = "promise 14";
        collect();
        part = "promise 15";
        collectAndCrash();
        part = "promise 16";
        needed();
        neededOverMixedFields();
        part = "promise 17";
        reach();
        System.out.println(wrong == 0 ? "all promises hold" : wrong + " answers are not as due");
        if (wrong != 0) {
            System.exit(1);
        }
    }
}
