import java.util.ArrayList;
import java.util.List;
import java.util.function.Supplier;

/** Each sentence of the document that names a boundary case has a test of its own, with its words. */
public final class BoundariesTest {
    private static final int BAD = PersistentHeap.BAD;
    private static final int FULL = PersistentHeap.FULL;
    private static final int NOTHING = PersistentHeap.NOTHING;
    private static final int OK = PersistentHeap.OK;

    private static final int MIN = Integer.MIN_VALUE;
    private static final int MAX = Integer.MAX_VALUE;

    // Beside the nearest and the farthest: numbers that a cut to fewer bits would take for right ones.
    private static final int[] NO_REGISTER = {MIN, MIN + 1, -256, -2, -1, 4, 5, 256, 65536, 1 << 30, MAX};
    private static final int[] NO_ROOT = {MIN, MIN + 1, -256, -2, -1, 3, 4, 256, 65536, 1 << 30, MAX};
    private static final int[] NO_FIELD = {MIN, MIN + 1, -256, -2, -1, 2, 3, 256, 65536, 1 << 30, MAX};
    private static final int[] NO_TIME = {MIN, MIN + 1, -256, -2, -1, 3, 4, 256, 65536, 1 << 30, MAX};
    private static final int[] ANY_INT = {MIN, MIN + 1, FULL, NOTHING, BAD, 0, 1, 24, 256, 65536, MAX - 1, MAX};
    private static final int[] STEPS = {MIN, MIN + 1, -1, 0, 1, 2, 12, 23, 24, 25, 26, MAX - 1, MAX};

    private static final int MOST = 24;

    private interface Call {
        int on(PersistentHeap x);
    }

    private static int wrong = 0;
    private static int looks = 0;
    private static int sentences = 0;
    private static String sentence = "";

    // ---- what is due ----

    private static void fault(String text) {
        wrong++;
        System.out.println(sentence + ": " + text);
    }

    private static void due(String call, int got, int want) {
        looks++;
        if (got != want) {
            fault(call + " answered " + got + ", due is " + want);
        }
    }

    private static void due(String call, boolean got, boolean want) {
        looks++;
        if (got != want) {
            fault(call + " answered " + got + ", due is " + want);
        }
    }

    private static void dueNothing(PersistentHeap x, int g) {
        due("setNumber(" + g + ", 7), nothing there", x.setNumber(g, 7), NOTHING);
        due("number(" + g + "), nothing there", x.number(g), 0);
    }

    private static void dueNoRegisters(PersistentHeap x) {
        for (int g = 0; g < 4; g++) {
            dueNothing(x, g);
        }
    }

    private static void dueField(PersistentHeap x, int s, int f, int number) {
        due("fromField(3, " + s + ", " + f + ")", x.fromField(3, s, f), OK);
        due("number(3) from field " + f, x.number(3), number);
    }

    private static void dueEmptyField(PersistentHeap x, int s, int f) {
        due("fromField(3, " + s + ", " + f + ")", x.fromField(3, s, f), OK);
        dueNothing(x, 3);
    }

    private static void dueSameView(String what, Supplier<PersistentHeap> got, Supplier<PersistentHeap> want) {
        looks++;
        if (!view(got).equals(view(want))) {
            fault(what + " left another state than is due");
        }
    }

    private static Supplier<PersistentHeap> after(Supplier<PersistentHeap> start, Call call) {
        return () -> {
            PersistentHeap x = start.get();
            call.on(x);
            return x;
        };
    }

    private static void dueUnchanged(String name, Supplier<PersistentHeap> start, Call call) {
        dueSameView(name, after(start, call), start);
    }

    private static void dueRefused(String name, int want, Supplier<PersistentHeap> start, Call call) {
        due(name, call.on(start.get()), want);
        dueUnchanged(name, start, call);
    }

    private static void dueBad(String name, Call call) {
        dueRefused(name + " on a new heap", BAD, PersistentHeap::new, call);
        dueRefused(name, BAD, BoundariesTest::mixed, call);
        dueRefused(name + " on a full heap", BAD, BoundariesTest::full, call);
    }

    // ---- what can be seen of a heap ----

    /**
     * Counts, registers, what all ways of up to three fields lead to, and lists over field 0 to their end, in the
     * present state and after going back. Looking changes registers, so that each look has a heap made anew.
     */
    private static List<Integer> view(Supplier<PersistentHeap> start) {
        List<Integer> seen = new ArrayList<>();
        Supplier<PersistentHeap> gone = after(start, PersistentHeap::back);
        viewState(start, seen);
        viewState(gone, seen);
        viewWhatIsSaved(start.get(), seen);
        return seen;
    }

    private static void viewState(Supplier<PersistentHeap> start, List<Integer> seen) {
        viewCounts(start.get(), seen);
        for (int from = 0; from < 7; from++) {
            for (int path = 1; path < 16; path++) {
                viewEnd(start.get(), from, path, seen);
            }
            viewList(start.get(), from, seen);
        }
    }

    private static void viewCounts(PersistentHeap x, List<Integer> seen) {
        seen.add(x.needed());
        for (int r = 0; r < 3; r++) {
            seen.add(x.reach(r));
        }
        for (int g = 0; g < 4; g++) {
            seen.add(x.number(g));
            for (int h = 0; h < 4; h++) {
                seen.add(x.same(g, h) ? 1 : 0);
            }
        }
    }

    /** From a register (0 to 3) or a root (4 to 6), over the fields that the path's bits after its first tell. */
    private static void viewEnd(PersistentHeap x, int from, int path, List<Integer> seen) {
        int g = startOfWay(x, from);
        for (int bit = Integer.highestOneBit(path) >> 1; bit != 0; bit >>= 1) {
            seen.add(x.fromField(g, g, (path & bit) == 0 ? 0 : 1));
        }
        seen.add(x.number(g));
        for (int h = 0; h < 4; h++) {
            seen.add(x.same(g, h) ? 1 : 0);
        }
        seen.add(x.setNumber(g, 7));
    }

    private static int startOfWay(PersistentHeap x, int from) {
        if (from < 4) {
            return from;
        }
        x.fromRoot(0, from - 4);
        return 0;
    }

    private static void viewList(PersistentHeap x, int from, List<Integer> seen) {
        int g = startOfWay(x, from);
        for (int i = 0; i <= MOST; i++) {
            seen.add(x.number(g));
            seen.add(x.fromField(g, g, 0));
        }
    }

    /** A number of an object in the saved state comes back, that of a new one stays. */
    private static void viewWhatIsSaved(PersistentHeap x, List<Integer> seen) {
        for (int g = 0; g < 4; g++) {
            x.setNumber(g, 1000 + g);
        }
        seen.add(x.back());
        for (int g = 0; g < 4; g++) {
            seen.add(x.number(g));
        }
    }

    // ---- heaps to start from ----

    /** Root 0 and register 0 refer to the first of a list over field 0: count, .., 2, 1. */
    private static PersistentHeap list(int count) {
        PersistentHeap x = new PersistentHeap();
        for (int i = 1; i <= count; i++) {
            push(x, i);
        }
        return x;
    }

    private static void push(PersistentHeap x, int number) {
        x.make(1, number);
        x.toField(1, 0, 0);
        x.toRoot(0, 1);
        x.fromRoot(0, 0);
        x.release(1);
    }

    private static void emptyRoot(PersistentHeap x, int r) {
        x.release(3);
        x.toRoot(r, 3);
    }

    private static PersistentHeap listOfRegister(int count) {
        PersistentHeap x = list(count);
        emptyRoot(x, 0);
        return x;
    }

    private static PersistentHeap listOfPresentRoot(int count) {
        PersistentHeap x = list(count);
        x.release(0);
        return x;
    }

    private static PersistentHeap listOfSavedRoot(int count) {
        PersistentHeap x = listOfPresentRoot(count);
        x.save();
        emptyRoot(x, 0);
        return x;
    }

    /** All fields are cut after saving, the first one first; register 0 keeps the first object. */
    private static PersistentHeap listOverSavedFields(int count) {
        PersistentHeap x = listOfRegister(count);
        x.save();
        x.fromField(1, 0, 0);
        x.toField(0, 0, 3);
        for (int i = 0; i < count; i++) {
            x.fromField(2, 1, 0);
            x.toField(1, 0, 3);
            x.toRoot(1, 2);
            x.fromRoot(1, 1);
        }
        x.release(1);
        x.release(2);
        emptyRoot(x, 1);
        return x;
    }

    /** The roots, numbers and fields differ in the two states; register 1 is empty, 2 has a new object. */
    private static PersistentHeap mixed() {
        PersistentHeap x = list(3);
        x.make(1, 40);
        x.toRoot(1, 1);
        x.toField(1, 1, 0);
        x.save();
        x.setNumber(1, 41);
        x.fromField(3, 0, 0);
        x.toField(0, 0, 1);
        x.make(2, 50);
        x.toField(2, 0, 3);
        x.toField(2, 1, 2);
        x.toField(3, 1, 2);
        x.toRoot(1, 3);
        x.toRoot(2, 2);
        x.release(1);
        return x;
    }

    /** 23 objects from root 0, saved, and one that only register 2 refers to, made since. */
    private static PersistentHeap full() {
        PersistentHeap x = list(MOST - 1);
        x.save();
        x.setNumber(0, 99);
        x.make(2, 24);
        x.toField(2, 1, 0);
        return x;
    }

    // ---- What it is, and Terms ----

    private static void the512thCall() {
        PersistentHeap x = new PersistentHeap();
        for (int call = 1; call <= 510; call += 3) {
            due("make(0, " + call + ")", x.make(0, call), OK);
            due("toField(0, 0, 0)", x.toField(0, 0, 0), OK);
            due("needed() at call " + (call + 2), x.needed(), 1);
        }
        due("call 511, number(0)", x.number(0), 508);
        due("call 512, make(1, 5)", x.make(1, 5), OK);
        PersistentHeap y = full();
        for (int call = 120; call < 512; call++) {
            y.collect();
        }
        due("call 512, make(1, 5) of a full heap", y.make(1, 5), FULL);
    }

    private static void numberIsAnyInt() {
        for (int number : ANY_INT) {
            PersistentHeap x = new PersistentHeap();
            due("make(3, " + number + ")", x.make(3, number), OK);
            due("number(3)", x.number(3), number);
            due("setNumber(3, " + ~number + ")", x.setNumber(3, ~number), OK);
            due("number(3)", x.number(3), ~number);
            x.toRoot(2, 3);
            due("crash(2)", x.crash(2), 1);
            x.fromRoot(0, 2);
            due("number(0) after a crash", x.number(0), ~number);
        }
    }

    private static void aFieldRefersToItsOwnObject() {
        for (int f = 0; f < 2; f++) {
            PersistentHeap x = new PersistentHeap();
            x.make(0, 5);
            due("toField(0, f, 0)", x.toField(0, f, 0), OK);
            due("fromField(1, 0, f)", x.fromField(1, 0, f), OK);
            due("same(0, 1)", x.same(0, 1), true);
            dueEmptyField(x, 0, 1 - f);
            x.toField(0, 1 - f, 0);
            x.toRoot(1, 0);
            due("reach(1), both fields to itself", x.reach(1), 1);
            due("needed()", x.needed(), 1);
            due("save()", x.save(), 1);
        }
    }

    private static void objectsWithoutNeedInARing() {
        PersistentHeap x = new PersistentHeap();
        x.make(0, 1);
        x.make(1, 2);
        x.toField(0, 0, 1);
        x.toField(1, 0, 0);
        x.toField(0, 1, 0);
        x.release(0);
        due("needed() from register 1", x.needed(), 2);
        x.release(1);
        due("needed(), the ring alone", x.needed(), 0);
    }

    private static void threeRootsAndFourRegisters() {
        PersistentHeap x = new PersistentHeap();
        for (int g = 0; g < 4; g++) {
            x.make(g, 10 + g);
        }
        for (int r = 0; r < 3; r++) {
            x.toRoot(r, r + 1);
        }
        for (int g = 0; g < 4; g++) {
            due("number(" + g + ")", x.number(g), 10 + g);
        }
        for (int r = 0; r < 3; r++) {
            x.fromRoot(0, r);
            due("number(0) from root " + r, x.number(0), 11 + r);
        }
    }

    private static void nothingInTheBeginning() {
        dueNoRegisters(new PersistentHeap());
        for (int r = 0; r < 3; r++) {
            PersistentHeap x = new PersistentHeap();
            x.make(0, 5);
            x.fromRoot(0, r);
            dueNothing(x, 0);
            due("reach(" + r + ")", x.reach(r), 0);
        }
        due("needed()", new PersistentHeap().needed(), 0);
    }

    private static void nothingInTheSavedStateInTheBeginning() {
        PersistentHeap x = new PersistentHeap();
        for (int r = 0; r < 3; r++) {
            x.make(r, 5);
            x.toRoot(r, r);
        }
        due("back() with no save before", x.back(), 0);
        for (int r = 0; r < 3; r++) {
            x.fromRoot(3, r);
            dueNothing(x, 3);
        }
        dueSameView("crash(0) with no save before", after(() -> list(3), y -> y.crash(0)), PersistentHeap::new);
    }

    private static void neededFromARegister() {
        for (int g = 0; g < 4; g++) {
            PersistentHeap x = new PersistentHeap();
            x.make(g, 1);
            due("needed() with register " + g, x.needed(), 1);
            x.release(g);
            due("needed() without it", x.needed(), 0);
        }
    }

    private static void neededFromARootInThePresentState() {
        for (int r = 0; r < 3; r++) {
            PersistentHeap x = new PersistentHeap();
            x.make(0, 1);
            x.toRoot(r, 0);
            x.release(0);
            due("needed() with root " + r, x.needed(), 1);
            x.toRoot(r, 0);
            due("needed() without it", x.needed(), 0);
        }
    }

    private static void neededFromARootInTheSavedState() {
        for (int r = 0; r < 3; r++) {
            PersistentHeap x = new PersistentHeap();
            x.make(0, 1);
            x.toRoot(r, 0);
            x.save();
            x.release(0);
            x.toRoot(r, 0);
            due("needed() with saved root " + r, x.needed(), 1);
            x.save();
            due("needed() without it", x.needed(), 0);
        }
    }

    private static void neededOverAPresentField() {
        for (int f = 0; f < 2; f++) {
            PersistentHeap x = new PersistentHeap();
            x.make(0, 1);
            x.save();
            x.make(1, 2);
            x.toField(0, f, 1);
            x.release(1);
            due("needed() over field " + f, x.needed(), 2);
            x.toField(0, f, 1);
            due("needed() without it", x.needed(), 1);
        }
    }

    private static void neededOverASavedField() {
        for (int f = 0; f < 2; f++) {
            PersistentHeap x = new PersistentHeap();
            x.make(0, 1);
            x.make(1, 2);
            x.toField(0, f, 1);
            x.save();
            x.release(1);
            x.toField(0, f, 1);
            due("needed() over saved field " + f, x.needed(), 2);
            x.save();
            due("needed() without it", x.needed(), 1);
        }
    }

    /** 1 -saved-> 2 -present-> 3 (new) -present-> 4 -saved-> 5, where register 0 or saved root 0 has 1. */
    private static void neededOverFieldsOfBothStatesInOneWay() {
        PersistentHeap x = new PersistentHeap();
        x.make(0, 1);
        x.toRoot(0, 0);
        x.make(1, 2);
        x.toField(0, 0, 1);
        x.make(2, 4);
        x.make(3, 5);
        x.toField(2, 1, 3);
        x.save();
        x.release(3);
        x.toField(0, 0, 3);
        x.toField(2, 1, 3);
        x.make(3, 3);
        x.toField(1, 1, 3);
        x.toField(3, 0, 2);
        x.release(1);
        x.release(2);
        x.release(3);
        due("needed()", x.needed(), 5);
        x.toRoot(0, 1);
        due("needed() without the present root", x.needed(), 5);
        x.release(0);
        due("needed() from the saved root alone", x.needed(), 5);
        due("back()", x.back(), 2);
        due("needed() after back", x.needed(), 2);
    }

    /** The saved fields of an object that is gone, each in a ring of 24, are not those of one made since. */
    private static void noSavedFieldsOfAnObjectMadeSince() {
        PersistentHeap x = listOfRegister(MOST);
        x.fromField(1, 0, 0);
        for (int i = 2; i < MOST; i++) {
            x.fromField(1, 1, 0);
        }
        x.toField(1, 0, 0);
        due("save()", x.save(), 0);
        x.release(0);
        due("needed() from any object of the ring", x.needed(), MOST);
        x.release(1);
        for (int i = 1; i <= MOST; i++) {
            due("make(1, " + i + ")", x.make(1, i), OK);
            x.toField(1, 1, 0);
            x.toRoot(1, 1);
            x.fromRoot(0, 1);
            x.release(1);
            due("needed()", x.needed(), i);
        }
        due("back()", x.back(), 0);
        due("needed() after back", x.needed(), MOST);
    }

    private static void goneForGood() {
        PersistentHeap x = new PersistentHeap();
        x.make(0, 5);
        x.save();
        x.release(0);
        due("needed()", x.needed(), 0);
        due("back()", x.back(), 0);
        due("needed() after back", x.needed(), 0);
        dueNoRegisters(x);
        for (int i = 0; i < MOST; i++) {
            x.make(0, 100 + i);
            x.back();
            due("number(0), not that of an object that is gone", x.number(0), 100 + i);
        }
    }

    private static void allObjectsBelongToTheSavedState() {
        for (int g = 0; g < 4; g++) {
            PersistentHeap x = new PersistentHeap();
            x.make(g, 5);
            x.toField(g, 0, g);
            due("save(), no root leads to it", x.save(), 0);
            x.setNumber(g, 6);
            x.toField(g, 1, g);
            int free = g == 0 ? 1 : 0;
            x.toField(g, 0, free);
            due("back()", x.back(), 0);
            due("number(" + g + "), changed back", x.number(g), 5);
            x.fromField(free, g, 0);
            due("its field 0, changed back", x.same(free, g), true);
            x.fromField(free, g, 1);
            dueNothing(x, free);
        }
    }

    private static void objectsMadeSinceStayAsTheyAre() {
        PersistentHeap x = new PersistentHeap();
        x.make(0, 1);
        x.toRoot(0, 0);
        x.save();
        x.make(1, 2);
        x.toField(1, 0, 1);
        x.toField(1, 1, 0);
        x.toField(0, 0, 1);
        x.setNumber(0, 10);
        x.setNumber(1, 20);
        x.toRoot(1, 1);
        for (int times = 1; times <= 2; times++) {
            due("back() " + times, x.back(), 1);
            due("number(0), in the saved state", x.number(0), 1);
            due("number(1), made since", x.number(1), 20);
            dueEmptyField(x, 0, 0);
            dueField(x, 1, 0, 20);
            dueField(x, 1, 1, 1);
            due("reach(1)", x.reach(1), 0);
        }
        x.setNumber(1, 21);
        x.back();
        due("number(1), made since and changed after back", x.number(1), 21);
        x.save();
        x.setNumber(1, 22);
        x.back();
        due("number(1), in the saved state since", x.number(1), 21);
    }

    private static void registersAfterBack() {
        PersistentHeap x = after(BoundariesTest::mixed, PersistentHeap::back).get();
        due("number(0)", x.number(0), 3);
        dueNothing(x, 1);
        due("number(2)", x.number(2), 50);
        due("number(3)", x.number(3), 2);
    }

    private static void allRegistersReferToNothingAfterACrash() {
        for (int when = 0; when < 3; when++) {
            int time = when;
            dueNoRegisters(after(BoundariesTest::mixed, x -> x.crash(time)).get());
            dueNoRegisters(after(BoundariesTest::full, x -> x.crash(time)).get());
        }
        dueSameView("crash(0)", after(BoundariesTest::mixed, x -> x.crash(0)),
            after(BoundariesTest::mixed, BoundariesTest::backAndReleaseAll));
    }

    private static int backAndReleaseAll(PersistentHeap x) {
        for (int g = 0; g < 4; g++) {
            x.release(g);
        }
        return x.back();
    }

    // ---- Promise 1 ----

    private static void twoNewObjectsAreApart() {
        PersistentHeap x = new PersistentHeap();
        PersistentHeap y = full();
        due("needed() of the new one", x.needed(), 0);
        due("make(0, 1)", x.make(0, 1), OK);
        due("needed() of the full one", y.needed(), MOST);
        due("BAD", BAD, -1);
        due("FULL", FULL, -2);
        due("NOTHING", NOTHING, -3);
        due("OK", OK, 0);
    }

    // ---- Promise 2 ----

    private static void makeOutside() {
        for (int g : NO_REGISTER) {
            dueBad("make(" + g + ", 1)", x -> x.make(g, 1));
        }
    }

    private static void makeInside() {
        for (int g = 0; g < 4; g++) {
            PersistentHeap x = new PersistentHeap();
            due("make(" + g + ", 1)", x.make(g, 1), OK);
            due("number(" + g + ")", x.number(g), 1);
            due("needed()", x.needed(), 1);
        }
    }

    private static void makeOutsideWhenFull() {
        for (int g : NO_REGISTER) {
            dueRefused("make(" + g + ", 1)", BAD, BoundariesTest::full, x -> x.make(g, 1));
        }
        for (int g = 0; g < 4; g++) {
            int to = g;
            dueRefused("make(" + g + ", 1)", FULL, BoundariesTest::full, x -> x.make(to, 1));
        }
    }

    private static void makeWhen24AreNeeded() {
        for (int g = 0; g < 4; g++) {
            int to = g;
            Call make = x -> x.make(to, 1);
            dueRefused("make(" + g + ", 1) from a register", FULL, () -> listOfRegister(MOST), make);
            dueRefused("make(" + g + ", 1) from a root", FULL, () -> listOfPresentRoot(MOST), make);
            dueRefused("make(" + g + ", 1) from a saved root", FULL, () -> listOfSavedRoot(MOST), make);
            dueRefused("make(" + g + ", 1) over saved fields", FULL, () -> listOverSavedFields(MOST), make);
        }
    }

    private static void dueRoomForOne(String name, PersistentHeap x) {
        due("needed() " + name, x.needed(), MOST - 1);
        due("make(2, 5) " + name, x.make(2, 5), OK);
        due("number(2) " + name, x.number(2), 5);
        due("needed() then " + name, x.needed(), MOST);
        due("make(1, 6) then " + name, x.make(1, 6), FULL);
    }

    private static void makeWhenOneFewerIsNeeded() {
        dueRoomForOne("from a register", listOfRegister(MOST - 1));
        dueRoomForOne("from a root", listOfPresentRoot(MOST - 1));
        dueRoomForOne("from a saved root", listOfSavedRoot(MOST - 1));
        dueRoomForOne("over saved fields", listOverSavedFields(MOST - 1));
    }

    private static void makeBeforeRegisterChanges() {
        PersistentHeap x = full();
        due("make(2, 5), register 2 alone has the 24th", x.make(2, 5), FULL);
        due("number(2)", x.number(2), 24);
        dueField(x, 2, 1, 99);
        x.release(2);
        due("make(2, 5) after release(2)", x.make(2, 5), OK);
        PersistentHeap y = listOfRegister(MOST - 1);
        due("make(0, 5), register 0 alone has all 23", y.make(0, 5), OK);
        due("needed()", y.needed(), 1);
    }

    private static void makeWithFieldsThatReferToNothing() {
        PersistentHeap x = listOfRegister(MOST);
        for (int i = 0; i < MOST; i++) {
            x.toField(0, 1, 0);
            x.fromField(0, 0, 0);
        }
        for (int i = 0; i < MOST; i++) {
            due("make(0, " + i + ")", x.make(0, i), OK);
            dueEmptyField(x, 0, 0);
            dueEmptyField(x, 0, 1);
            x.toField(0, 0, 1);
            x.toField(0, 1, 1);
            x.toRoot(0, 0);
            x.fromRoot(1, 0);
        }
        due("reach(0)", x.reach(0), MOST);
    }

    // ---- Promises 3 and 4 ----

    private static void fromRootOutside() {
        for (int g : NO_REGISTER) {
            dueBad("fromRoot(" + g + ", 0)", x -> x.fromRoot(g, 0));
            dueBad("fromRoot(" + g + ", 3)", x -> x.fromRoot(g, 3));
        }
        for (int r : NO_ROOT) {
            dueBad("fromRoot(0, " + r + ")", x -> x.fromRoot(0, r));
            dueBad("fromRoot(3, " + r + ")", x -> x.fromRoot(3, r));
        }
    }

    private static void fromRootInside() {
        for (int g = 0; g < 4; g++) {
            for (int r = 0; r < 3; r++) {
                PersistentHeap x = new PersistentHeap();
                x.make(0, 8);
                x.toRoot(r, 0);
                x.release(0);
                due("fromRoot(" + g + ", " + r + ")", x.fromRoot(g, r), OK);
                due("number(" + g + ")", x.number(g), 8);
            }
        }
    }

    private static void fromRootOfNothing() {
        for (int r = 0; r < 3; r++) {
            PersistentHeap x = new PersistentHeap();
            x.make(3, 8);
            due("fromRoot(3, " + r + ")", x.fromRoot(3, r), OK);
            dueNothing(x, 3);
        }
    }

    private static void fromRootInThePresentState() {
        PersistentHeap x = mixed();
        x.fromRoot(1, 1);
        due("number(1), not from the saved root", x.number(1), 2);
        x.fromRoot(1, 2);
        due("number(1), nothing is saved there", x.number(1), 50);
        PersistentHeap y = listOfSavedRoot(2);
        y.fromRoot(1, 0);
        dueNothing(y, 1);
    }

    private static void toRootOutside() {
        for (int r : NO_ROOT) {
            dueBad("toRoot(" + r + ", 0)", x -> x.toRoot(r, 0));
            dueBad("toRoot(" + r + ", 3)", x -> x.toRoot(r, 3));
        }
        for (int g : NO_REGISTER) {
            dueBad("toRoot(0, " + g + ")", x -> x.toRoot(0, g));
            dueBad("toRoot(2, " + g + ")", x -> x.toRoot(2, g));
            dueBad("toRoot(3, " + g + ")", x -> x.toRoot(3, g));
        }
    }

    private static void toRootInside() {
        for (int r = 0; r < 3; r++) {
            for (int g = 0; g < 4; g++) {
                PersistentHeap x = new PersistentHeap();
                x.make(g, 8);
                due("toRoot(" + r + ", " + g + ")", x.toRoot(r, g), OK);
                for (int other = 0; other < 3; other++) {
                    due("reach(" + other + ")", x.reach(other), other == r ? 1 : 0);
                }
            }
        }
    }

    private static void toRootOfNothing() {
        for (int r = 0; r < 3; r++) {
            PersistentHeap x = mixed();
            due("toRoot(" + r + ", 1)", x.toRoot(r, 1), OK);
            due("reach(" + r + ")", x.reach(r), 0);
            x.fromRoot(0, r);
            dueNothing(x, 0);
        }
    }

    // ---- Promises 5 and 6 ----

    private static void fromFieldOutside() {
        for (int bad : NO_REGISTER) {
            dueBad("fromField(" + bad + ", 0, 0)", x -> x.fromField(bad, 0, 0));
            dueBad("fromField(0, " + bad + ", 1)", x -> x.fromField(0, bad, 1));
        }
        for (int f : NO_FIELD) {
            dueBad("fromField(0, 0, " + f + ")", x -> x.fromField(0, 0, f));
            dueBad("fromField(3, 2, " + f + ")", x -> x.fromField(3, 2, f));
        }
    }

    private static void fromFieldOfNothing() {
        for (int g = 0; g < 4; g++) {
            for (int f = 0; f < 2; f++) {
                int to = g;
                int at = f;
                String name = "fromField(" + g + ", 1, " + f + ")";
                dueRefused(name, NOTHING, BoundariesTest::mixed, x -> x.fromField(to, 1, at));
                dueRefused(name + " on a full heap", NOTHING, BoundariesTest::full, x -> x.fromField(to, 1, at));
            }
        }
        for (int s = 0; s < 4; s++) {
            int of = s;
            String name = "fromField(0, " + s + ", 0) on a new heap";
            dueRefused(name, NOTHING, PersistentHeap::new, x -> x.fromField(0, of, 0));
        }
    }

    private static void fromFieldOutsideAndOfNothing() {
        for (int g : NO_REGISTER) {
            dueRefused("fromField(" + g + ", 1, 0)", BAD, BoundariesTest::mixed, x -> x.fromField(g, 1, 0));
        }
        for (int f : NO_FIELD) {
            dueRefused("fromField(0, 1, " + f + ")", BAD, BoundariesTest::mixed, x -> x.fromField(0, 1, f));
        }
    }

    private static void fromFieldInside() {
        for (int g = 0; g < 4; g++) {
            for (int s = 0; s < 4; s++) {
                for (int f = 0; f < 2; f++) {
                    PersistentHeap x = new PersistentHeap();
                    x.make(3 - s, 8);
                    x.make(s, 9);
                    x.toField(s, f, 3 - s);
                    String name = "fromField(" + g + ", " + s + ", " + f + ")";
                    due(name, x.fromField(g, s, f), OK);
                    due("number(" + g + ") after " + name, x.number(g), 8);
                }
            }
        }
    }

    private static void fromFieldThatRefersToNothing() {
        for (int f = 0; f < 2; f++) {
            PersistentHeap x = new PersistentHeap();
            x.make(0, 8);
            x.make(1, 9);
            due("fromField(1, 0, " + f + ")", x.fromField(1, 0, f), OK);
            dueNothing(x, 1);
            due("fromField(0, 0, " + f + ")", x.fromField(0, 0, f), OK);
            dueNothing(x, 0);
        }
    }

    private static void toFieldOutside() {
        for (int bad : NO_REGISTER) {
            dueBad("toField(" + bad + ", 0, 0)", x -> x.toField(bad, 0, 0));
            dueBad("toField(0, 1, " + bad + ")", x -> x.toField(0, 1, bad));
        }
        for (int f : NO_FIELD) {
            dueBad("toField(0, " + f + ", 1)", x -> x.toField(0, f, 1));
            dueBad("toField(2, " + f + ", 3)", x -> x.toField(2, f, 3));
        }
    }

    private static void toFieldOfNothing() {
        for (int g = 0; g < 4; g++) {
            for (int f = 0; f < 2; f++) {
                int from = g;
                int at = f;
                String name = "toField(1, " + f + ", " + g + ")";
                dueRefused(name, NOTHING, BoundariesTest::mixed, x -> x.toField(1, at, from));
                dueRefused(name + " on a full heap", NOTHING, BoundariesTest::full, x -> x.toField(1, at, from));
            }
        }
        for (int s = 0; s < 4; s++) {
            int of = s;
            String name = "toField(" + s + ", 0, 0) on a new heap";
            dueRefused(name, NOTHING, PersistentHeap::new, x -> x.toField(of, 0, 0));
        }
    }

    private static void toFieldOutsideAndOfNothing() {
        for (int g : NO_REGISTER) {
            dueRefused("toField(1, 0, " + g + ")", BAD, BoundariesTest::mixed, x -> x.toField(1, 0, g));
        }
        for (int f : NO_FIELD) {
            dueRefused("toField(1, " + f + ", 0)", BAD, BoundariesTest::mixed, x -> x.toField(1, f, 0));
        }
    }

    private static void toFieldInside() {
        for (int s = 0; s < 4; s++) {
            for (int g = 0; g < 4; g++) {
                for (int f = 0; f < 2; f++) {
                    PersistentHeap x = new PersistentHeap();
                    x.make(g, 8);
                    if (s != g) {
                        x.make(s, 9);
                    }
                    due("toField(" + s + ", " + f + ", " + g + ")", x.toField(s, f, g), OK);
                    x.toRoot(2, s);
                    x.fromField(s, s, f);
                    due("number(" + s + ")", x.number(s), 8);
                    x.fromRoot(s, 2);
                    x.fromField(s, s, 1 - f);
                    dueNothing(x, s);
                }
            }
        }
    }

    private static void toFieldFromNothing() {
        for (int f = 0; f < 2; f++) {
            PersistentHeap x = new PersistentHeap();
            x.make(0, 8);
            x.toField(0, 0, 0);
            x.toField(0, 1, 0);
            due("toField(0, " + f + ", 1)", x.toField(0, f, 1), OK);
            dueEmptyField(x, 0, f);
            dueField(x, 0, 1 - f, 8);
        }
    }

    // ---- Promise 7 ----

    private static void releaseOutside() {
        for (int g : NO_REGISTER) {
            dueBad("release(" + g + ")", x -> x.release(g));
        }
    }

    private static void releaseInside() {
        for (int g = 0; g < 4; g++) {
            PersistentHeap x = new PersistentHeap();
            for (int h = 0; h < 4; h++) {
                x.make(h, 10 + h);
            }
            due("release(" + g + ")", x.release(g), OK);
            for (int h = 0; h < 4; h++) {
                due("number(" + h + ")", x.number(h), h == g ? 0 : 10 + h);
            }
            due("release(" + g + ") of nothing", x.release(g), OK);
            due("needed()", x.needed(), 3);
        }
        dueUnchanged("release(1) of nothing", BoundariesTest::mixed, x -> x.release(1));
    }

    // ---- Promises 8 and 9 ----

    private static void numberOutside() {
        for (int g : NO_REGISTER) {
            due("number(" + g + ") of a new heap", new PersistentHeap().number(g), 0);
            due("number(" + g + ")", mixed().number(g), 0);
            due("number(" + g + ") of a full heap", full().number(g), 0);
            dueUnchanged("number(" + g + ")", BoundariesTest::mixed, x -> x.number(g));
        }
    }

    private static void numberOfNothing() {
        for (int g = 0; g < 4; g++) {
            PersistentHeap x = new PersistentHeap();
            due("number(" + g + ") of a new heap", x.number(g), 0);
            x.make(g, 9);
            due("number(" + g + ")", x.number(g), 9);
            x.release(g);
            due("number(" + g + ") after release", x.number(g), 0);
        }
    }

    private static void numberOfAnObjectLikeThatOfNothing() {
        PersistentHeap x = new PersistentHeap();
        x.make(0, 0);
        due("number(0)", x.number(0), 0);
        due("same(0, 1), an object and nothing", x.same(0, 1), false);
        due("setNumber(0, 1)", x.setNumber(0, 1), OK);
    }

    private static void setNumberOutside() {
        for (int g : NO_REGISTER) {
            dueBad("setNumber(" + g + ", 9)", x -> x.setNumber(g, 9));
        }
    }

    private static void setNumberOfNothing() {
        for (int number : ANY_INT) {
            Call set = x -> x.setNumber(1, number);
            dueRefused("setNumber(1, " + number + ")", NOTHING, BoundariesTest::mixed, set);
            dueRefused("setNumber(1, " + number + ") on a full heap", NOTHING, BoundariesTest::full, set);
            dueRefused("setNumber(1, " + number + ") on a new heap", NOTHING, PersistentHeap::new, set);
        }
    }

    private static void setNumberInside() {
        for (int g = 0; g < 4; g++) {
            PersistentHeap x = new PersistentHeap();
            for (int h = 0; h < 4; h++) {
                x.make(h, 10 + h);
            }
            due("setNumber(" + g + ", 7)", x.setNumber(g, 7), OK);
            for (int h = 0; h < 4; h++) {
                due("number(" + h + ")", x.number(h), h == g ? 7 : 10 + h);
            }
        }
    }

    // ---- Promise 10 ----

    private static void sameOutside() {
        for (int bad : NO_REGISTER) {
            for (int g = 0; g < 4; g++) {
                due("same(" + bad + ", " + g + ")", mixed().same(bad, g), false);
                due("same(" + g + ", " + bad + ")", mixed().same(g, bad), false);
                due("same(" + bad + ", " + g + ") of a new heap", new PersistentHeap().same(bad, g), false);
                due("same(" + g + ", " + bad + ") of a new heap", new PersistentHeap().same(g, bad), false);
            }
            for (int other : NO_REGISTER) {
                due("same(" + bad + ", " + other + ")", mixed().same(bad, other), false);
            }
            dueUnchanged("same(" + bad + ", 0)", BoundariesTest::mixed, x -> x.same(bad, 0) ? 1 : 0);
        }
    }

    private static void sameOfNothing() {
        for (int g = 0; g < 4; g++) {
            for (int h = 0; h < 4; h++) {
                due("same(" + g + ", " + h + ") of a new heap", new PersistentHeap().same(g, h), true);
                PersistentHeap x = new PersistentHeap();
                x.make(g, 0);
                due("same(" + g + ", " + h + "), an object in " + g, x.same(g, h), g == h);
                due("same(" + h + ", " + g + "), an object in " + g, x.same(h, g), g == h);
            }
        }
    }

    private static void sameOfTwoObjectsAlike() {
        PersistentHeap x = new PersistentHeap();
        x.make(0, 5);
        x.make(3, 5);
        due("same(0, 3), two objects", x.same(0, 3), false);
        x.toField(0, 0, 0);
        x.fromField(3, 0, 0);
        due("same(0, 3), one object", x.same(0, 3), true);
        due("same(3, 0), one object", x.same(3, 0), true);
    }

    // ---- Promises 11 and 12 ----

    private static void saveCounts() {
        due("save() of a new heap", new PersistentHeap().save(), 0);
        due("save(), registers alone", listOfRegister(MOST).save(), 0);
        due("save() of 1", list(1).save(), 1);
        due("save() of 23", full().save(), MOST - 1);
        due("save() of 24", listOfPresentRoot(MOST).save(), MOST);
        due("save(), the saved root alone has 24", listOfSavedRoot(MOST).save(), 0);
        PersistentHeap x = list(2);
        x.toRoot(1, 0);
        x.toRoot(2, 0);
        due("save(), three roots to one object", x.save(), 2);
        due("save() again", x.save(), 2);
        PersistentHeap y = new PersistentHeap();
        for (int r = 0; r < 3; r++) {
            y.make(0, r);
            y.toRoot(r, 0);
        }
        due("save(), three roots to three objects", y.save(), 3);
    }

    private static void savedTwiceIsSavedOnce() {
        Supplier<PersistentHeap> once = after(BoundariesTest::mixed, PersistentHeap::save);
        dueUnchanged("save() again", once, PersistentHeap::save);
        dueUnchanged("back() right after save()", once, PersistentHeap::back);
    }

    private static void backCounts() {
        due("back() of a new heap", new PersistentHeap().back(), 0);
        due("back() with no save before", list(MOST).back(), 0);
        due("back(), registers alone", listOfRegister(MOST).back(), 0);
        due("back() of 23", full().back(), MOST - 1);
        due("back() of 24", listOfSavedRoot(MOST).back(), MOST);
        PersistentHeap x = listOfSavedRoot(MOST);
        x.back();
        due("reach(0)", x.reach(0), MOST);
        due("needed()", x.needed(), MOST);
        PersistentHeap y = listOverSavedFields(MOST);
        y.back();
        y.toRoot(2, 0);
        due("reach(2) over fields that came back", y.reach(2), MOST);
    }

    private static void backTwiceIsBackOnce() {
        dueUnchanged("back() again", after(BoundariesTest::mixed, PersistentHeap::back), PersistentHeap::back);
        dueUnchanged("back() again", after(BoundariesTest::full, PersistentHeap::back), PersistentHeap::back);
    }

    // ---- Promise 13 ----

    private static void crashOutside() {
        for (int when : NO_TIME) {
            dueBad("crash(" + when + ")", x -> x.crash(when));
        }
    }

    private static void crashAtAnyTimeOrBeforeTheLastWrite() {
        for (int when = 0; when < 2; when++) {
            int time = when;
            due("crash(" + when + ") of a new heap", new PersistentHeap().crash(when), 0);
            due("crash(" + when + ")", mixed().crash(when), 4);
            due("crash(" + when + ") of a full heap", full().crash(when), MOST - 1);
            due("crash(" + when + ") with no save before", list(MOST).crash(when), 0);
            due("crash(" + when + ") with 24 saved", listOfSavedRoot(MOST).crash(when), MOST);
            PersistentHeap x = after(BoundariesTest::full, y -> y.crash(time)).get();
            due("needed()", x.needed(), MOST - 1);
            x.fromRoot(0, 0);
            due("number(0), not saved", x.number(0), MOST - 1);
            dueSameView("crash(" + when + ")", after(BoundariesTest::mixed, y -> y.crash(time)),
                after(BoundariesTest::mixed, BoundariesTest::backAndReleaseAll));
        }
    }

    private static void crashRightAfterTheLastWrite() {
        due("crash(2) of a new heap", new PersistentHeap().crash(2), 0);
        due("crash(2), registers alone", listOfRegister(MOST).crash(2), 0);
        due("crash(2), the saved root alone has 24", listOfSavedRoot(MOST).crash(2), 0);
        due("crash(2) of 24", list(MOST).crash(2), MOST);
        due("crash(2)", mixed().crash(2), 5);
        PersistentHeap x = after(BoundariesTest::full, y -> y.crash(2)).get();
        due("needed()", x.needed(), MOST - 1);
        x.fromRoot(0, 0);
        due("number(0), saved", x.number(0), 99);
        x.setNumber(0, 1);
        x.crash(1);
        x.fromRoot(0, 0);
        due("number(0) after the next crash", x.number(0), 99);
        dueSameView("crash(2)", after(BoundariesTest::mixed, y -> y.crash(2)),
            after(after(BoundariesTest::mixed, PersistentHeap::save), y -> y.crash(0)));
    }

    // ---- Promises 14 and 15 ----

    private static void collectCounts() {
        due("collect() of a new heap", new PersistentHeap().collect(), 0);
        due("collect() of 23", list(MOST - 1).collect(), MOST - 1);
        due("collect() of 24 from a register", listOfRegister(MOST).collect(), MOST);
        due("collect() of 24 from a root", listOfPresentRoot(MOST).collect(), MOST);
        due("collect() of 24 from a saved root", listOfSavedRoot(MOST).collect(), MOST);
        due("collect() of 24 over saved fields", listOverSavedFields(MOST).collect(), MOST);
        due("collect() of both states", mixed().collect(), 5);
    }

    private static void collectChangesNothing() {
        dueUnchanged("collect() of a new heap", PersistentHeap::new, PersistentHeap::collect);
        dueUnchanged("collect()", BoundariesTest::mixed, PersistentHeap::collect);
        dueUnchanged("collect() of a full heap", BoundariesTest::full, PersistentHeap::collect);
        dueUnchanged("collect() of saved fields", () -> listOverSavedFields(4), PersistentHeap::collect);
        PersistentHeap x = full();
        x.collect();
        due("make(1, 1) after collect() of 24", x.make(1, 1), FULL);
    }

    private static void collectAndCrashAtAnyStep() {
        for (int steps : STEPS) {
            String name = "collectAndCrash(" + steps + ")";
            Call crash = x -> x.collectAndCrash(steps);
            due(name + " of a new heap", new PersistentHeap().collectAndCrash(steps), 0);
            due(name, mixed().collectAndCrash(steps), 4);
            due(name + " of a full heap", full().collectAndCrash(steps), MOST - 1);
            due(name + " of 24", listOfSavedRoot(MOST).collectAndCrash(steps), MOST);
            due(name + " with no save before", list(MOST).collectAndCrash(steps), 0);
            dueSameView(name, after(BoundariesTest::mixed, crash), after(BoundariesTest::mixed, x -> x.crash(0)));
            dueSameView(name + " of a full heap", after(BoundariesTest::full, crash),
                after(BoundariesTest::full, x -> x.crash(0)));
            dueNoRegisters(after(BoundariesTest::full, crash).get());
        }
    }

    // ---- Promises 16 and 17 ----

    private static void neededCounts() {
        due("needed() of a new heap", new PersistentHeap().needed(), 0);
        due("needed() of 23", list(MOST - 1).needed(), MOST - 1);
        due("needed() of 24 from a register", listOfRegister(MOST).needed(), MOST);
        due("needed() of 24 from a root", listOfPresentRoot(MOST).needed(), MOST);
        due("needed() of 24 from a saved root", listOfSavedRoot(MOST).needed(), MOST);
        due("needed() of 24 over saved fields", listOverSavedFields(MOST).needed(), MOST);
        due("needed() of both states", mixed().needed(), 5);
        dueUnchanged("needed()", BoundariesTest::mixed, PersistentHeap::needed);
        dueUnchanged("needed() of a full heap", BoundariesTest::full, PersistentHeap::needed);
    }

    private static void reachOutside() {
        for (int r : NO_ROOT) {
            dueBad("reach(" + r + ")", x -> x.reach(r));
        }
    }

    private static void reachCounts() {
        for (int r = 0; r < 3; r++) {
            int from = r;
            due("reach(" + r + ") of a new heap", new PersistentHeap().reach(r), 0);
            due("reach(" + r + "), registers alone", listOfRegister(MOST).reach(r), 0);
            for (int count = MOST - 1; count <= MOST; count++) {
                PersistentHeap x = list(count);
                x.toRoot(r, 0);
                due("reach(" + r + ") of " + count, x.reach(r), count);
            }
            dueUnchanged("reach(" + r + ")", BoundariesTest::mixed, x -> x.reach(from));
        }
    }

    private static void reachInThePresentState() {
        due("reach(0), the saved root has 24", listOfSavedRoot(MOST).reach(0), 0);
        PersistentHeap x = listOverSavedFields(MOST);
        x.toRoot(2, 0);
        due("reach(2), the saved fields lead to 24", x.reach(2), 1);
        PersistentHeap y = mixed();
        due("reach(0)", y.reach(0), 2);
        due("reach(1)", y.reach(1), 3);
        due("reach(2)", y.reach(2), 3);
    }

    // ---- all sentences ----

    private static void test(String words, Runnable run) {
        sentence = words;
        looks = 0;
        run.run();
        sentences++;
        if (looks == 0) {
            fault("nothing was looked at");
        }
    }

    private static void terms() {
        test("What it is, 'for at most 512 calls'", BoundariesTest::the512thCall);
        test("Terms, 'a number, any int'", BoundariesTest::numberIsAnyInt);
        test("Terms, 'refers to an object (perhaps to itself)'", BoundariesTest::aFieldRefersToItsOwnObject);
        test("Terms, 'one can come to it', a ring", BoundariesTest::objectsWithoutNeedInARing);
        test("Terms, '3 ROOTS, 0 to 2, and 4 REGISTERS, 0 to 3'", BoundariesTest::threeRootsAndFourRegisters);
        test("Terms, 'In the beginning everything refers to nothing'", BoundariesTest::nothingInTheBeginning);
        test("Terms, 'in both states'", BoundariesTest::nothingInTheSavedStateInTheBeginning);
        test("Terms, 'from what a register refers to'", BoundariesTest::neededFromARegister);
        test("Terms, 'a root refers to in the present'", BoundariesTest::neededFromARootInThePresentState);
        test("Terms, 'or in the saved state'", BoundariesTest::neededFromARootInTheSavedState);
        test("Terms, 'fields, each as it is in the present'", BoundariesTest::neededOverAPresentField);
        test("Terms, 'or in the saved state', of fields", BoundariesTest::neededOverASavedField);
        test("Terms, 'each as it is', both states", BoundariesTest::neededOverFieldsOfBothStatesInOneWay);
        test("Terms, 'and so are not in the saved state'", BoundariesTest::noSavedFieldsOfAnObjectMadeSince);
        test("Terms, 'is not needed is gone for good'", BoundariesTest::goneForGood);
        test("Terms, 'all objects that there are belong to it'", BoundariesTest::allObjectsBelongToTheSavedState);
        test("Terms, 'stay as they are'", BoundariesTest::objectsMadeSinceStayAsTheyAre);
        test("Terms, 'to GO BACK', with registers as they are", BoundariesTest::registersAfterBack);
        test("Terms, 'all registers refer to nothing then'", BoundariesTest::allRegistersReferToNothingAfterACrash);
    }

    private static void promises1To4() {
        test("Promise 1, 'As said above'", BoundariesTest::twoNewObjectsAreApart);
        test("Promise 2, 'g outside 0..3: BAD'", BoundariesTest::makeOutside);
        test("Promise 2, 'Else OK'", BoundariesTest::makeInside);
        test("Promise 2, 'Tested in this order'", BoundariesTest::makeOutsideWhenFull);
        test("Promise 2, '24 objects are needed: FULL'", BoundariesTest::makeWhen24AreNeeded);
        test("Promise 2, one fewer than 24: 'Else OK'", BoundariesTest::makeWhenOneFewerIsNeeded);
        test("Promise 2, 'before register g changes'", BoundariesTest::makeBeforeRegisterChanges);
        test("Promise 2, 'fields that refer to nothing'", BoundariesTest::makeWithFieldsThatReferToNothing);
        test("Promise 3, 'g outside 0..3 or r outside 0..2: BAD'", BoundariesTest::fromRootOutside);
        test("Promise 3, 'Else OK'", BoundariesTest::fromRootInside);
        test("Promise 3, 'what root r refers to', nothing", BoundariesTest::fromRootOfNothing);
        test("Promise 3, 'in the present state'", BoundariesTest::fromRootInThePresentState);
        test("Promise 4, 'r outside 0..2 or g outside 0..3: BAD'", BoundariesTest::toRootOutside);
        test("Promise 4, 'Else OK'", BoundariesTest::toRootInside);
        test("Promise 4, 'what register g refers to', nothing", BoundariesTest::toRootOfNothing);
    }

    private static void promises5To10() {
        test("Promise 5, 'g or s outside 0..3 or f outside 0..1: BAD'", BoundariesTest::fromFieldOutside);
        test("Promise 5, 'refers to nothing: NOTHING'", BoundariesTest::fromFieldOfNothing);
        test("Promise 5, 'tested in this order'", BoundariesTest::fromFieldOutsideAndOfNothing);
        test("Promise 5, 'Else OK'", BoundariesTest::fromFieldInside);
        test("Promise 5, 'what field f refers to', nothing", BoundariesTest::fromFieldThatRefersToNothing);
        test("Promise 6, 'BAD as for fromField'", BoundariesTest::toFieldOutside);
        test("Promise 6, 'NOTHING as for fromField'", BoundariesTest::toFieldOfNothing);
        test("Promise 6, 'as for fromField', the order", BoundariesTest::toFieldOutsideAndOfNothing);
        test("Promise 6, 'Else OK'", BoundariesTest::toFieldInside);
        test("Promise 6, 'what register g refers to', nothing", BoundariesTest::toFieldFromNothing);
        test("Promise 7, 'g outside 0..3: BAD'", BoundariesTest::releaseOutside);
        test("Promise 7, 'Else OK'", BoundariesTest::releaseInside);
        test("Promise 8, '0 if g is outside 0..3'", BoundariesTest::numberOutside);
        test("Promise 8, '0 if it refers to nothing'", BoundariesTest::numberOfNothing);
        test("Promise 8, the number 0 of an object", BoundariesTest::numberOfAnObjectLikeThatOfNothing);
        test("Promise 9, 'g outside 0..3: BAD'", BoundariesTest::setNumberOutside);
        test("Promise 9, 'it refers to nothing: NOTHING'", BoundariesTest::setNumberOfNothing);
        test("Promise 9, 'Else OK'", BoundariesTest::setNumberInside);
        test("Promise 10, 'false for a number outside 0..3'", BoundariesTest::sameOutside);
        test("Promise 10, 'or both to nothing'", BoundariesTest::sameOfNothing);
        test("Promise 10, 'the same object'", BoundariesTest::sameOfTwoObjectsAlike);
    }

    private static void promises11To17() {
        test("Promise 11, 'the number of objects'", BoundariesTest::saveCounts);
        test("Promise 11, 'Saves', with nothing new to save", BoundariesTest::savedTwiceIsSavedOnce);
        test("Promise 12, 'answers as save does'", BoundariesTest::backCounts);
        test("Promise 12, 'Goes back', with nothing to go back from", BoundariesTest::backTwiceIsBackOnce);
        test("Promise 13, 'when outside 0..2: BAD'", BoundariesTest::crashOutside);
        test("Promise 13, 'so that nothing is saved'", BoundariesTest::crashAtAnyTimeOrBeforeTheLastWrite);
        test("Promise 13, 'so that it is saved'", BoundariesTest::crashRightAfterTheLastWrite);
        test("Promise 14, 'Answers how many are needed'", BoundariesTest::collectCounts);
        test("Promise 14, 'nothing that can be seen changes'", BoundariesTest::collectChangesNothing);
        test("Promise 15, 'clamped into 0..24'", BoundariesTest::collectAndCrashAtAnyStep);
        test("Promise 16, 'The number of needed objects'", BoundariesTest::neededCounts);
        test("Promise 17, 'BAD for r outside 0..2'", BoundariesTest::reachOutside);
        test("Promise 17, 'The number of objects'", BoundariesTest::reachCounts);
        test("Promise 17, 'in the present state'", BoundariesTest::reachInThePresentState);
    }

    public static void main(String[] args) {
        terms();
        promises1To4();
        promises5To10();
        promises11To17();
        System.out.println(wrong == 0 ? sentences + " sentences hold" : wrong + " faults");
        if (wrong != 0) {
            System.exit(1);
        }
    }
}
