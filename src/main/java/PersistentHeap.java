/**
 * Objects that outlast crashes, changed in transactions, with a collector.
 *
 * An object lives in one of the slots 1 to 24. Since never more than 24 objects are needed, no
 * object has to move: a slot whose object isn't needed is free for the next one.
 */
public final class PersistentHeap {
    public static final int BAD = -1;
    public static final int FULL = -2;
    public static final int NOTHING = -3;
    public static final int OK = 0;

    private static final int REGISTERS = 4;
    private static final int ROOTS = 3;
    private static final int FIELDS = 2;

    private static final int CRASH_AT_ANY_TIME = 0;
    private static final int CRASH_AFTER_SAVING = 2;

    // Slot 0 stands for nothing and is never written: so new arrays refer to nothing all over, and
    // the number of nothing is 0.
    private static final int NONE = 0;
    private static final int SLOTS = 25;
    private static final int FIELDS_OF_SLOTS = 50;

    private final int[] registers = new int[REGISTERS];

    private final int[] roots = new int[ROOTS];
    private final int[] numbers = new int[SLOTS];
    private final int[] fields = new int[FIELDS_OF_SLOTS];

    private final int[] savedRoots = new int[ROOTS];
    private final int[] savedNumbers = new int[SLOTS];
    private final int[] savedFields = new int[FIELDS_OF_SLOTS];
    private final boolean[] inSavedState = new boolean[SLOTS];

    // The slots come to in the walk under way or the latest one, in the order in which they were
    // found; each is found once, so that the list can't overflow.
    private final boolean[] found = new boolean[SLOTS];
    private final int[] foundSlots = new int[SLOTS];
    private int foundCount = 0;

    public PersistentHeap() {
    }

    public int make(int g, int number) {
        if (!isRegister(g)) {
            return BAD;
        }
        walkNeeded();
        int slot = slotNotFound();
        if (slot == NONE) {
            return FULL;
        }
        fillSlot(slot, number);
        registers[g] = slot;
        return OK;
    }

    public int fromRoot(int g, int r) {
        if (!isRegister(g) || !isRoot(r)) {
            return BAD;
        }
        registers[g] = roots[r];
        return OK;
    }

    public int toRoot(int r, int g) {
        if (!isRoot(r) || !isRegister(g)) {
            return BAD;
        }
        roots[r] = registers[g];
        return OK;
    }

    public int fromField(int g, int s, int f) {
        if (!isRegister(g) || !isRegister(s) || !isField(f)) {
            return BAD;
        }
        int slot = registers[s];
        if (slot == NONE) {
            return NOTHING;
        }
        registers[g] = fields[slot * FIELDS + f];
        return OK;
    }

    public int toField(int s, int f, int g) {
        if (!isRegister(s) || !isField(f) || !isRegister(g)) {
            return BAD;
        }
        int slot = registers[s];
        if (slot == NONE) {
            return NOTHING;
        }
        fields[slot * FIELDS + f] = registers[g];
        return OK;
    }

    public int release(int g) {
        if (!isRegister(g)) {
            return BAD;
        }
        registers[g] = NONE;
        return OK;
    }

    public int number(int g) {
        if (!isRegister(g)) {
            return 0;
        }
        return numbers[registers[g]];
    }

    public int setNumber(int g, int number) {
        if (!isRegister(g)) {
            return BAD;
        }
        int slot = registers[g];
        if (slot == NONE) {
            return NOTHING;
        }
        numbers[slot] = number;
        return OK;
    }

    public boolean same(int g, int h) {
        return isRegister(g) && isRegister(h) && registers[g] == registers[h];
    }

    public int save() {
        keepPresentState();
        return countFromRoots();
    }

    public int back() {
        restoreSavedState();
        return countFromRoots();
    }

    public int crash(int when) {
        if (when < CRASH_AT_ANY_TIME || when > CRASH_AFTER_SAVING) {
            return BAD;
        }
        if (when == CRASH_AFTER_SAVING) {
            keepPresentState();
        }
        loseUnsaved();
        return countFromRoots();
    }

    public int collect() {
        walkNeeded();
        return foundCount;
    }

    // No object moves, so the steps make no difference, and needn't be clamped.
    public int collectAndCrash(int steps) {
        loseUnsaved();
        return countFromRoots();
    }

    public int needed() {
        walkNeeded();
        return foundCount;
    }

    public int reach(int r) {
        if (!isRoot(r)) {
            return BAD;
        }
        startWalk();
        find(roots[r]);
        walkPresentFields();
        return foundCount;
    }

    private static boolean isRegister(int g) {
        return g >= 0 && g < REGISTERS;
    }

    private static boolean isRoot(int r) {
        return r >= 0 && r < ROOTS;
    }

    private static boolean isField(int f) {
        return f >= 0 && f < FIELDS;
    }

    private int slotNotFound() {
        for (int slot = NONE + 1; slot < SLOTS; slot++) {
            if (!found[slot]) {
                return slot;
            }
        }
        return NONE;
    }

    // The slot may have held an object of the saved state: what was saved of that one must not be
    // given to the new one by going back, nor keep other objects needed.
    private void fillSlot(int slot, int number) {
        numbers[slot] = number;
        inSavedState[slot] = false;
        for (int f = 0; f < FIELDS; f++) {
            fields[slot * FIELDS + f] = NONE;
            savedFields[slot * FIELDS + f] = NONE;
        }
    }

    // Slots of objects that aren't needed are kept too, which does no harm: one can't come to them.
    private void keepPresentState() {
        for (int r = 0; r < ROOTS; r++) {
            savedRoots[r] = roots[r];
        }
        for (int slot = NONE + 1; slot < SLOTS; slot++) {
            savedNumbers[slot] = numbers[slot];
            inSavedState[slot] = true;
        }
        for (int at = 0; at < FIELDS_OF_SLOTS; at++) {
            savedFields[at] = fields[at];
        }
    }

    private void restoreSavedState() {
        for (int r = 0; r < ROOTS; r++) {
            roots[r] = savedRoots[r];
        }
        for (int slot = NONE + 1; slot < SLOTS; slot++) {
            if (inSavedState[slot]) {
                restoreSlot(slot);
            }
        }
    }

    private void restoreSlot(int slot) {
        numbers[slot] = savedNumbers[slot];
        for (int f = 0; f < FIELDS; f++) {
            fields[slot * FIELDS + f] = savedFields[slot * FIELDS + f];
        }
    }

    private void loseUnsaved() {
        restoreSavedState();
        for (int g = 0; g < REGISTERS; g++) {
            registers[g] = NONE;
        }
    }

    private int countFromRoots() {
        startWalk();
        findRoots(roots);
        walkPresentFields();
        return foundCount;
    }

    private void walkNeeded() {
        startWalk();
        for (int g = 0; g < REGISTERS; g++) {
            find(registers[g]);
        }
        findRoots(roots);
        findRoots(savedRoots);
        walkPresentAndSavedFields();
    }

    private void startWalk() {
        foundCount = 0;
        for (int slot = 0; slot < SLOTS; slot++) {
            found[slot] = false;
        }
    }

    private void find(int slot) {
        if (slot == NONE || found[slot]) {
            return;
        }
        found[slot] = true;
        foundSlots[foundCount] = slot;
        foundCount++;
    }

    private void findRoots(int[] ofState) {
        for (int r = 0; r < ROOTS; r++) {
            find(ofState[r]);
        }
    }

    private void findFields(int[] ofState, int slot) {
        for (int f = 0; f < FIELDS; f++) {
            find(ofState[slot * FIELDS + f]);
        }
    }

    // foundCount grows while these two loops run; that ends at SLOTS.
    private void walkPresentFields() {
        for (int at = 0; at < SLOTS && at < foundCount; at++) {
            findFields(fields, foundSlots[at]);
        }
    }

    private void walkPresentAndSavedFields() {
        for (int at = 0; at < SLOTS && at < foundCount; at++) {
            int slot = foundSlots[at];
            findFields(fields, slot);
            findFields(savedFields, slot);
        }
    }
}
