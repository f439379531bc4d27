/**
 * A card with three applets: their methods are checked before they are taken in, run on a stack
 * machine with a wall between the applets' objects, and change lasting memory in transactions that
 * a power failure undoes.
 *
 * A method and a root are numbered 2 * applet + their own number throughout. An object is numbered
 * 1 .. 8, so that the 0 of a new array is the null reference.
 */
public final class TearSafeCard {
    public static final int RETURNED = 0;
    public static final int STEPS = 1;
    public static final int NULL = 2;
    public static final int WALL = 3;
    public static final int BOUNDS = 4;
    public static final int ABSENT = 5;
    public static final int DEPTH = 6;
    public static final int MEMORY = 7;
    public static final int NESTING = 8;
    public static final int TORN = 9;
    public static final int BAD = 10;
    public static final int REFUSED = -1;

    private static final int OP_PUSH = 0;
    private static final int OP_LOAD = 1;
    private static final int OP_STORE = 2;
    private static final int OP_ADD = 3;
    private static final int OP_SUB = 4;
    private static final int OP_MUL = 5;
    private static final int OP_LESS = 6;
    private static final int OP_JUMP = 7;
    private static final int OP_JZERO = 8;
    private static final int OP_ROOT = 9;
    private static final int OP_SETROOT = 10;
    private static final int OP_NEW = 11;
    private static final int OP_GET = 12;
    private static final int OP_PUT = 13;
    private static final int OP_SHARE = 14;
    private static final int OP_LENGTH = 15;
    private static final int OP_FOREIGN = 16;
    private static final int OP_NULL = 17;
    private static final int OP_CALL = 18;
    private static final int OP_RETURN = 19;
    private static final int OP_DUP = 20;
    private static final int OP_DROP = 21;
    private static final int OP_BEGIN = 22;
    private static final int OP_COMMIT = 23;
    private static final int OP_ABORT = 24;

    private static final int LEAST_LIMIT = 20;
    private static final int GREATEST_LIMIT = 250;
    private static final int GREATEST_TEAR = 100;

    private static final int APPLETS = 3;
    /** Of each applet: methods, and roots. */
    private static final int PER_APPLET = 2;
    private static final int METHODS = APPLETS * PER_APPLET;
    private static final int ROOTS = APPLETS * PER_APPLET;
    private static final int CODE_SIZE = 16;
    private static final int LINES = METHODS * CODE_SIZE;

    private static final int NOTHING = 0;
    private static final int OBJECTS = 8;
    private static final int OBJECT_NUMBERS = OBJECTS + 1;
    private static final int OBJECT_SIZE = 4;
    private static final int ELEMENTS = OBJECT_NUMBERS * OBJECT_SIZE;

    private static final int FRAMES = 4;
    private static final int LOCALS = 2;
    private static final int STACK_SIZE = 4;
    /** A frame's cells: first its locals, then its stack from the bottom up. */
    private static final int CELLS = LOCALS + STACK_SIZE;
    private static final int FRAME_CELLS = FRAMES * CELLS;
    private static final int WAY_CELLS = CODE_SIZE * CELLS;

    /** What a cell may hold, as bits: the ways to one instruction may bring different kinds. */
    private static final int NUMBER = 1;
    private static final int REFERENCE = 2;
    private static final int EITHER = NUMBER | REFERENCE;
    private static final int UNSET = 4;
    private static final int UNREACHED = -1;
    /**
     * Every pass but the last one reaches an instruction (16 times at most) or adds a kind to a
     * cell (one more for each of 4 entries, two more for each of 2 locals): 16 * 9 + 1 passes.
     */
    private static final int PASSES = 145;

    private static final int NOT_AWAITED = -1;
    private static final int NO_PLACE = -1;

    private final int limit;

    private final int[] pendingOp = new int[CODE_SIZE];
    private final int[] pendingB = new int[CODE_SIZE];
    private int pendingCount;

    private final int[] wayDepth = new int[CODE_SIZE];
    private final int[] wayKind = new int[WAY_CELLS];
    private final int[] nowKind = new int[CELLS];
    private int nowDepth;
    private boolean wayChanged;

    private final int[] codeOp = new int[LINES];
    private final int[] codeB = new int[LINES];
    /** 0 where the method is absent. */
    private final int[] methodLength = new int[METHODS];
    private final boolean[] methodExported = new boolean[METHODS];

    private final int[] rootObject = new int[ROOTS];
    private final int[] objectOwner = new int[OBJECT_NUMBERS];
    private final int[] objectLength = new int[OBJECT_NUMBERS];
    private final boolean[] objectLasting = new boolean[OBJECT_NUMBERS];
    private final boolean[] objectShared = new boolean[OBJECT_NUMBERS];
    private final int[] objectElement = new int[ELEMENTS];
    private final boolean[] objectHeld = new boolean[OBJECT_NUMBERS];

    private boolean inTransaction;
    private final int[] savedRoot = new int[ROOTS];
    private final boolean[] savedShared = new boolean[OBJECT_NUMBERS];
    private final int[] savedElement = new int[ELEMENTS];
    /** An object made since BEGIN may bear the number of one that is gone, which must not come back. */
    private final boolean[] madeSince = new boolean[OBJECT_NUMBERS];

    private int frameCount;
    private final int[] frameMethod = new int[FRAMES];
    private final int[] frameAt = new int[FRAMES];
    private final int[] frameDepth = new int[FRAMES];
    private final int[] cellValue = new int[FRAME_CELLS];
    private final boolean[] cellRefers = new boolean[FRAME_CELLS];

    private int writesBeforeTear = NOT_AWAITED;
    private int lastAnswer;
    private int lastPlace = NO_PLACE;

    public TearSafeCard(int limit) {
        if (limit < LEAST_LIMIT) {
            this.limit = LEAST_LIMIT;
        } else if (limit > GREATEST_LIMIT) {
            this.limit = GREATEST_LIMIT;
        } else {
            this.limit = limit;
        }
    }

    public int put(int op, int b) {
        if (op < OP_PUSH || op > OP_ABORT || pendingCount >= CODE_SIZE) {
            return REFUSED;
        }
        pendingOp[pendingCount] = op;
        pendingB[pendingCount] = b;
        pendingCount++;
        return pendingCount;
    }

    public int install(int applet, int method, boolean exported) {
        int count = pendingCount;
        pendingCount = 0;
        if (!isInRange(applet, method)) {
            return REFUSED;
        }
        if (count == 0 || !fitsEveryB(count) || !goesWellEveryWay(count)) {
            return BAD;
        }
        int number = PER_APPLET * applet + method;
        for (int at = 0; at < count; at++) {
            codeOp[CODE_SIZE * number + at] = pendingOp[at];
            codeB[CODE_SIZE * number + at] = pendingB[at];
        }
        methodLength[number] = count;
        methodExported[number] = exported;
        return count;
    }

    public int run(int applet, int method, int arg) {
        if (!isInRange(applet, method)) {
            return REFUSED;
        }
        int number = PER_APPLET * applet + method;
        if (methodLength[number] == 0) {
            return ABSENT;
        }
        enter(number, (short) arg);
        int outcome = RETURNED;
        for (int steps = 0; steps < limit && frameCount > 0 && outcome == RETURNED; steps++) {
            outcome = execute();
        }
        if (outcome == RETURNED && frameCount > 0) {
            outcome = STEPS;
        }
        finish(outcome);
        return outcome;
    }

    public int result() {
        return lastAnswer;
    }

    public int place() {
        return lastPlace;
    }

    public int tear(int n) {
        writesBeforeTear = n >= 0 && n <= GREATEST_TEAR ? n : NOT_AWAITED;
        return writesBeforeTear;
    }

    public void reset() {
        losePower();
    }

    public int length(int applet, int root) {
        int object = objectOfRoot(applet, root);
        return object == NOTHING ? 0 : objectLength[object];
    }

    public int element(int applet, int root, int index) {
        int object = objectOfRoot(applet, root);
        if (object == NOTHING || index < 0 || index >= objectLength[object]) {
            return 0;
        }
        return objectElement[OBJECT_SIZE * object + index];
    }

    public int traits(int applet, int root) {
        int object = objectOfRoot(applet, root);
        if (object == NOTHING) {
            return -1;
        }
        int lasting = objectLasting[object] ? 2 : 0;
        int shared = objectShared[object] ? 1 : 0;
        return 4 * objectOwner[object] + lasting + shared;
    }

    public boolean same(int a, int b) {
        if (a < 0 || a >= ROOTS || b < 0 || b >= ROOTS) {
            return false;
        }
        return rootObject[a] != NOTHING && rootObject[a] == rootObject[b];
    }

    public int held() {
        return countHeld();
    }

    /** Serves methods and roots alike: an applet has as many of the one as of the other. */
    private static boolean isInRange(int applet, int number) {
        return applet >= 0 && applet < APPLETS && number >= 0 && number < PER_APPLET;
    }

    private int objectOfRoot(int applet, int root) {
        return isInRange(applet, root) ? rootObject[PER_APPLET * applet + root] : NOTHING;
    }

    // Checking. Also code that no way comes to must have every b as said.

    private boolean fitsEveryB(int count) {
        boolean fits = true;
        for (int at = 0; at < count && fits; at++) {
            fits = fitsB(pendingOp[at], pendingB[at], count);
        }
        return fits;
    }

    private static boolean fitsB(int op, int b, int count) {
        switch (op) {
            case OP_PUSH:
                return b >= -128 && b <= 127;
            case OP_LOAD:
            case OP_STORE:
            case OP_ROOT:
            case OP_SETROOT:
            case OP_NEW:
                return b == 0 || b == 1;
            case OP_JUMP:
            case OP_JZERO:
                return b >= 0 && b < count;
            case OP_FOREIGN:
            case OP_CALL:
                return b >= 0 && b < METHODS;
            default:
                return true;
        }
    }

    /**
     * Gathers, for each instruction, the kinds that any way brings to each cell, until nothing is
     * added any more. Since no instruction looks at two cells together, a cell that has only right
     * kinds gathered is right on every single way, and the other way round.
     */
    private boolean goesWellEveryWay(int count) {
        beginWays();
        boolean good = true;
        wayChanged = true;
        for (int pass = 0; pass < PASSES && good && wayChanged; pass++) {
            wayChanged = false;
            for (int at = 0; at < count && good; at++) {
                if (wayDepth[at] != UNREACHED) {
                    good = goesWellFrom(at, count);
                }
            }
        }
        return good;
    }

    private void beginWays() {
        for (int at = 0; at < CODE_SIZE; at++) {
            wayDepth[at] = UNREACHED;
        }
        for (int cell = 0; cell < WAY_CELLS; cell++) {
            wayKind[cell] = 0;
        }
        wayDepth[0] = 0;
        wayKind[0] = NUMBER;
        wayKind[1] = UNSET;
    }

    private boolean goesWellFrom(int at, int count) {
        nowDepth = wayDepth[at];
        for (int cell = 0; cell < CELLS; cell++) {
            nowKind[cell] = wayKind[CELLS * at + cell];
        }
        int op = pendingOp[at];
        int b = pendingB[at];
        if (!changesKinds(op, b)) {
            return false;
        }
        boolean jumps = op == OP_JUMP || op == OP_JZERO;
        boolean goesOn = op != OP_JUMP && op != OP_RETURN;
        if (jumps && !arrives(b, count)) {
            return false;
        }
        return !goesOn || arrives(at + 1, count);
    }

    private boolean arrives(int at, int count) {
        if (at >= count) {
            return false;
        }
        if (wayDepth[at] == UNREACHED) {
            wayDepth[at] = nowDepth;
            wayChanged = true;
        }
        if (wayDepth[at] != nowDepth) {
            return false;
        }
        for (int cell = 0; cell < LOCALS + nowDepth; cell++) {
            int before = wayKind[CELLS * at + cell];
            int after = before | nowKind[cell];
            wayKind[CELLS * at + cell] = after;
            wayChanged = wayChanged || after != before;
        }
        return true;
    }

    /** Answers whether the instruction finds what it takes and has room for what it adds. */
    private boolean changesKinds(int op, int b) {
        switch (op) {
            case OP_PUSH:
                return addKind(NUMBER);
            case OP_LOAD:
                return (nowKind[b] & UNSET) == 0 && addKind(nowKind[b]);
            case OP_STORE:
                return storeKind(b);
            case OP_ADD:
            case OP_SUB:
            case OP_MUL:
            case OP_LESS:
                return takeKind(NUMBER) && takeKind(NUMBER) && addKind(NUMBER);
            case OP_JZERO:
            case OP_RETURN:
                return takeKind(NUMBER);
            case OP_ROOT:
            case OP_FOREIGN:
            case OP_NULL:
                return addKind(REFERENCE);
            case OP_SETROOT:
            case OP_SHARE:
                return takeKind(REFERENCE);
            case OP_NEW:
                return takeKind(NUMBER) && addKind(REFERENCE);
            case OP_GET:
                return takeKind(NUMBER) && takeKind(REFERENCE) && addKind(NUMBER);
            case OP_PUT:
                return takeKind(NUMBER) && takeKind(NUMBER) && takeKind(REFERENCE);
            case OP_LENGTH:
                return takeKind(REFERENCE) && addKind(NUMBER);
            case OP_CALL:
                return takeKind(NUMBER) && addKind(NUMBER);
            case OP_DUP:
                return nowDepth > 0 && addKind(nowKind[LOCALS + nowDepth - 1]);
            case OP_DROP:
                return takeKind(EITHER);
            default:
                return true;
        }
    }

    private boolean addKind(int kind) {
        if (nowDepth >= STACK_SIZE) {
            return false;
        }
        nowKind[LOCALS + nowDepth] = kind;
        nowDepth++;
        return true;
    }

    private boolean takeKind(int wanted) {
        if (nowDepth == 0) {
            return false;
        }
        nowDepth--;
        return (nowKind[LOCALS + nowDepth] & ~wanted) == 0;
    }

    private boolean storeKind(int local) {
        boolean taken = takeKind(EITHER);
        if (taken) {
            nowKind[local] = nowKind[LOCALS + nowDepth];
        }
        return taken;
    }

    // Running. Code that install took in never leaves its own instructions, locals and stack, so
    // nothing below looks at these bounds again.

    private void enter(int method, int number) {
        int local = CELLS * frameCount;
        frameMethod[frameCount] = method;
        frameAt[frameCount] = 0;
        frameDepth[frameCount] = 0;
        cellValue[local] = number;
        cellRefers[local] = false;
        // An unset local must not hold what an earlier frame left there.
        cellRefers[local + 1] = false;
        frameCount++;
    }

    private void finish(int outcome) {
        if (outcome == RETURNED) {
            lastPlace = NO_PLACE;
        } else {
            int top = frameCount - 1;
            lastPlace = CODE_SIZE * frameMethod[top] + frameAt[top];
            lastAnswer = 0;
        }
        frameCount = 0;
        if (inTransaction) {
            undo();
        }
        if (outcome == TORN) {
            losePower();
        }
    }

    /** Answers RETURNED when the instruction is done, else why it fails. */
    private int execute() {
        int top = frameCount - 1;
        int line = CODE_SIZE * frameMethod[top] + frameAt[top];
        int op = codeOp[line];
        int b = codeB[line];
        int failure = failureOf(op, b);
        if (failure != RETURNED) {
            return failure;
        }
        if (isWrite(op, b) && powerFails()) {
            return TORN;
        }
        frameAt[top]++;
        if (op >= OP_ROOT && op <= OP_FOREIGN) {
            performOnObjects(op, b);
        } else {
            perform(op, b);
        }
        return RETURNED;
    }

    private int failureOf(int op, int b) {
        switch (op) {
            case OP_GET:
                return elementFailure(2);
            case OP_PUT:
                return elementFailure(3);
            case OP_LENGTH:
                return wallFailure(1);
            case OP_SHARE:
                return shareFailure();
            case OP_NEW:
                return newFailure();
            case OP_CALL:
                return callFailure(b);
            case OP_BEGIN:
                return inTransaction ? NESTING : RETURNED;
            case OP_COMMIT:
            case OP_ABORT:
                return inTransaction ? RETURNED : NESTING;
            default:
                return RETURNED;
        }
    }

    /** The reference is the nth entry from the top (the top is the first), the index is next above it. */
    private int elementFailure(int nth) {
        int failure = wallFailure(nth);
        if (failure != RETURNED) {
            return failure;
        }
        int object = entry(nth);
        int index = entry(nth - 1);
        return index < 0 || index >= objectLength[object] ? BOUNDS : RETURNED;
    }

    private int wallFailure(int nth) {
        int object = entry(nth);
        if (object == NOTHING) {
            return NULL;
        }
        return objectShared[object] || objectOwner[object] == ownApplet() ? RETURNED : WALL;
    }

    private int shareFailure() {
        int object = entry(1);
        if (object == NOTHING) {
            return NULL;
        }
        return objectOwner[object] == ownApplet() ? RETURNED : WALL;
    }

    private int newFailure() {
        int size = entry(1);
        if (size < 1 || size > OBJECT_SIZE) {
            return BOUNDS;
        }
        return countHeld() >= OBJECTS ? MEMORY : RETURNED;
    }

    private int callFailure(int method) {
        if (methodLength[method] == 0) {
            return ABSENT;
        }
        if (!methodExported[method] && method / PER_APPLET != ownApplet()) {
            return WALL;
        }
        return frameCount >= FRAMES ? DEPTH : RETURNED;
    }

    /** Asked only of an instruction that nothing else stands against. */
    private boolean isWrite(int op, int b) {
        switch (op) {
            case OP_PUT:
                return objectLasting[entry(3)];
            case OP_NEW:
                return b == 0;
            case OP_SETROOT:
            case OP_SHARE:
            case OP_COMMIT:
                return true;
            default:
                return false;
        }
    }

    private boolean powerFails() {
        if (writesBeforeTear == 0) {
            return true;
        }
        if (writesBeforeTear > 0) {
            writesBeforeTear--;
        }
        return false;
    }

    private void losePower() {
        writesBeforeTear = NOT_AWAITED;
        for (int object = 1; object <= OBJECTS; object++) {
            if (!objectLasting[object]) {
                clearElements(object);
            }
        }
    }

    private void clearElements(int object) {
        for (int index = OBJECT_SIZE * object; index < OBJECT_SIZE * (object + 1); index++) {
            objectElement[index] = 0;
        }
    }

    private void perform(int op, int b) {
        switch (op) {
            case OP_PUSH:
                push(b, false);
                break;
            case OP_NULL:
                push(NOTHING, true);
                break;
            case OP_LOAD:
                load(b);
                break;
            case OP_STORE:
                store(b);
                break;
            case OP_DUP:
                duplicate();
                break;
            case OP_DROP:
                frameDepth[frameCount - 1]--;
                break;
            case OP_ADD:
            case OP_SUB:
            case OP_MUL:
            case OP_LESS:
                calculate(op);
                break;
            case OP_JUMP:
            case OP_JZERO:
                jump(op, b);
                break;
            case OP_CALL:
                call(b);
                break;
            case OP_RETURN:
                leave();
                break;
            case OP_BEGIN:
                begin();
                break;
            case OP_COMMIT:
                inTransaction = false;
                break;
            case OP_ABORT:
                undo();
                break;
            default:
                break;
        }
    }

    private void performOnObjects(int op, int b) {
        switch (op) {
            case OP_ROOT:
                pushOwnRoot(b);
                break;
            case OP_FOREIGN:
                push(rootObject[b], true);
                break;
            case OP_SETROOT:
                rootObject[PER_APPLET * ownApplet() + b] = pop();
                break;
            case OP_NEW:
                makeObject(b == 0);
                break;
            case OP_GET:
                getElement();
                break;
            case OP_PUT:
                putElement();
                break;
            case OP_SHARE:
                objectShared[pop()] = true;
                break;
            case OP_LENGTH:
                pushLength();
                break;
            default:
                break;
        }
    }

    private int ownApplet() {
        return frameMethod[frameCount - 1] / PER_APPLET;
    }

    /** The nth entry from the top, the top being the first. */
    private int entry(int nth) {
        int top = frameCount - 1;
        return cellValue[CELLS * top + LOCALS + frameDepth[top] - nth];
    }

    private void push(int value, boolean refers) {
        int top = frameCount - 1;
        int cell = CELLS * top + LOCALS + frameDepth[top];
        cellValue[cell] = value;
        cellRefers[cell] = refers;
        frameDepth[top]++;
    }

    private int pop() {
        int top = frameCount - 1;
        frameDepth[top]--;
        return cellValue[CELLS * top + LOCALS + frameDepth[top]];
    }

    private void load(int b) {
        int local = CELLS * (frameCount - 1) + b;
        push(cellValue[local], cellRefers[local]);
    }

    private void store(int b) {
        int top = frameCount - 1;
        frameDepth[top]--;
        int cell = CELLS * top + LOCALS + frameDepth[top];
        cellValue[CELLS * top + b] = cellValue[cell];
        cellRefers[CELLS * top + b] = cellRefers[cell];
    }

    private void duplicate() {
        int top = frameCount - 1;
        int cell = CELLS * top + LOCALS + frameDepth[top] - 1;
        push(cellValue[cell], cellRefers[cell]);
    }

    private void calculate(int op) {
        int upper = pop();
        int lower = pop();
        int number = 0;
        switch (op) {
            case OP_ADD:
                number = lower + upper;
                break;
            case OP_SUB:
                number = lower - upper;
                break;
            case OP_MUL:
                number = lower * upper;
                break;
            default:
                number = lower < upper ? 1 : 0;
                break;
        }
        push((short) number, false);
    }

    private void jump(int op, int b) {
        if (op == OP_JUMP || pop() == 0) {
            frameAt[frameCount - 1] = b;
        }
    }

    private void call(int method) {
        int number = pop();
        enter(method, number);
    }

    private void leave() {
        int number = pop();
        frameCount--;
        if (frameCount > 0) {
            push(number, false);
        } else {
            lastAnswer = number;
        }
    }

    private void makeObject(boolean lasting) {
        int size = pop();
        int object = firstFreeObject();
        objectOwner[object] = ownApplet();
        objectLength[object] = size;
        objectLasting[object] = lasting;
        objectShared[object] = false;
        madeSince[object] = true;
        clearElements(object);
        push(object, true);
    }

    private void pushOwnRoot(int b) {
        int root = PER_APPLET * ownApplet() + b;
        push(rootObject[root], true);
    }

    private void getElement() {
        int index = pop();
        int object = pop();
        push(objectElement[OBJECT_SIZE * object + index], false);
    }

    private void putElement() {
        int number = pop();
        int index = pop();
        int object = pop();
        objectElement[OBJECT_SIZE * object + index] = number;
    }

    private void pushLength() {
        int object = pop();
        push(objectLength[object], false);
    }

    // Held objects.

    private int countHeld() {
        for (int object = 0; object <= OBJECTS; object++) {
            objectHeld[object] = false;
        }
        for (int root = 0; root < ROOTS; root++) {
            objectHeld[rootObject[root]] = true;
            if (inTransaction) {
                objectHeld[savedRoot[root]] = true;
            }
        }
        for (int frame = 0; frame < frameCount; frame++) {
            holdFrom(frame);
        }
        int count = 0;
        for (int object = 1; object <= OBJECTS; object++) {
            count += objectHeld[object] ? 1 : 0;
        }
        return count;
    }

    private void holdFrom(int frame) {
        for (int cell = 0; cell < LOCALS + frameDepth[frame]; cell++) {
            if (cellRefers[CELLS * frame + cell]) {
                objectHeld[cellValue[CELLS * frame + cell]] = true;
            }
        }
    }

    /** NEW has counted the held objects just before, and found fewer than there is room for. */
    private int firstFreeObject() {
        for (int object = 1; object < OBJECTS; object++) {
            if (!objectHeld[object]) {
                return object;
            }
        }
        return OBJECTS;
    }

    // Transactions.

    private void begin() {
        inTransaction = true;
        for (int root = 0; root < ROOTS; root++) {
            savedRoot[root] = rootObject[root];
        }
        for (int object = 1; object <= OBJECTS; object++) {
            savedShared[object] = objectShared[object];
            madeSince[object] = false;
        }
        for (int index = 0; index < ELEMENTS; index++) {
            savedElement[index] = objectElement[index];
        }
    }

    private void undo() {
        inTransaction = false;
        for (int root = 0; root < ROOTS; root++) {
            rootObject[root] = savedRoot[root];
        }
        for (int object = 1; object <= OBJECTS; object++) {
            if (!madeSince[object]) {
                objectShared[object] = savedShared[object];
            }
            if (!madeSince[object] && objectLasting[object]) {
                restoreElements(object);
            }
        }
    }

    private void restoreElements(int object) {
        for (int index = OBJECT_SIZE * object; index < OBJECT_SIZE * (object + 1); index++) {
            objectElement[index] = savedElement[index];
        }
    }
}
