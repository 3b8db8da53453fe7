/**
 * A workbench for arrays of all element types, read and written with the rules of java.lang.reflect.Array.
 *
 * Floats and doubles are held as their bits in a long (the "code" of the document), and all rounding is
 * done on whole numbers. Every row is made once, in a constructor; no call makes an object.
 */
public final class WidenDesk {
    public static final int UNKNOWN = -1, BAD = -2, LATE = -3, FULL = -4, NONE = -9;

    private static final int SLOTS = 10;
    private static final int CELLS = 6;
    private static final int PRIMITIVES = 8;

    private static final int BOOLEAN = 0, BYTE = 1, CHAR = 2, SHORT = 3, INT = 4, LONG = 5, FLOAT = 6, DOUBLE = 7;
    private static final int MARK = 8, STAR = 9, TEXT = 10, WHOLE = 11, ANY = 12;
    private static final int SINGLE_TEXT = 13, NOTHING = 15;

    private static final int NO_FORM = 0, VALUE_FORM = 1, BOX_FORM = 2, MARK_FORM = 3, TEXT_FORM = 4;

    private static final int FINE = 0, OUT = 1, MISFIT = 2, NO_ARRAY = 3, OBJECTS = 4, NO_THING = 5, BOTH = 6;
    private static final int EMPTY = 7, LOST = 8;

    private static final int GREATEST_LETTER = 255;
    private static final int GREATEST_TEXT = 9999;
    private static final int GREATEST_NUMBER = 999;
    private static final int GREATEST_WAY = 888888;
    private static final int GREATEST_SET = (1 << SLOTS) - 1;
    private static final long LEAST_INT = -2147483648L, GREATEST_INT = 2147483647L;
    private static final long LEAST_LONG = -9223372036854775808L, GREATEST_LONG = 9223372036854775807L;
    private static final long SCATTER_FACTOR = 6364136223846793005L;
    private static final long SCATTER_STEP = 1442695040888963407L;

    private final Reader reader;
    private final Shelf shelf;
    private final Log log;
    private final Marks marks;
    private final Views views;
    /** Which row of the shelf each slot holds. */
    private final int[] rowOf;
    private final int[] reasons;
    private int reasonCount;
    private int handForm;
    private int handType;
    /** As the code of an element: for a mark its index, not its number. */
    private long handCode;

    public WidenDesk() {
        reader = new Reader();
        shelf = new Shelf();
        log = new Log();
        marks = new Marks();
        views = new Views();
        rowOf = new int[SLOTS];
        reasons = new int[CELLS];
        reasonCount = 0;
        handForm = NO_FORM;
        handType = NONE;
        handCode = 0L;
    }

    // ---- texts

    public int write(int letter) {
        if (letter < 0 || letter > GREATEST_LETTER) {
            return BAD;
        }
        return reader.append(letter) ? reader.length : FULL;
    }

    public int wipe() {
        int before = reader.length;
        reader.length = 0;
        return before;
    }

    public int fault() {
        return reader.scan();
    }

    public int tell(int slot) {
        if (!isSlot(slot)) {
            return UNKNOWN;
        }
        if (reader.scan() != NONE) {
            return LATE;
        }
        int row = newRow(reader.arrayType, reader.count);
        for (int place = 0; place < reader.count; place++) {
            int type = reader.types[place];
            shelf.set(row, place, type, Numbers.ofWhole(type, reader.numbers[place]));
        }
        replace(slot, row);
        return reader.arrayType;
    }

    // ---- slots

    public int about(int what) {
        switch (what) {
            case 0: return marks.count;
            case 1: return log.kept;
            case 2: return views.count;
            case 3: return reader.length;
            case 4: return countArrays(false);
            case 5: return countArrays(true);
            case 6: return countEmptySlots();
            case 7: return countFine();
            default: return BAD;
        }
    }

    public int make(int slot, int thing, int length) {
        if (!isSlot(slot)) {
            return UNKNOWN;
        }
        int longest = thing < SINGLE_TEXT ? CELLS : 0;
        if (thing < 0 || thing > NOTHING || length < 0 || length > longest) {
            return BAD;
        }
        int before = thingIn(slot);
        replace(slot, thing == NOTHING ? Shelf.NOTHING_ROW : newRow(thing, length));
        return before;
    }

    public int share(int from, int to) {
        if (!isSlot(from) || !isSlot(to)) {
            return UNKNOWN;
        }
        int shared = thingIn(from);
        replace(to, rowOf[from]);
        return shared;
    }

    public int thing(int slot, int what) {
        if (!isSlot(slot)) {
            return UNKNOWN;
        }
        if (what < 0 || what > 1) {
            return BAD;
        }
        if (what == 0) {
            return thingIn(slot);
        }
        if (thingIn(slot) == NOTHING) {
            return NONE;
        }
        return holdsArray(slot) ? shelf.lengths[rowOf[slot]] : LATE;
    }

    public int same(int one, int other) {
        if (!isSlot(one) || !isSlot(other)) {
            return UNKNOWN;
        }
        return holdsArray(one) && rowOf[one] == rowOf[other] ? 1 : 0;
    }

    public long cell(int slot, int place, int what) {
        if (!isSlot(slot)) {
            return UNKNOWN;
        }
        if (!holdsArray(slot)) {
            return LATE;
        }
        int row = rowOf[slot];
        if (!shelf.has(row, place) || what < 0 || what > 2) {
            return BAD;
        }
        int type = shelf.typeAt(row, place);
        long code = shelf.codeAt(row, place);
        if (what == 0) {
            return type;
        }
        return what == 1 ? shownCode(type, code) : markIndex(type, code);
    }

    // ---- the hand

    public int give(int kind, long v) {
        if (!isPrimitive(kind)) {
            return BAD;
        }
        hold(VALUE_FORM, kind, Numbers.made(kind, v));
        return 1;
    }

    public int mark(int star, int number) {
        if (star < 0 || star > 1 || !isMarkNumber(number)) {
            return BAD;
        }
        if (marks.isFull()) {
            return FULL;
        }
        int index = marks.create(number);
        hold(MARK_FORM, star == 1 ? STAR : MARK, index);
        return index;
    }

    public int text(int number) {
        if (number < 0 || number > GREATEST_TEXT) {
            return BAD;
        }
        hold(TEXT_FORM, TEXT, number);
        return number < 10 ? 1 : number < 100 ? 2 : number < 1000 ? 3 : 4;
    }

    public int turn() {
        if (handForm != VALUE_FORM && handForm != BOX_FORM) {
            return LATE;
        }
        handForm = handForm == VALUE_FORM ? BOX_FORM : VALUE_FORM;
        return handForm;
    }

    public long hand(int what) {
        switch (what) {
            case 0: return handForm;
            case 1: return handType;
            case 2: return shownCode(handType, handCode);
            case 3: return markIndex(handType, handCode);
            default: return BAD;
        }
    }

    public int grow(int number) {
        if (!isMarkNumber(number)) {
            return BAD;
        }
        if (handForm != MARK_FORM) {
            return LATE;
        }
        int index = (int) handCode;
        int before = marks.numberOf(index);
        log.keepNumber(index, before);
        marks.setNumber(index, number);
        return before;
    }

    // ---- elements

    public int take(int slot, int place, int kind) {
        if (!isSlot(slot)) {
            return UNKNOWN;
        }
        if (!isPrimitive(kind)) {
            return BAD;
        }
        int row = rowOf[slot];
        int type = thingIn(slot);
        int reason = Rules.placed(Rules.getFit(type, kind), shelf.has(row, place));
        if (reason == FINE) {
            hold(VALUE_FORM, kind, Numbers.widened(shelf.codeAt(row, place), type, kind));
        }
        return reason;
    }

    public int fetch(int slot, int place) {
        if (!isSlot(slot)) {
            return UNKNOWN;
        }
        int reason = fetchReason(slot, place);
        if (reason == FINE) {
            int type = shelf.typeAt(rowOf[slot], place);
            hold(Rules.fetchedForm(type), type, shelf.codeAt(rowOf[slot], place));
        }
        return reason;
    }

    public int lay(int slot, int place) {
        if (!isSlot(slot)) {
            return UNKNOWN;
        }
        int row = rowOf[slot];
        int fit = Rules.putFit(thingIn(slot), handForm, handType);
        int reason = Rules.placed(fit, shelf.has(row, place));
        if (reason == FINE) {
            log.keepCells(row, shelf);
            shelf.put(row, place, handType, handCode);
        }
        return reason;
    }

    public int scatter(int slot, long x) {
        if (!isSlot(slot)) {
            return UNKNOWN;
        }
        int type = thingIn(slot);
        if (!isPrimitive(type)) {
            return LATE;
        }
        int row = rowOf[slot];
        int length = shelf.lengths[row];
        log.keepCells(row, shelf);
        long state = x;
        for (int place = 0; place < length; place++) {
            state = state * SCATTER_FACTOR + SCATTER_STEP;
            shelf.set(row, place, type, Numbers.made(type, state >> 20));
        }
        return length;
    }

    // ---- conversions

    public int convert(int from, int to, int how) {
        if (!isSlot(from) || !isSlot(to)) {
            return UNKNOWN;
        }
        if (!holdsArray(from) || !holdsArray(to)) {
            return LATE;
        }
        if (how < 0 || how > 3) {
            return BAD;
        }
        int source = rowOf[from];
        int target = rowOf[to];
        int fine = 0;
        reasonCount = Math.min(shelf.lengths[source], shelf.lengths[target]);
        for (int place = 0; place < reasonCount; place++) {
            int reason = convertReason(source, target, place, how);
            reasons[place] = reason;
            if (reason == FINE) {
                if (fine == 0) {
                    log.keepCells(target, shelf);
                }
                convertElement(source, target, place, how);
                fine++;
            }
        }
        return fine;
    }

    public int report(int place) {
        return place >= 0 && place < reasonCount ? reasons[place] : NONE;
    }

    public int chains(int from, int to) {
        if (!isPrimitive(from) || !isPrimitive(to)) {
            return BAD;
        }
        return Numbers.countChains(from, to, 0);
    }

    public int carry(int slot, int place, int way) {
        if (!isSlot(slot)) {
            return UNKNOWN;
        }
        if (!isWay(way)) {
            return BAD;
        }
        int reason = fetchReason(slot, place);
        if (reason != FINE) {
            return reason;
        }
        return carryThrough(shelf.typeAt(rowOf[slot], place), shelf.codeAt(rowOf[slot], place), way);
    }

    public int ends(int slot, int place, int kind) {
        if (!isSlot(slot)) {
            return UNKNOWN;
        }
        if (!isPrimitive(kind)) {
            return BAD;
        }
        int row = rowOf[slot];
        if (!shelf.has(row, place) || !isPrimitive(shelf.typeAt(row, place))) {
            return NONE;
        }
        return Numbers.countEnds(shelf.codeAt(row, place), shelf.typeAt(row, place), kind);
    }

    public int least(int slots) {
        if (slots < 1 || slots > GREATEST_SET) {
            return BAD;
        }
        int common = Numbers.ALL_PRIMITIVES;
        for (int slot = 0; slot < SLOTS; slot++) {
            if ((slots >> slot & 1) == 1) {
                if (!isPrimitive(thingIn(slot))) {
                    return LATE;
                }
                common &= Numbers.targets(thingIn(slot));
            }
        }
        return Numbers.leastOf(common);
    }

    // ---- whole arrays

    public int join(int one, int other, int to) {
        if (!isSlot(one) || !isSlot(other) || !isSlot(to)) {
            return UNKNOWN;
        }
        if (!holdsArray(one) || !holdsArray(other)) {
            return LATE;
        }
        int first = rowOf[one];
        int second = rowOf[other];
        int length = shelf.lengths[first] + shelf.lengths[second];
        if (length > CELLS) {
            return FULL;
        }
        int type = Rules.joinedType(thingIn(one), thingIn(other));
        int row = newRow(type, length);
        shelf.putAll(first, 0, shelf.lengths[first], row, 0);
        shelf.putAll(second, 0, shelf.lengths[second], row, shelf.lengths[first]);
        replace(to, row);
        return type;
    }

    public int cut(int from, int to, int span) {
        if (!isSlot(from) || !isSlot(to)) {
            return UNKNOWN;
        }
        if (!holdsArray(from)) {
            return LATE;
        }
        int source = rowOf[from];
        int start = span / 10;
        int count = span % 10;
        if (span < 0 || start + count > shelf.lengths[source]) {
            return BAD;
        }
        int type = thingIn(from);
        int row = newRow(type, count);
        shelf.putAll(source, start, count, row, 0);
        replace(to, row);
        return type;
    }

    public int alike(int one, int other) {
        if (!isSlot(one) || !isSlot(other)) {
            return UNKNOWN;
        }
        if (!holdsArray(one) || !holdsArray(other)) {
            return LATE;
        }
        int first = rowOf[one];
        int second = rowOf[other];
        int shorter = Math.min(shelf.lengths[first], shelf.lengths[second]);
        for (int place = 0; place < shorter; place++) {
            if (!shelf.agree(first, second, place)) {
                return place;
            }
        }
        return shelf.lengths[first] == shelf.lengths[second] ? NONE : shorter;
    }

    public int unlike(int slot) {
        if (!isSlot(slot)) {
            return UNKNOWN;
        }
        if (!holdsArray(slot)) {
            return LATE;
        }
        int row = rowOf[slot];
        int different = 0;
        for (int place = 0; place < shelf.lengths[row]; place++) {
            if (!shelf.stoodBefore(row, place)) {
                different++;
            }
        }
        return different;
    }

    public int total(int slot, int kind) {
        if (!isSlot(slot)) {
            return UNKNOWN;
        }
        if (kind != INT && kind != LONG) {
            return BAD;
        }
        int row = rowOf[slot];
        int length = shelf.lengths[row];
        int reason = holdsArray(slot) && length == 0 ? FINE : Rules.getFit(thingIn(slot), kind);
        if (reason != FINE) {
            return reason;
        }
        long sum = 0L;
        for (int place = 0; place < length; place++) {
            sum += shelf.codeAt(row, place);
        }
        // an int sum that wraps at each step is the long sum narrowed once
        hold(VALUE_FORM, kind, Numbers.made(kind, sum));
        return FINE;
    }

    // ---- observations, undo

    public int see(int how, int kind, int reason) {
        if (how < 0 || how > 2 || !isPrimitive(kind) || reason < FINE || reason > NO_THING) {
            return BAD;
        }
        return views.add(how, kind, reason) ? views.count : FULL;
    }

    public int unsee() {
        int before = views.count;
        views.count = 0;
        return before;
    }

    public int which() {
        int set = 0;
        for (int thing = 0; thing <= NOTHING; thing++) {
            if (views.allow(thing)) {
                set |= 1 << thing;
            }
        }
        return set;
    }

    public int undo() {
        if (log.kept == 0) {
            return LATE;
        }
        int act = log.removeLatest();
        switch (log.sorts[act]) {
            case Log.SLOT_ACT:
                rowOf[log.spots[act]] = log.rows[act];
                break;
            case Log.CELLS_ACT:
                log.restoreCells(act, shelf);
                break;
            default:
                marks.setNumber(log.spots[act], log.numbers[act]);
                break;
        }
        return log.kept;
    }

    // ---- helpers

    private static boolean isSlot(int slot) {
        return slot >= 0 && slot < SLOTS;
    }

    private static boolean isPrimitive(int type) {
        return type >= 0 && type < PRIMITIVES;
    }

    private static boolean isMarkNumber(int number) {
        return number >= 0 && number <= GREATEST_NUMBER;
    }

    /** Whether all decimal digits are types plus 1; the greatest way also bounds how many they are. */
    private static boolean isWay(int way) {
        if (way < 1 || way > GREATEST_WAY) {
            return false;
        }
        for (int rest = way; rest > 0; rest /= 10) {
            if (!isPrimitive(rest % 10 - 1)) {
                return false;
            }
        }
        return true;
    }

    private int thingIn(int slot) {
        return shelf.things[rowOf[slot]];
    }

    private boolean holdsArray(int slot) {
        return thingIn(slot) <= ANY;
    }

    private void hold(int form, int type, long code) {
        handForm = form;
        handType = type;
        handCode = code;
    }

    private long shownCode(int type, long code) {
        return Rules.isMark(type) ? marks.numberOf((int) code) : code;
    }

    private static long markIndex(int type, long code) {
        return Rules.isMark(type) ? code : NONE;
    }

    private int fetchReason(int slot, int place) {
        return Rules.placed(Rules.fetchFit(thingIn(slot)), shelf.has(rowOf[slot], place));
    }

    private void replace(int slot, int row) {
        log.keepSlot(slot, rowOf[slot]);
        rowOf[slot] = row;
    }

    private int newRow(int thing, int length) {
        int row = freeRow();
        shelf.prepare(row, thing, length);
        return row;
    }

    /** Slots and log hold at most SLOTS + ACTS rows and the shelf has one more, so there always is one. */
    private int freeRow() {
        int row = 1;
        while (row < Shelf.ROWS - 1 && (isInSlots(row) || log.holds(row))) {
            row++;
        }
        return row;
    }

    private boolean isInSlots(int row) {
        return firstSlotOf(row) < SLOTS;
    }

    private int firstSlotOf(int row) {
        int slot = 0;
        while (slot < SLOTS && rowOf[slot] != row) {
            slot++;
        }
        return slot;
    }

    private int countArrays(boolean elements) {
        int sum = 0;
        for (int slot = 0; slot < SLOTS; slot++) {
            int row = rowOf[slot];
            if (holdsArray(slot) && firstSlotOf(row) == slot) {
                sum += elements ? shelf.lengths[row] : 1;
            }
        }
        return sum;
    }

    private int countEmptySlots() {
        int empty = 0;
        for (int slot = 0; slot < SLOTS; slot++) {
            if (thingIn(slot) == NOTHING) {
                empty++;
            }
        }
        return empty;
    }

    private int countFine() {
        int fine = 0;
        for (int place = 0; place < reasonCount; place++) {
            if (reasons[place] == FINE) {
                fine++;
            }
        }
        return fine;
    }

    private int convertReason(int source, int target, int place, int how) {
        int from = shelf.things[source];
        int to = shelf.things[target];
        int type = shelf.typeAt(source, place);
        if (how <= 1) {
            int own = how == 0 ? from : to;
            int kind = isPrimitive(own) ? own : INT;
            int reason = Rules.getFit(from, kind);
            return reason != FINE ? reason : Rules.putFit(to, VALUE_FORM, kind);
        }
        if (how == 3 && Rules.isNumeric(type) && Rules.isNumeric(to)) {
            return Numbers.hasNumber(shelf.codeAt(source, place), type, to) ? FINE : LOST;
        }
        return Rules.putFit(to, Rules.fetchedForm(type), type);
    }

    private void convertElement(int source, int target, int place, int how) {
        int to = shelf.things[target];
        int type = shelf.typeAt(source, place);
        long code = shelf.codeAt(source, place);
        if (how == 3 && Rules.isNumeric(type) && Rules.isNumeric(to)) {
            shelf.set(target, place, to, Numbers.sameNumber(code, type, to));
        } else {
            shelf.put(target, place, type, code);
        }
    }

    private int carryThrough(int type, long code, int way) {
        int form = Rules.fetchedForm(type);
        int carriedType = type;
        long carried = code;
        for (int power = 100000; power > 0; power /= 10) {
            int next = way / power % 10 - 1;
            if (next >= 0) {
                int reason = Rules.putFit(next, form, carriedType);
                if (reason != FINE) {
                    return reason;
                }
                carried = Numbers.widened(carried, carriedType, next);
                carriedType = next;
                form = VALUE_FORM;
            }
        }
        hold(VALUE_FORM, carriedType, carried);
        return FINE;
    }

    // ---- classes inside

    /** Primitive types and their values; a value is told by its code. */
    private static final class Numbers {
        static final int ALL_PRIMITIVES = (1 << PRIMITIVES) - 1;
        private static final int FLOAT_BITS = 23, FLOAT_BIAS = 127;
        private static final int DOUBLE_BITS = 52, DOUBLE_BIAS = 1023;
        private static final int EXTRA_BITS = DOUBLE_BITS - FLOAT_BITS, EXTRA_BIAS = DOUBLE_BIAS - FLOAT_BIAS;
        private static final int FLOAT_EXPONENTS = 255, DOUBLE_EXPONENTS = 2047;
        private static final int EIGHTHS = 3;
        private static final long LEAST_LONG_AS_DOUBLE = LEAST_LONG | (long) (63 + DOUBLE_BIAS) << DOUBLE_BITS;

        static boolean widens(int from, int to) {
            if (from == to) {
                return true;
            }
            return from != BOOLEAN && from < to && to != CHAR && !(from == CHAR && to == SHORT);
        }

        /** The set of the types to which a type widens. */
        static int targets(int from) {
            int set = 0;
            for (int to = 0; to < PRIMITIVES; to++) {
                if (widens(from, to)) {
                    set |= 1 << to;
                }
            }
            return set;
        }

        /** The type of the set that widens to all others of it. */
        static int leastOf(int set) {
            for (int type = 0; type < PRIMITIVES; type++) {
                if ((set >> type & 1) == 1 && (set & ~targets(type)) == 0) {
                    return type;
                }
            }
            return NONE;
        }

        static int leastOfTwo(int one, int other) {
            return leastOf(targets(one) & targets(other));
        }

        /** Each step of a chain goes to a higher type, so the depth never reaches the number of types. */
        private static int countChains(int from, int to, int depth) {
            if (from == to) {
                return 1;
            }
            int count = 0;
            for (int next = from + 1; next <= to && depth < PRIMITIVES; next++) {
                if (widens(from, next)) {
                    count += countChains(next, to, depth + 1);
                }
            }
            return count;
        }

        /** Chains differ in their ends only by a float on the way to double: whole numbers widen exactly. */
        static int countEnds(long code, int from, int to) {
            if (!widens(from, to)) {
                return 0;
            }
            if (to != DOUBLE || !widens(from, FLOAT)) {
                return 1;
            }
            long overFloat = widened(widened(code, from, FLOAT), FLOAT, DOUBLE);
            return overFloat == widened(code, from, DOUBLE) ? 1 : 2;
        }

        static long made(int kind, long v) {
            switch (kind) {
                case BOOLEAN: return v & 1L;
                case BYTE: return (byte) v;
                case CHAR: return (char) v;
                case SHORT: return (short) v;
                case INT: return (int) v;
                case LONG: return v;
                default: return nearest(kind, v, EIGHTHS);
            }
        }

        /** The code of a whole number: of the nearest value if it is of type float or double. */
        static long ofWhole(int kind, long v) {
            return kind == FLOAT || kind == DOUBLE ? nearest(kind, v, 0) : v;
        }

        /** Called only where the one type widens to the other. */
        static long widened(long code, int from, int to) {
            if (from == to) {
                return code;
            }
            if (from == FLOAT) {
                return doubleOfFloat(code);
            }
            return to < FLOAT ? code : nearest(to, code, 0);
        }

        /** Whether a type, 1 to 7, has the very number of a value of another such type. */
        static boolean hasNumber(long code, int from, int to) {
            if (from < FLOAT) {
                return to < FLOAT ? isBetween(code, to) : isWhole(ofWhole(to, code), to, code);
            }
            long wide = asDouble(code, from);
            if (to < FLOAT) {
                return hasWhole(wide) && isBetween(wholeOf(wide), to);
            }
            // every double here is 0 or from 1/8 to 2^63, so that a float has its exponent
            return to == DOUBLE || (wide & (1L << EXTRA_BITS) - 1L) == 0L;
        }

        /** Called only where hasNumber() holds. */
        static long sameNumber(long code, int from, int to) {
            if (from < FLOAT) {
                return ofWhole(to, code);
            }
            long wide = asDouble(code, from);
            if (to < FLOAT) {
                return wholeOf(wide);
            }
            return to == DOUBLE ? wide : floatOfDouble(wide);
        }

        static long lowest(int kind) {
            switch (kind) {
                case BYTE: return -128L;
                case SHORT: return -32768L;
                case INT: return LEAST_INT;
                case LONG: case FLOAT: case DOUBLE: return LEAST_LONG;
                default: return 0L;
            }
        }

        static long highest(int kind) {
            switch (kind) {
                case BOOLEAN: return 1L;
                case BYTE: return 127L;
                case CHAR: return 65535L;
                case SHORT: return 32767L;
                case INT: return GREATEST_INT;
                case TEXT: return GREATEST_TEXT;
                default: return GREATEST_LONG;
            }
        }

        private static boolean isBetween(long number, int kind) {
            return number >= lowest(kind) && number <= highest(kind);
        }

        private static boolean isWhole(long code, int kind, long number) {
            long wide = asDouble(code, kind);
            return hasWhole(wide) && wholeOf(wide) == number;
        }

        private static long asDouble(long code, int kind) {
            return kind == FLOAT ? doubleOfFloat(code) : code;
        }

        /** The code of the float or double that is nearest to v / 2^scale. */
        private static long nearest(int kind, long v, int scale) {
            if (kind == FLOAT) {
                return signedFloat(v < 0L, rounded(v, scale, FLOAT_BITS, FLOAT_BIAS));
            }
            return signedDouble(v < 0L, rounded(v, scale, DOUBLE_BITS, DOUBLE_BIAS));
        }

        private static long signedFloat(boolean negative, long bits) {
            return negative ? (int) (bits | 1L << 31) : bits;
        }

        private static long signedDouble(boolean negative, long bits) {
            return negative ? bits | LEAST_LONG : bits;
        }

        /** The bits, but for the sign, of v / 2^scale with so many fraction bits, a tie to the even ones. */
        private static long rounded(long v, int scale, int bits, int bias) {
            if (v == 0L) {
                return 0L;
            }
            // read without a sign, the negation of the least long is right too
            long size = v < 0L ? -v : v;
            int top = 63 - Long.numberOfLeadingZeros(size);
            int drop = top - bits;
            long kept;
            if (drop <= 0) {
                kept = size << -drop;
            } else {
                kept = size >>> drop;
                long rest = size & (1L << drop) - 1L;
                long half = 1L << drop - 1;
                if (rest > half || rest == half && (kept & 1L) == 1L) {
                    kept++;
                }
            }
            // the leading bit of kept adds 1 to the exponent, and a carry from rounding 1 more
            return ((long) (top - scale + bias - 1) << bits) + kept;
        }

        private static long doubleOfFloat(long code) {
            if (code == 0L) {
                return 0L;
            }
            long exponent = (code >> FLOAT_BITS & FLOAT_EXPONENTS) + EXTRA_BIAS;
            long fraction = code & (1L << FLOAT_BITS) - 1L;
            return signedDouble(code < 0L, exponent << DOUBLE_BITS | fraction << EXTRA_BITS);
        }

        private static long floatOfDouble(long code) {
            if (code == 0L) {
                return 0L;
            }
            long exponent = (code >> DOUBLE_BITS & DOUBLE_EXPONENTS) - EXTRA_BIAS;
            long fraction = (code & (1L << DOUBLE_BITS) - 1L) >> EXTRA_BITS;
            return signedFloat(code < 0L, exponent << FLOAT_BITS | fraction);
        }

        /** Whether the number of a double is one of type long. */
        private static boolean hasWhole(long code) {
            if (code == 0L) {
                return true;
            }
            int exponent = exponentOf(code);
            if (exponent < 0 || exponent > 62) {
                return code == LEAST_LONG_AS_DOUBLE;
            }
            return exponent >= DOUBLE_BITS || (significand(code) & (1L << DOUBLE_BITS - exponent) - 1L) == 0L;
        }

        /** Called only where hasWhole() holds. */
        private static long wholeOf(long code) {
            if (code == 0L) {
                return 0L;
            }
            int exponent = exponentOf(code);
            long significand = significand(code);
            long size = exponent >= DOUBLE_BITS
                    ? significand << exponent - DOUBLE_BITS
                    : significand >> DOUBLE_BITS - exponent;
            return code < 0L ? -size : size;
        }

        private static int exponentOf(long code) {
            return (int) (code >> DOUBLE_BITS & DOUBLE_EXPONENTS) - DOUBLE_BIAS;
        }

        private static long significand(long code) {
            return code & (1L << DOUBLE_BITS) - 1L | 1L << DOUBLE_BITS;
        }
    }

    /** The reasons with which getting, fetching and putting end. */
    private static final class Rules {
        static boolean isMark(int type) {
            return type == MARK || type == STAR;
        }

        static boolean isNumeric(int type) {
            return type >= BYTE && type <= DOUBLE;
        }

        /** The form in which an element is fetched; NONE is the type of an empty one. */
        static int fetchedForm(int type) {
            if (type == NONE) {
                return NO_FORM;
            }
            return isPrimitive(type) ? BOX_FORM : isMark(type) ? MARK_FORM : TEXT_FORM;
        }

        /** The reason of fetching with an index that exists. */
        static int fetchFit(int thing) {
            if (thing == NOTHING) {
                return NO_THING;
            }
            return thing > ANY ? NO_ARRAY : FINE;
        }

        /** The reason of getting with an index that exists. */
        static int getFit(int thing, int kind) {
            int fit = fetchFit(thing);
            if (fit != FINE) {
                return fit;
            }
            if (!isPrimitive(thing)) {
                return OBJECTS;
            }
            return Numbers.widens(thing, kind) ? FINE : MISFIT;
        }

        /** The reason of putting with an index that exists. */
        static int putFit(int thing, int form, int type) {
            int fit = fetchFit(thing);
            if (fit != FINE) {
                return fit;
            }
            if (form == NO_FORM) {
                return isPrimitive(thing) ? EMPTY : FINE;
            }
            if (form == VALUE_FORM && !isPrimitive(thing)) {
                return OBJECTS;
            }
            return accepts(thing, type) ? FINE : MISFIT;
        }

        private static boolean accepts(int thing, int type) {
            switch (thing) {
                case MARK: return isMark(type);
                case STAR: return type == STAR;
                case TEXT: return type == TEXT;
                case WHOLE: return type == INT;
                case ANY: return true;
                default: return isPrimitive(type) && Numbers.widens(type, thing);
            }
        }

        /** The reason when it is known whether the index exists; only fitting depends on that. */
        static int placed(int fit, boolean exists) {
            if (exists) {
                return fit;
            }
            if (fit == FINE) {
                return OUT;
            }
            return fit == MISFIT || fit == OBJECTS ? BOTH : fit;
        }

        static int joinedType(int one, int other) {
            int least = isPrimitive(one) && isPrimitive(other) ? Numbers.leastOfTwo(one, other) : NONE;
            if (least != NONE) {
                return least;
            }
            if (one == other) {
                return one;
            }
            return isMark(one) && isMark(other) ? MARK : ANY;
        }
    }

    /** The things that slots hold, a row each; row 0 is nothing. */
    private static final class Shelf {
        static final int ROWS = SLOTS + Log.ACTS + 2;
        static final int NOTHING_ROW = 0;

        final int[] things;
        final int[] lengths;
        /** The type of what each element holds, NONE if it is empty. */
        final int[] types;
        /** The code of what each element holds; for a mark its index. */
        final long[] codes;

        Shelf() {
            things = new int[ROWS];
            lengths = new int[ROWS];
            types = new int[ROWS * CELLS];
            codes = new long[ROWS * CELLS];
            things[NOTHING_ROW] = NOTHING;
        }

        void prepare(int row, int thing, int length) {
            things[row] = thing;
            lengths[row] = length;
            for (int place = 0; place < length; place++) {
                set(row, place, isPrimitive(thing) ? thing : NONE, 0L);
            }
        }

        boolean has(int row, int place) {
            return place >= 0 && place < lengths[row];
        }

        int typeAt(int row, int place) {
            return types[row * CELLS + place];
        }

        long codeAt(int row, int place) {
            return codes[row * CELLS + place];
        }

        void set(int row, int place, int type, long code) {
            types[row * CELLS + place] = type;
            codes[row * CELLS + place] = code;
        }

        /** Called only where the rules let it be put. */
        void put(int row, int place, int type, long code) {
            int thing = things[row];
            if (isPrimitive(thing)) {
                set(row, place, thing, Numbers.widened(code, type, thing));
            } else {
                set(row, place, type, code);
            }
        }

        void putAll(int source, int start, int count, int target, int offset) {
            for (int i = 0; i < count; i++) {
                put(target, offset + i, typeAt(source, start + i), codeAt(source, start + i));
            }
        }

        boolean agree(int one, int other, int place) {
            int first = typeAt(one, place);
            int second = typeAt(other, place);
            long firstCode = codeAt(one, place);
            long secondCode = codeAt(other, place);
            if (!isPrimitive(first) || !isPrimitive(second)) {
                return first == second && firstCode == secondCode;
            }
            int least = Numbers.leastOfTwo(first, second);
            return least != NONE
                    && Numbers.widened(firstCode, first, least) == Numbers.widened(secondCode, second, least);
        }

        boolean stoodBefore(int row, int place) {
            for (int earlier = 0; earlier < place; earlier++) {
                if (typeAt(row, earlier) == typeAt(row, place) && codeAt(row, earlier) == codeAt(row, place)) {
                    return true;
                }
            }
            return false;
        }
    }

    /** The latest acts, in a ring, with what they changed as it was before. */
    private static final class Log {
        static final int ACTS = 14;
        static final int SLOT_ACT = 0, CELLS_ACT = 1, NUMBER_ACT = 2;

        final int[] sorts;
        /** The slot or the mark that was changed. */
        final int[] spots;
        /** The row that the slot held before, or whose elements were changed. */
        final int[] rows;
        final int[] numbers;
        private final int[] types;
        private final long[] codes;
        private int next;
        int kept;

        Log() {
            sorts = new int[ACTS];
            spots = new int[ACTS];
            rows = new int[ACTS];
            numbers = new int[ACTS];
            types = new int[ACTS * CELLS];
            codes = new long[ACTS * CELLS];
            next = 0;
            kept = 0;
        }

        void keepSlot(int slot, int row) {
            add(SLOT_ACT, slot, row, 0);
        }

        void keepNumber(int mark, int number) {
            add(NUMBER_ACT, mark, Shelf.NOTHING_ROW, number);
        }

        void keepCells(int row, Shelf shelf) {
            int act = add(CELLS_ACT, 0, row, 0);
            for (int place = 0; place < CELLS; place++) {
                types[act * CELLS + place] = shelf.typeAt(row, place);
                codes[act * CELLS + place] = shelf.codeAt(row, place);
            }
        }

        void restoreCells(int act, Shelf shelf) {
            for (int place = 0; place < CELLS; place++) {
                shelf.set(rows[act], place, types[act * CELLS + place], codes[act * CELLS + place]);
            }
        }

        int removeLatest() {
            next = before(next);
            kept--;
            return next;
        }

        boolean holds(int row) {
            int act = next;
            for (int i = 0; i < kept; i++) {
                act = before(act);
                if (rows[act] == row) {
                    return true;
                }
            }
            return false;
        }

        private int add(int sort, int spot, int row, int number) {
            int act = next;
            sorts[act] = sort;
            spots[act] = spot;
            rows[act] = row;
            numbers[act] = number;
            next = act + 1 < ACTS ? act + 1 : 0;
            kept = Math.min(kept + 1, ACTS);
            return act;
        }

        private static int before(int act) {
            return act > 0 ? act - 1 : ACTS - 1;
        }
    }

    /** The marks that were created, by their indices. */
    private static final class Marks {
        private static final int MOST = 20;

        private final int[] numbers;
        int count;

        Marks() {
            numbers = new int[MOST];
            count = 0;
        }

        boolean isFull() {
            return count >= MOST;
        }

        /** Called only where there is room. */
        int create(int number) {
            numbers[count] = number;
            count++;
            return count - 1;
        }

        int numberOf(int index) {
            return numbers[index];
        }

        void setNumber(int index, int number) {
            numbers[index] = number;
        }
    }

    /** The observations of an unknown thing. */
    private static final class Views {
        private static final int MOST = 6;

        private final int[] ways;
        private final int[] kinds;
        private final int[] outcomes;
        int count;

        Views() {
            ways = new int[MOST];
            kinds = new int[MOST];
            outcomes = new int[MOST];
            count = 0;
        }

        boolean add(int how, int kind, int reason) {
            if (count >= MOST) {
                return false;
            }
            ways[count] = how;
            kinds[count] = kind;
            outcomes[count] = reason;
            count++;
            return true;
        }

        boolean allow(int thing) {
            for (int i = 0; i < count; i++) {
                if (expected(ways[i], kinds[i], thing) != outcomes[i]) {
                    return false;
                }
            }
            return true;
        }

        private static int expected(int how, int kind, int thing) {
            if (how == 0) {
                return Rules.getFit(thing, kind);
            }
            return Rules.putFit(thing, how == 1 ? VALUE_FORM : BOX_FORM, kind);
        }
    }

    /** The text, and the array that the latest scan read from it. */
    private static final class Reader {
        private static final int LONGEST = 60;
        private static final int MOST_DIGITS = 9;
        private static final String PRIMITIVE_LETTERS = "zbcsijfd";

        private final int[] letters;
        int length;
        int arrayType;
        int count;
        final int[] types;
        /** The number of each element, as it was written. */
        final long[] numbers;
        /** The index of the next letter to read. */
        private int next;

        Reader() {
            letters = new int[LONGEST];
            length = 0;
            arrayType = NONE;
            count = 0;
            types = new int[CELLS];
            numbers = new long[CELLS];
            next = 0;
        }

        boolean append(int letter) {
            if (length >= LONGEST) {
                return false;
            }
            letters[length] = letter;
            length++;
            return true;
        }

        /** Reads the text; answers its fault, NONE if it has none. */
        int scan() {
            next = 0;
            count = 0;
            arrayType = arrayTypeOf(letter());
            if (arrayType == NONE) {
                return 0;
            }
            next = 1;
            while (count < CELLS && next < length) {
                if (count > 0 && !skip(',') || !readElement()) {
                    return next;
                }
                count++;
            }
            return next < length ? next : NONE;
        }

        /** The next letter, NONE behind the end. */
        private int letter() {
            return next < length ? letters[next] : NONE;
        }

        private boolean skip(char letter) {
            if (letter() != letter) {
                return false;
            }
            next++;
            return true;
        }

        private static int arrayTypeOf(int letter) {
            switch (letter) {
                case 't': return TEXT;
                case 'w': return WHOLE;
                case 'o': return ANY;
                default: return primitiveOf(letter);
            }
        }

        private static int primitiveOf(int letter) {
            int type = letter < 0 ? -1 : PRIMITIVE_LETTERS.indexOf((char) letter);
            return type < 0 ? NONE : type;
        }

        private boolean readElement() {
            if (!isPrimitive(arrayType) && skip('*')) {
                keep(NONE, 0L);
                return true;
            }
            if (arrayType != ANY) {
                return readNumber(arrayType == WHOLE ? INT : arrayType);
            }
            int type = letter() == 't' ? TEXT : primitiveOf(letter());
            if (type == NONE) {
                return false;
            }
            next++;
            return readNumber(type);
        }

        private boolean readNumber(int kind) {
            boolean negative = Numbers.lowest(kind) < 0L && skip('-');
            long number = 0L;
            int digits = 0;
            while (digits < MOST_DIGITS && isDigit(letter())) {
                int digit = letter() - '0';
                long longer = number * 10L + (negative ? -digit : digit);
                boolean zeroFirst = number == 0L && (digits > 0 || negative && digit == 0);
                if (zeroFirst || !Numbers.isBetween(longer, kind)) {
                    break;
                }
                number = longer;
                digits++;
                next++;
            }
            keep(kind, number);
            return digits > 0;
        }

        private static boolean isDigit(int letter) {
            return letter >= '0' && letter <= '9';
        }

        private void keep(int type, long number) {
            types[count] = type;
            numbers[count] = number;
        }
    }
}
