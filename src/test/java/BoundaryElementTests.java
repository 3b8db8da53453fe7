import java.io.IOException;

/** Boundary cases of promises 18 to 21: elements. */
public final class BoundaryElementTests extends Boundary {
    private static final int[] SOME_PLACES = {0, 5, 6, -1, LEAST, GREATEST};

    /** In slot 0 an array of a type with 6 elements; in the hand the text 8. */
    private static WidenDesk withText(int type) {
        WidenDesk x = array(type, 6);
        x.text(8);
        return x;
    }

    private static boolean exists(int place) {
        return place == 0 || place == 5;
    }

    private static int placed(int fit, int place) {
        return exists(place) ? fit : fit == 0 ? 1 : fit == 2 || fit == 4 ? 6 : fit;
    }

    private static int getFit(int type, int kind) {
        return type > 7 ? 4 : widens(type, kind) ? 0 : 2;
    }

    // ---- 18 take

    @Says({"To get an element as type t (0 to 7) gives its value, widened to t.",
        "The reason is 2 if the type of the array, 0 to 7, does not widen to t, and 4 if it is 8 to 12.",
        "A primitive type widens to itself and, as in Java, to these types: byte to short, int, long, float, double; char "
        + "and short to int, long, float, double; int to long, float, double; long to float, double; float to double."})
    static void promise18TakeKnowsWhichTypesWidenToWhich() {
        for (int type = 0; type < 13; type++) {
            for (int kind = 0; kind < 8; kind++) {
                WidenDesk x = withText(type);
                int fit = getFit(type, kind);
                due("take(0,0," + kind + ") of " + type, x.take(0, 0, kind), fit);
                if (fit == 0) {
                    dueHand(x, 1, kind, 0, NONE);
                } else {
                    dueHand(x, 4, 10, 8, NONE);
                }
            }
        }
    }

    @Says({"1 out the array has no such index",
        "6 both the array has no such index, and the reason would be 2 or 4 with an index that exists"})
    static void promise18TakeSaysOutOrBothWithoutTheIndex() {
        for (int type = 0; type < 13; type++) {
            for (int kind = 0; kind < 8; kind++) {
                WidenDesk x = withText(type);
                for (int place : SOME_PLACES) {
                    if (!exists(place)) {
                        due("take(0," + place + "," + kind + ") of " + type, x.take(0, place, kind), getFit(type, kind) == 0 ? 1 : 6);
                    }
                }
                dueHand(x, 4, 10, 8, NONE);
            }
        }
        stays(Boundary::busy, "take(1,2,5)", x -> x.take(1, 2, 5), 1);
        stays(Boundary::busy, "take(1,2,3)", x -> x.take(1, 2, 3), 6);
    }

    @Says("1 out the array has no such index")
    static void promise18TakeFindsNoIndexInAnArrayWithoutElements() {
        for (int place : new int[] {0, -1, LEAST, GREATEST}) {
            stays(Boundary::busy, "take(6," + place + ",1)", x -> x.take(6, place, 1), 1);
            stays(Boundary::busy, "take(6," + place + ",2)", x -> x.take(6, place, 2), 6);
            due("take(0," + place + ",4) of any", array(12, 0).take(0, place, 4), 6);
        }
    }

    @Says({"3 no array the thing is a single text or a single mark", "5 nothing there is nothing in the slot"})
    static void promise18TakeSaysNoArrayOrNothingWithAnyIndex() {
        for (int place : SOME_PLACES) {
            for (int kind = 0; kind < 8; kind++) {
                int type = kind;
                stays(Boundary::busy, "take(2," + place + "," + kind + ")", x -> x.take(2, place, type), 3);
                stays(Boundary::busy, "take(3," + place + "," + kind + ")", x -> x.take(3, place, type), 3);
                stays(Boundary::busy, "take(9," + place + "," + kind + ")", x -> x.take(9, place, type), 5);
            }
        }
    }

    @Says({"`kind`: the type, 0 to 7", "Returns the reason, 0 to 6; errors: UNKNOWN; BAD."})
    static void promise18TakeSaysUnknownThenBadThenTheReason() {
        for (int slot : NO_SLOTS) {
            stays(Boundary::busy, "take(" + slot + ",0,4)", x -> x.take(slot, 0, 4), UNKNOWN);
            stays(Boundary::busy, "take(" + slot + ",0,8)", x -> x.take(slot, 0, 8), UNKNOWN);
        }
        for (int kind : outside(0, 7)) {
            for (int slot : new int[] {0, 1, 2, 9}) {
                stays(Boundary::busy, "take(" + slot + ",0," + kind + ")", x -> x.take(slot, 0, kind), BAD);
                stays(Boundary::busy, "take(" + slot + ",-1," + kind + ")", x -> x.take(slot, -1, kind), BAD);
            }
        }
        for (int slot : EDGE_SLOTS) {
            WidenDesk x = new WidenDesk();
            x.make(slot, 4, 1);
            due("take(" + slot + ",0,4)", x.take(slot, 0, 4), 0);
        }
    }

    @Says("The value stays the same number, rounded as by a Java cast where it becomes a float or double.")
    static void promise18TakeWidensTheLeastAndGreatestValues() {
        long[][] edges = {{0, 1}, {-128, -1, 127}, {0, 65535, 32768}, {-32768, 32767}, {LEAST, GREATEST, 16777217, 16777219, -16777217},
            {Long.MIN_VALUE, Long.MAX_VALUE, (1L << 53) + 1, (1L << 53) + 3, -(1L << 53) - 1, (1L << 62) + (1L << 38) + 1,
                (1L << 62) + (1L << 38), (1L << 62) + (3L << 38), (1L << 24) + 1, Long.MAX_VALUE - 512, Long.MAX_VALUE - 511}};
        for (int type = 0; type < 6; type++) {
            for (long v : edges[type]) {
                for (int kind = 0; kind < 8; kind++) {
                    if (widens(type, kind)) {
                        WidenDesk x = array(type, 6);
                        layValue(x, 0, 5, type, v);
                        due("take(0,5," + kind + ") of " + v, x.take(0, 5, kind), 0);
                        dueHand(x, 1, kind, cast(v, kind), NONE);
                    }
                }
            }
        }
    }

    @Says("float to double")
    static void promise18TakeWidensFloatsToTheSameDoubles() {
        for (long v : new long[] {0, 1, -1, 7, 8, -12345, (1L << 24) - 1, (1L << 27) + 1, Long.MAX_VALUE, Long.MIN_VALUE}) {
            WidenDesk x = array(6, 1);
            layValue(x, 0, 0, 6, v);
            due("take(0,0,7)", x.take(0, 0, 7), 0);
            dueHand(x, 1, 7, bits((double) ((float) v / 8f)), NONE);
            due("take(0,0,6)", x.take(0, 0, 6), 0);
            dueHand(x, 1, 6, bits((float) v / 8f), NONE);
        }
    }

    @Says("Gets an element as a primitive type. The hand holds the value then.")
    static void promise18TakeChangesTheHandAlone() {
        staysButForTheHand(Boundary::busy, "take(1,1,7)", x -> x.take(1, 1, 7), 0);
        staysButForTheHand(Boundary::full, "take(0,5,4)", x -> x.take(0, 5, 4), 0);
    }

    // ---- 19 fetch

    @Says({"Returns the reason, 0, 1, 3 or 5; errors: UNKNOWN.", "The reasons are 0, 1, 3 and 5."})
    static void promise19FetchHasReasons0And1And3And5() {
        for (int slot : NO_SLOTS) {
            stays(Boundary::busy, "fetch(" + slot + ",0)", x -> x.fetch(slot, 0), UNKNOWN);
            stays(Boundary::busy, "fetch(" + slot + ",-1)", x -> x.fetch(slot, -1), UNKNOWN);
        }
        for (int place : SOME_PLACES) {
            stays(Boundary::busy, "fetch(2," + place + ")", x -> x.fetch(2, place), 3);
            stays(Boundary::busy, "fetch(3," + place + ")", x -> x.fetch(3, place), 3);
            stays(Boundary::busy, "fetch(9," + place + ")", x -> x.fetch(9, place), 5);
            stays(Boundary::busy, "fetch(6," + place + ")", x -> x.fetch(6, place), 1);
        }
        for (int type = 0; type < 13; type++) {
            for (int place : SOME_PLACES) {
                WidenDesk x = withText(type);
                due("fetch(0," + place + ") of " + type, x.fetch(0, place), exists(place) ? 0 : 1);
                if (!exists(place)) {
                    dueHand(x, 4, 10, 8, NONE);
                }
            }
        }
        due("fetch(9,0)", deskWithSlot9().fetch(9, 0), 0);
    }

    private static WidenDesk deskWithSlot9() {
        WidenDesk x = new WidenDesk();
        x.make(9, 4, 1);
        return x;
    }

    @Says({"Fetches an element. The hand holds it then, also nothing.", "else what it holds, perhaps nothing"})
    static void promise19FetchOfAnEmptyElementEmptiesTheHand() {
        for (int type = 8; type < 13; type++) {
            WidenDesk x = withText(type);
            due("fetch(0,5) of " + type, x.fetch(0, 5), 0);
            dueHand(x, 0, NONE, 0, NONE);
            x = array(type, 1);
            x.mark(1, 5);
            due("fetch(0,0) of " + type, x.fetch(0, 0), 0);
            dueHand(x, 0, NONE, 0, NONE);
            due("grow(6)", x.grow(6), LATE);
        }
    }

    @Says("To fetch an element gives what it is: a box of the type of the array, if this is 0 to 7")
    static void promise19FetchGivesBoxesOfTheArraysType() {
        for (int type = 0; type < 8; type++) {
            for (long v : new long[] {0, 1, -1, Long.MIN_VALUE, Long.MAX_VALUE}) {
                WidenDesk x = array(type, 6);
                layValue(x, 0, 5, type, v);
                x.text(8);
                due("fetch(0,5)", x.fetch(0, 5), 0);
                dueHand(x, 2, type, made(type, v), NONE);
            }
        }
    }

    @Says("else what it holds, perhaps nothing")
    static void promise19FetchGivesWhatTheElementHolds() {
        WidenDesk x = desk("w-5", "t9999", "oz1,c65535,f-3,d3,t0,j7");
        due("fetch(0,0)", x.fetch(0, 0), 0);
        dueHand(x, 2, 4, -5, NONE);
        due("fetch(1,0)", x.fetch(1, 0), 0);
        dueHand(x, 4, 10, 9999, NONE);
        long[][] want = {{2, 0, 1}, {2, 2, 65535}, {2, 6, bits(-3f)}, {2, 7, bits(3d)}, {4, 10, 0}, {2, 5, 7}};
        for (int place = 0; place < 6; place++) {
            due("fetch(2," + place + ")", x.fetch(2, place), 0);
            dueHand(x, want[place][0], want[place][1], want[place][2], NONE);
        }
        x = busy();
        due("fetch(4,0)", x.fetch(4, 0), 0);
        dueHand(x, 3, 9, 17, 0);
        due("fetch(4,1)", x.fetch(4, 1), 0);
        dueHand(x, 3, 8, 31, 1);
    }

    @Says("The hand holds it then")
    static void promise19FetchChangesTheHandAlone() {
        staysButForTheHand(Boundary::busy, "fetch(1,1)", x -> x.fetch(1, 1), 0);
        staysButForTheHand(Boundary::busy, "fetch(0,2)", x -> x.fetch(0, 2), 0);
        staysButForTheHand(Boundary::full, "fetch(9,5)", x -> x.fetch(9, 5), 0);
    }

    // ---- 20 lay

    /** Puts one of 20 things into the hand: nothing, 8 values, 8 boxes, a mark, a star, a text. */
    private static void hold(WidenDesk x, int which) {
        if (which >= 1 && which <= 16) {
            x.give((which - 1) % 8, 1);
            if (which > 8) {
                x.turn();
            }
        } else if (which == 17 || which == 18) {
            x.mark(which - 17, 1);
        } else if (which == 19) {
            x.text(1);
        }
    }

    private static int putFit(int type, int which) {
        if (which == 0) {
            return type < 8 ? 7 : 0;
        }
        int kind = (which - 1) % 8;
        if (type < 8) {
            return which <= 16 && widens(kind, type) ? 0 : 2;
        }
        if (which <= 8) {
            return 4;
        }
        boolean fits = type == 12 || type == 11 && which == 13 || type == 10 && which == 19 || type == 9 && which == 18
            || type == 8 && (which == 17 || which == 18);
        return fits ? 0 : 2;
    }

    @Says({"To put something into an element is possible in these cases: a value or a box into an array of type 0 to 7 to "
        + "which its type widens (the element becomes the widened value); a box into an array of type any; a box of type "
        + "int into one of type whole; a mark into one of type mark or any, a star also into one of type star; a text into "
        + "one of type text or any; nothing into any array of type 8 to 12 (the element is empty then).",
        "If the type does not fit, the reason is 4 for a value and an array of type 8 to 12, otherwise 2.",
        "6 both the array has no such index, and the reason would be 2 or 4 with an index that exists",
        "7 empty nothing is written to an array of type 0 to 7 (with any index)", "2 unlike the types do not fit",
        "4 objects a value is read from or written to an array of type 8 to 12",
        "An element of type mark is empty or a mark, of type star empty or a star, of type text empty or a text, of type "
        + "whole empty or a box of type int"})
    static void promise20LayKnowsWhatFitsIntoWhich() {
        for (int type = 0; type < 13; type++) {
            for (int which = 0; which < 20; which++) {
                for (int place : SOME_PLACES) {
                    WidenDesk x = array(type, 6);
                    hold(x, which);
                    int want = placed(putFit(type, which), place);
                    due("lay(0," + place + ") of hand " + which + " into " + type, x.lay(0, place), want);
                    due("about(1)", x.about(1), want == 0 ? 2 : 1);
                    due("undo()", x.undo(), want == 0 ? 1 : 0);
                }
            }
        }
    }

    @Says({"A call that returns an error, or a reason other than 0, changes nothing", "Returns the reason, 0 to 7; errors: UNKNOWN."})
    static void promise20LayWithAnotherReasonChangesNothing() {
        for (int which = 0; which < 20; which++) {
            int held = which;
            Setup setup = () -> {
                WidenDesk x = busy();
                x.fetch(0, 2);
                hold(x, held);
                return x;
            };
            for (int place : SOME_PLACES) {
                stays(setup, "lay(2," + place + ")", x -> x.lay(2, place), 3);
                stays(setup, "lay(3," + place + ")", x -> x.lay(3, place), 3);
                stays(setup, "lay(9," + place + ")", x -> x.lay(9, place), 5);
                stays(setup, "lay(6," + place + ") of hand " + which, x -> x.lay(6, place), placed(putFit(1, held), -1));
            }
            if (putFit(4, which) != 0) {
                stays(setup, "lay(1,0) of hand " + which, x -> x.lay(1, 0), putFit(4, held));
                stays(setup, "lay(1,1) of hand " + which, x -> x.lay(1, 1), putFit(4, held));
            }
        }
    }

    @Says("errors: UNKNOWN")
    static void promise20LayKnowsTheSlots0To9() {
        for (int slot : NO_SLOTS) {
            stays(Boundary::busy, "lay(" + slot + ",0)", x -> x.lay(slot, 0), UNKNOWN);
            stays(WidenDesk::new, "lay(" + slot + ",-1)", x -> x.lay(slot, -1), UNKNOWN);
            stays(() -> busyWithValue(4, 1), "lay(" + slot + ",0)", x -> x.lay(slot, 0), UNKNOWN);
        }
        for (int slot : EDGE_SLOTS) {
            WidenDesk x = new WidenDesk();
            x.make(slot, 4, 1);
            x.give(4, 5);
            due("lay(" + slot + ",0)", x.lay(slot, 0), 0);
            dueCells(x, slot, 4, 5);
        }
    }

    @Says({"Puts what the hand holds into an element. The hand keeps it.", "(the element is empty then)"})
    static void promise20LayPutsWhatTheHandHoldsAndKeepsIt() {
        WidenDesk x = array(12, 6);
        long[][] want = {{0, NONE, 0}, {2, 0, 1}, {2, 5, 1}, {3, 8, 1}, {3, 9, 1}, {4, 10, 1}};
        int[] held = {0, 9, 14, 17, 18, 19};
        for (int i = 0; i < 6; i++) {
            x = array(12, 6);
            for (int place = 0; place < 6; place++) {
                x.text(50 + place);
                x.lay(0, place);
            }
            x.make(1, 12, 1);
            x.fetch(1, 0);
            hold(x, held[i]);
            due("lay(0,3)", x.lay(0, 3), 0);
            dueHand(x, want[i][0], want[i][1], want[i][2], want[i][0] == 3 ? 0 : NONE);
            dueCells(x, 0, 10, 50, 10, 51, 10, 52, want[i][1], want[i][2], 10, 54, 10, 55);
            due("cell(0,3,2)", x.cell(0, 3, 2), want[i][0] == 3 ? 0 : NONE);
        }
    }

    @Says("(the element becomes the widened value)")
    static void promise20LayWidensTheLeastAndGreatestValues() {
        long[][] edges = {{0, 1}, {-128, 127}, {0, 65535}, {-32768, 32767}, {LEAST, GREATEST, 16777217, 16777219},
            {Long.MIN_VALUE, Long.MAX_VALUE, (1L << 53) + 1, (1L << 53) + 3, -(1L << 24) - 1}};
        for (int kind = 0; kind < 6; kind++) {
            for (long v : edges[kind]) {
                for (int type = 0; type < 8; type++) {
                    if (widens(kind, type)) {
                        WidenDesk x = array(type, 6);
                        x.give(kind, v);
                        due("lay(0,5)", x.lay(0, 5), 0);
                        x.turn();
                        due("lay(0,0)", x.lay(0, 0), 0);
                        dueHand(x, 2, kind, v, NONE);
                        long code = cast(v, type);
                        dueCells(x, 0, type, code, type, 0, type, 0, type, 0, type, 0, type, code);
                    }
                }
            }
        }
        WidenDesk x = array(7, 1);
        x.give(6, -1);
        due("lay(0,0)", x.lay(0, 0), 0);
        dueCells(x, 0, 7, bits(-0.125d));
    }

    @Says("lay() with the reason 0")
    static void promise20LayOfTheSameAgainIsAnAct() {
        WidenDesk x = array(4, 1);
        x.give(4, 0);
        due("lay(0,0)", x.lay(0, 0), 0);
        due("lay(0,0)", x.lay(0, 0), 0);
        due("about(1)", x.about(1), 3);
        due("lay(0,1)", x.lay(0, 1), 1);
        due("about(1)", x.about(1), 3);
    }

    @Says("of type any empty, a box of any primitive type, a mark or a text")
    static void promise20LayKeepsTheTypeOfABoxInAny() {
        for (int kind = 0; kind < 8; kind++) {
            for (long v : new long[] {Long.MIN_VALUE, -1, 0, Long.MAX_VALUE}) {
                WidenDesk x = array(12, 1);
                x.give(kind, v);
                due("lay(0,0)", x.lay(0, 0), 4);
                x.turn();
                due("lay(0,0)", x.lay(0, 0), 0);
                dueCells(x, 0, kind, made(kind, v));
            }
        }
    }

    @Says("Puts what the hand holds into an element.")
    static void promise20LayChangesNoOtherArray() {
        for (int slot = 0; slot < 10; slot++) {
            for (int place : new int[] {0, 5}) {
                WidenDesk x = new WidenDesk();
                tellInAllSlots(x, "i", "7", 10);
                layValue(x, slot, place, 4, 8);
                dueOthers(x, slot, 7);
                due("undo()", x.undo(), 10);
                dueOthers(x, -1, 7);
            }
        }
    }

    // ---- 21 scatter

    private static void checkScattered(int type, int length, long first) {
        WidenDesk x = array(type, length);
        due("scatter(0," + first + ")", x.scatter(0, first), length);
        long state = first;
        for (int place = 0; place < length; place++) {
            state = state * 6364136223846793005L + 1442695040888963407L;
            due("cell(0," + place + ",0)", x.cell(0, place, 0), type);
            due("cell(0," + place + ",1)", x.cell(0, place, 1), made(type, state >> 20));
        }
        due("about(1)", x.about(1), 2);
        due("undo()", x.undo(), 1);
        for (int place = 0; place < length; place++) {
            due("cell(0," + place + ",1)", x.cell(0, place, 1), 0);
        }
    }

    @Says({"x becomes x * 6364136223846793005 + 1442695040888963407 (64 bits, wrapping), and the element becomes the value "
        + "that is made from x >> 20", "Returns the number of elements"})
    static void promise21ScatterFillsArraysOf0To6ElementsFromAnyLong() {
        long[] firsts = {0, 1, -1, 99, Long.MIN_VALUE, Long.MAX_VALUE, 1L << 20, -(1L << 20), 6364136223846793005L};
        for (int type = 0; type < 8; type++) {
            for (int length = 0; length <= 6; length++) {
                for (long first : firsts) {
                    checkScattered(type, length, first);
                }
            }
        }
    }

    @Says("errors: UNKNOWN; LATE if the slot holds no array of type 0 to 7")
    static void promise21ScatterSaysUnknownThenLate() {
        for (int slot : NO_SLOTS) {
            stays(Boundary::busy, "scatter(" + slot + ",1)", x -> x.scatter(slot, 1), UNKNOWN);
        }
        for (int thing = 8; thing < 16; thing++) {
            int kind = thing;
            for (int slot : EDGE_SLOTS) {
                Setup setup = () -> {
                    WidenDesk x = busy();
                    x.make(slot, kind, kind < 13 ? 2 : 0);
                    return x;
                };
                stays(setup, "scatter(" + slot + ",1) of " + thing, x -> x.scatter(slot, 1), LATE);
                stays(setup, "scatter(" + slot + ",least) of " + thing, x -> x.scatter(slot, Long.MIN_VALUE), LATE);
            }
        }
        for (int slot : EDGE_SLOTS) {
            WidenDesk x = new WidenDesk();
            x.make(slot, 7, 6);
            due("scatter(" + slot + ",1)", x.scatter(slot, 1), 6);
        }
        due("scatter(0,1) of an empty array of type any", array(12, 0).scatter(0, 1), LATE);
    }

    @Says("scatter() and grow(), if they return no error")
    static void promise21ScatterOfNoElementsIsAnAct() {
        for (int type = 0; type < 8; type++) {
            WidenDesk x = array(type, 0);
            due("scatter(0,5)", x.scatter(0, 5), 0);
            due("about(1)", x.about(1), 2);
        }
    }

    @Says("Fills an array of a primitive type with pseudo-random values")
    static void promise21ScatterChangesNoOtherArray() {
        for (int slot = 0; slot < 10; slot++) {
            WidenDesk x = new WidenDesk();
            tellInAllSlots(x, "i", "7", 10);
            due("scatter(" + slot + ",5)", x.scatter(slot, 5), 6);
            dueOthers(x, slot, 7);
            due("undo()", x.undo(), 10);
            dueOthers(x, -1, 7);
        }
    }

    @Says("Fills an array of a primitive type with pseudo-random values")
    static void promise21ScatterIsSeenInAllSlotsAndLeavesTheHand() {
        WidenDesk x = busy();
        due("scatter(5,7)", x.scatter(5, 7), 2);
        due("alike(1,5)", x.alike(1, 5), NONE);
        long state = 7 * 6364136223846793005L + 1442695040888963407L;
        due("cell(1,0,1)", x.cell(1, 0, 1), made(4, state >> 20));
        dueHand(x, 3, 8, 31, 1);
        due("cell(0,0,1)", x.cell(0, 0, 1), 5);
    }

    public static void main(String[] args) throws IOException {
        run(BoundaryElementTests.class, 18, 21);
    }
}
