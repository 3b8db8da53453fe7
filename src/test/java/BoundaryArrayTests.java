import java.io.IOException;

/** Boundary cases of promises 28 to 32: whole arrays. */
public final class BoundaryArrayTests extends Boundary {
    private static int least(int one, int other) {
        for (int type = 0; type < 8; type++) {
            if (one < 8 && other < 8 && widens(one, type) && widens(other, type)) {
                return type;
            }
        }
        return NONE;
    }

    private static void dueAlike(String one, String other, int want) {
        WidenDesk x = desk(one, other);
        due("alike(0,1) of " + one + " and " + other, x.alike(0, 1), want);
        due("alike(1,0) of " + one + " and " + other, x.alike(1, 0), want);
    }

    // ---- 28 join

    @Says("FULL if it would have more than 6 elements")
    static void promise28JoinMakesArraysOf0To6ElementsAndNoMore() {
        for (int first = 0; first <= 6; first++) {
            for (int second = 0; second <= 6; second++) {
                int one = first;
                int other = second;
                Setup setup = () -> {
                    WidenDesk x = array(4, one);
                    x.make(1, 4, other);
                    x.scatter(0, 1);
                    x.scatter(1, 2);
                    return x;
                };
                if (first + second > 6) {
                    stays(setup, "join(0,1,2)", x -> x.join(0, 1, 2), FULL);
                    stays(setup, "join(0,1,0)", x -> x.join(0, 1, 0), FULL);
                } else {
                    WidenDesk x = setup.made();
                    due("join(0,1,2)", x.join(0, 1, 2), 4);
                    due("thing(2,1)", x.thing(2, 1), first + second);
                    for (int place = 0; place < first + second; place++) {
                        long code = place < first ? x.cell(0, place, 1) : x.cell(1, place - first, 1);
                        due("cell(2," + place + ",1)", x.cell(2, place, 1), code);
                    }
                }
            }
        }
    }

    @Says("FULL if it would have more than 6 elements")
    static void promise28JoinIsFullForAllTypes() {
        for (int one = 0; one < 13; one++) {
            for (int other = 0; other < 13; other++) {
                WidenDesk x = array(one, 6);
                x.make(1, other, 1);
                due("join(0,1,9) of " + one + " and " + other, x.join(0, 1, 9), FULL);
                due("join(1,0,9) of " + one + " and " + other, x.join(1, 0, 9), FULL);
                due("join(0,0,9) of " + one, x.join(0, 0, 9), FULL);
                due("thing(9,0)", x.thing(9, 0), 15);
                due("about(1)", x.about(1), 2);
            }
        }
    }

    @Says({"`one`: slot of the first array, 0 to 9", "`other`: slot of the second array, also the same",
        "`to`: the slot for the new array, 0 to 9", "errors: UNKNOWN; LATE if one of the first two slots holds no array; FULL"})
    static void promise28JoinSaysUnknownThenLateThenFull() {
        for (int slot : NO_SLOTS) {
            stays(Boundary::busy, "join(" + slot + ",1,0)", x -> x.join(slot, 1, 0), UNKNOWN);
            stays(Boundary::busy, "join(1," + slot + ",0)", x -> x.join(1, slot, 0), UNKNOWN);
            stays(Boundary::busy, "join(1,1," + slot + ")", x -> x.join(1, 1, slot), UNKNOWN);
            stays(Boundary::busy, "join(" + slot + ",2,0)", x -> x.join(slot, 2, 0), UNKNOWN);
            stays(Boundary::busy, "join(9," + slot + ",0)", x -> x.join(9, slot, 0), UNKNOWN);
            stays(Boundary::busy, "join(2,9," + slot + ")", x -> x.join(2, 9, slot), UNKNOWN);
            stays(Boundary::full, "join(0,1," + slot + ")", x -> x.join(0, 1, slot), UNKNOWN);
        }
        for (int slot : new int[] {2, 3, 9}) {
            stays(Boundary::busy, "join(" + slot + ",1,0)", x -> x.join(slot, 1, 0), LATE);
            stays(Boundary::busy, "join(1," + slot + ",0)", x -> x.join(1, slot, 0), LATE);
            stays(Boundary::busy, "join(" + slot + "," + slot + ",0)", x -> x.join(slot, slot, 0), LATE);
            stays(() -> withEmptySlot(slot), "join(0," + slot + ",1)", x -> x.join(0, slot, 1), LATE);
        }
        stays(Boundary::full, "join(0,1,2)", x -> x.join(0, 1, 2), FULL);
    }

    /** With 6 elements in the other slots, and nothing in one of them. */
    private static WidenDesk withEmptySlot(int slot) {
        WidenDesk x = full();
        x.make(slot, 15, 0);
        return x;
    }

    @Says("Puts a new array into a slot")
    static void promise28JoinMayPutItIntoAnySlot() {
        for (int to = 0; to < 10; to++) {
            WidenDesk x = desk("i1,2", "i3", "text", "mark");
            due("join(0,1," + to + ")", x.join(0, 1, to), 4);
            dueCells(x, to, 4, 1, 4, 2, 4, 3);
            due("about(1)", x.about(1), 5);
            due("undo()", x.undo(), 4);
            due("thing(" + to + ",0)", x.thing(to, 0), to < 2 ? 4 : to < 4 ? 11 + to : 15);
        }
        WidenDesk x = new WidenDesk();
        x.make(9, 4, 3);
        due("join(9,9,9)", x.join(9, 9, 9), 4);
        due("thing(9,1)", x.thing(9, 1), 6);
        due("join(9,9,9)", x.join(9, 9, 9), FULL);
    }

    @Says({"If both have types 0 to 7 and there is a least common type (see least()), it has this type",
        "Otherwise the elements are fetched, and its type is that of both, if they are equal; mark, if one is mark and the other one star; else any.",
        "Returns the type of the new array"})
    static void promise28JoinHasItsTypeForAllPairs() {
        for (int one = 0; one < 13; one++) {
            for (int other = 0; other < 13; other++) {
                for (int length = 0; length < 2; length++) {
                    WidenDesk x = array(one, length);
                    x.make(1, other, 1);
                    boolean marks = one + other == 17 && Math.min(one, other) == 8;
                    int type = least(one, other) != NONE ? least(one, other) : one == other ? one : marks ? 8 : 12;
                    due("join(0,1,2) of " + one + " and " + other, x.join(0, 1, 2), type);
                    due("thing(2,0)", x.thing(2, 0), type);
                    due("cell(2," + length + ",0)", x.cell(2, length, 0), other > 7 ? NONE : type < 8 ? type : other);
                    due("thing(2,1)", x.thing(2, 1), length + 1);
                }
            }
        }
    }

    @Says("and each element is got as this type")
    static void promise28JoinRoundsWhereTheLeastTypeIsFloatOrDouble() {
        WidenDesk x = desk("i16777217,-16777219", "f1", "b-128", "d1", "c65535", "s-32768");
        due("join(0,1,9)", x.join(0, 1, 9), 6);
        dueCells(x, 9, 6, bits(16777216f), 6, bits(-16777220f), 6, bits(1f));
        due("join(0,3,9)", x.join(0, 3, 9), 7);
        dueCells(x, 9, 7, bits(16777217d), 7, bits(-16777219d), 7, bits(1d));
        due("join(4,5,9)", x.join(4, 5, 9), 4);
        dueCells(x, 9, 4, 65535, 4, -32768);
        due("join(5,2,9)", x.join(5, 2, 9), 3);
        dueCells(x, 9, 3, -32768, 3, -128);
        due("join(2,1,9)", x.join(2, 1, 9), 6);
        dueCells(x, 9, 6, bits(-128f), 6, bits(1f));
        x = array(5, 2);
        x.make(1, 6, 0);
        x.make(2, 7, 0);
        layValue(x, 0, 0, 5, Long.MAX_VALUE);
        layValue(x, 0, 1, 5, Long.MIN_VALUE);
        due("join(0,1,9)", x.join(0, 1, 9), 6);
        dueCells(x, 9, 6, bits(9223372036854775807f), 6, bits(-9223372036854775808f));
        due("join(2,0,9)", x.join(2, 0, 9), 7);
        dueCells(x, 9, 7, bits(9223372036854775807d), 7, bits(-9223372036854775808d));
    }

    @Says("Otherwise the elements are fetched")
    static void promise28JoinKeepsBoxesMarksAndEmptyElements() {
        WidenDesk x = desk("z1,0", "i5", "w7,*", "ot3,b1");
        due("join(0,1,9)", x.join(0, 1, 9), 12);
        dueCells(x, 9, 0, 1, 0, 0, 4, 5);
        due("join(1,2,9)", x.join(1, 2, 9), 12);
        dueCells(x, 9, 4, 5, 4, 7, NONE, 0);
        due("join(2,2,9)", x.join(2, 2, 9), 11);
        dueCells(x, 9, 4, 7, NONE, 0, 4, 7, NONE, 0);
        due("join(3,0,9)", x.join(3, 0, 9), 12);
        dueCells(x, 9, 10, 3, 1, 1, 0, 1, 0, 0);
        due("join(0,0,9)", x.join(0, 0, 9), 0);
        dueCells(x, 9, 0, 1, 0, 0, 0, 1, 0, 0);
        x = busy();
        x.make(7, 9, 1);
        x.fetch(4, 0);
        x.lay(7, 0);
        due("join(7,4,8)", x.join(7, 4, 8), 8);
        dueCells(x, 8, 9, 17, 9, 17, 8, 31);
        due("join(7,7,8)", x.join(7, 7, 8), 9);
        due("join(4,4,8)", x.join(4, 4, 8), 8);
        due("join(4,0,8)", x.join(4, 0, 8), 12);
        due("cell(8,0,2)", x.cell(8, 0, 2), 0);
    }

    @Says("Puts a new array into a slot: the elements of one array, followed by those of another one.")
    static void promise28JoinWithAnEmptyArrayIsStillANewOne() {
        WidenDesk x = desk("i1,2,3,4,5,6", "i");
        due("join(0,1,2)", x.join(0, 1, 2), 4);
        due("same(0,2)", x.same(0, 2), 0);
        due("join(1,0,3)", x.join(1, 0, 3), 4);
        due("same(0,3)", x.same(0, 3), 0);
        due("alike(2,3)", x.alike(2, 3), NONE);
        layValue(x, 2, 0, 4, 9);
        due("cell(0,0,1)", x.cell(0, 0, 1), 1);
        due("join(1,1,4)", x.join(1, 1, 4), 4);
        due("same(1,4)", x.same(1, 4), 0);
        due("thing(4,1)", x.thing(4, 1), 0);
    }

    @Says("Puts a new array into a slot")
    static void promise28JoinChangesNoOtherArray() {
        for (int slot = 0; slot < 10; slot++) {
            WidenDesk x = new WidenDesk();
            tellInAllSlots(x, "i", "7", 10);
            // each new array may be kept next to any of the others
            for (int i = 0; i < 8; i++) {
                x.cut(slot, slot, i % 2 == 0 ? 3 : 0);
                due("join(" + slot + "," + slot + "," + slot + ")", x.join(slot, slot, slot), 4);
                dueOthers(x, slot, 7);
            }
        }
    }

    // ---- 29 cut

    @Says({"`span`: 10 * (index of the first element) + (number of elements); all these elements have to exist "
        + "(for no elements the index may be the length)", "errors: UNKNOWN; LATE if slot from holds no array; BAD."})
    static void promise29CutTakesTheSpansWhoseElementsExist() {
        for (int length = 0; length <= 6; length++) {
            for (int span = -25; span <= 110; span++) {
                WidenDesk x = array(3, length);
                x.scatter(0, 8);
                boolean exist = span >= 0 && span / 10 + span % 10 <= length;
                due("cut(0,9," + span + ") of " + length, x.cut(0, 9, span), exist ? 3 : BAD);
                due("about(1)", x.about(1), exist ? 3 : 2);
                due("thing(9,1)", x.thing(9, 1), exist ? span % 10 : NONE);
                for (int place = 0; exist && place < span % 10; place++) {
                    due("cell(9," + place + ",1)", x.cell(9, place, 1), x.cell(0, span / 10 + place, 1));
                }
            }
        }
    }

    @Says("errors: UNKNOWN; LATE if slot from holds no array; BAD.")
    static void promise29CutRefusesOtherSpansAndChangesNothing() {
        int[] spans = {-1, -2, -10, -11, 3, 9, 12, 21, 30, 100, 1000, 10000, LEAST, LEAST + 1, GREATEST, GREATEST - 7, -2147483640,
            2147483640};
        for (int span : spans) {
            stays(Boundary::busy, "cut(1,9," + span + ")", x -> x.cut(1, 9, span), BAD);
            stays(Boundary::busy, "cut(1,1," + span + ")", x -> x.cut(1, 1, span), BAD);
        }
        for (int span : new int[] {7, 8, 9, 16, 61, 70, LEAST, GREATEST}) {
            stays(Boundary::full, "cut(0,9," + span + ")", x -> x.cut(0, 9, span), BAD);
        }
        for (int span : new int[] {1, 10, -1, -10}) {
            stays(Boundary::busy, "cut(6,9," + span + ") of no elements", x -> x.cut(6, 9, span), BAD);
        }
    }

    @Says({"`from`: the slot of the array, 0 to 9", "`to`: the slot for the new array, 0 to 9"})
    static void promise29CutSaysUnknownThenLateThenBad() {
        for (int slot : NO_SLOTS) {
            for (int span : new int[] {0, -1, LEAST, GREATEST}) {
                stays(Boundary::busy, "cut(" + slot + ",0," + span + ")", x -> x.cut(slot, 0, span), UNKNOWN);
                stays(Boundary::busy, "cut(1," + slot + "," + span + ")", x -> x.cut(1, slot, span), UNKNOWN);
                stays(Boundary::busy, "cut(9," + slot + "," + span + ")", x -> x.cut(9, slot, span), UNKNOWN);
            }
        }
        for (int slot : new int[] {2, 3, 7, 9}) {
            for (int span : new int[] {0, 1, -1, 100, LEAST, GREATEST}) {
                stays(Boundary::busy, "cut(" + slot + ",0," + span + ")", x -> x.cut(slot, 0, span), LATE);
            }
        }
        WidenDesk x = new WidenDesk();
        x.make(9, 4, 2);
        due("cut(9,0,11)", x.cut(9, 0, 11), 4);
        due("cut(0,9,1)", x.cut(0, 9, 1), 4);
        due("thing(9,1)", x.thing(9, 1), 1);
        due("cut(9,8,0)", x.cut(9, 8, 0), 4);
    }

    @Says({"Puts a new array of the same type into a slot, with successive elements of an array.", "Returns its type"})
    static void promise29CutKeepsTheTypeAndMakesANewArray() {
        for (int type = 0; type < 13; type++) {
            WidenDesk x = array(type, 6);
            x.scatter(0, 6);
            due("cut(0,1,6) of " + type, x.cut(0, 1, 6), type);
            due("thing(1,0)", x.thing(1, 0), type);
            due("same(0,1)", x.same(0, 1), 0);
            due("alike(0,1)", x.alike(0, 1), NONE);
            due("cut(0,2,60) of " + type, x.cut(0, 2, 60), type);
            due("thing(2,1)", x.thing(2, 1), 0);
            due("cut(0,0,51) of " + type, x.cut(0, 0, 51), type);
            due("thing(0,1)", x.thing(0, 1), 1);
            due("cell(0,0,1)", x.cell(0, 0, 1), x.cell(1, 5, 1));
        }
        WidenDesk x = busy();
        due("cut(4,4,11)", x.cut(4, 4, 11), 8);
        due("cell(4,0,2)", x.cell(4, 0, 2), 1);
        due("cut(0,8,12)", x.cut(0, 8, 12), 12);
        dueCells(x, 8, 10, 7, NONE, 0);
        dueHand(x, 3, 8, 31, 1);
    }

    @Says("Puts a new array of the same type into a slot")
    static void promise29CutChangesNoOtherArray() {
        for (int slot = 0; slot < 10; slot++) {
            WidenDesk x = new WidenDesk();
            tellInAllSlots(x, "i", "7", 10);
            layValue(x, slot, 0, 4, 8);
            layValue(x, slot, 5, 4, 9);
            for (int i = 0; i < 16; i++) {
                due("cut(" + slot + "," + slot + ",6)", x.cut(slot, slot, 6), 4);
            }
            dueOthers(x, slot, 7);
            dueCells(x, slot, 4, 8, 4, 7, 4, 7, 4, 7, 4, 7, 4, 9);
        }
    }

    // ---- 30 alike

    @Says("errors: UNKNOWN; LATE if one of the slots holds no array.")
    static void promise30AlikeSaysUnknownThenLate() {
        for (int slot : NO_SLOTS) {
            stays(Boundary::busy, "alike(" + slot + ",1)", x -> x.alike(slot, 1), UNKNOWN);
            stays(Boundary::busy, "alike(1," + slot + ")", x -> x.alike(1, slot), UNKNOWN);
            stays(Boundary::busy, "alike(2," + slot + ")", x -> x.alike(2, slot), UNKNOWN);
            stays(Boundary::busy, "alike(" + slot + ",9)", x -> x.alike(slot, 9), UNKNOWN);
        }
        for (int slot : new int[] {2, 3, 9}) {
            stays(Boundary::busy, "alike(" + slot + ",1)", x -> x.alike(slot, 1), LATE);
            stays(Boundary::busy, "alike(1," + slot + ")", x -> x.alike(1, slot), LATE);
            stays(Boundary::busy, "alike(" + slot + "," + slot + ")", x -> x.alike(slot, slot), LATE);
        }
        WidenDesk x = desk("i1");
        x.cut(0, 9, 1);
        due("alike(0,9)", x.alike(0, 9), NONE);
        due("alike(9,0)", x.alike(9, 0), NONE);
    }

    @Says({"Returns the first index at which the elements do not agree", "NONE if the arrays agree"})
    static void promise30AlikeTellsTheFirstIndexFrom0To5() {
        for (int first = 0; first < 6; first++) {
            for (int second = first; second < 6; second++) {
                WidenDesk x = array(4, 6);
                x.scatter(0, 2);
                x.cut(0, 1, 6);
                layValue(x, 1, second, 4, x.cell(1, second, 1) + 1);
                layValue(x, 1, first, 4, x.cell(1, first, 1) + 1);
                due("alike(0,1)", x.alike(0, 1), first);
                due("alike(0,0)", x.alike(0, 0), NONE);
            }
        }
        stays(Boundary::busy, "alike(1,5)", x -> x.alike(1, 5), NONE);
        stays(Boundary::busy, "alike(0,1)", x -> x.alike(0, 1), 1);
    }

    @Says("the length of the shorter array if there is none, but the lengths differ")
    static void promise30AlikeTellsTheShorterLength() {
        for (int one = 0; one <= 6; one++) {
            for (int other = 0; other <= 6; other++) {
                WidenDesk x = array(4, one);
                x.make(1, 7, other);
                due("alike(0,1)", x.alike(0, 1), one == other ? NONE : Math.min(one, other));
            }
        }
        dueAlike("i1,2,3", "i1,5", 1);
        dueAlike("i1,2,3", "i1,2", 2);
        dueAlike("i", "t5", 0);
        dueAlike("i", "t", NONE);
    }

    @Says("the length of the shorter array if there is none, but the lengths differ")
    static void promise30AlikeTellsTheShorterLengthAlsoAfterManyArrays() {
        String[] texts = {"i", "i7", "i7,7", "i7,7,7", "i7,7,7,7", "i7,7,7,7,7", "i7,7,7,7,7,7"};
        WidenDesk x = worn("i", "7");
        for (int slot = 0; slot <= 6; slot++) {
            spell(x, texts[slot]);
            x.tell(slot);
        }
        for (int one = 0; one <= 6; one++) {
            for (int other = 0; other <= 6; other++) {
                due("alike(" + one + "," + other + ")", x.alike(one, other), one == other ? NONE : Math.min(one, other));
            }
        }
    }

    @Says("if both are boxes whose types have a least common type (see least()) and both, widened to it, are the same value")
    static void promise30AlikeComparesAtTheLeastCommonType() {
        dueAlike("i16777217", "f16777216", NONE);
        dueAlike("i16777217", "d16777216", 0);
        dueAlike("i16777217", "d16777217", NONE);
        dueAlike("i16777219", "f16777218", 0);
        dueAlike("f16777217", "d16777216", NONE);
        dueAlike("f16777217", "d16777217", 0);
        dueAlike("c65535", "s-1", 0);
        dueAlike("b-1", "c65535", 0);
        dueAlike("b5", "oc5", NONE);
        dueAlike("w5", "oj5", NONE);
        dueAlike("z1", "z1", NONE);
        dueAlike("z1", "oz1", NONE);
        dueAlike("z1", "z0", 0);
        for (String letter : new String[] {"b", "c", "s", "i", "j", "f", "d"}) {
            dueAlike("z1", letter + "1", 0);
            dueAlike("z0", letter + "0", 0);
        }
        WidenDesk x = array(5, 2);
        x.make(1, 6, 2);
        x.make(2, 7, 2);
        layValue(x, 0, 0, 5, Long.MAX_VALUE);
        layValue(x, 0, 1, 5, Long.MIN_VALUE);
        x.convert(0, 1, 2);
        x.convert(0, 2, 2);
        due("alike(0,1)", x.alike(0, 1), NONE);
        due("alike(0,2)", x.alike(0, 2), NONE);
        due("alike(1,2)", x.alike(1, 2), NONE);
        layValue(x, 0, 0, 5, Long.MAX_VALUE - 512);
        due("alike(0,1)", x.alike(0, 1), NONE);
        due("alike(0,2)", x.alike(0, 2), 0);
    }

    @Says({"agree if both are empty", "or if both are texts with the same integer"})
    static void promise30AlikeOfEmptyElementsAndTexts() {
        dueAlike("t*", "w*", NONE);
        dueAlike("o*", "t*", NONE);
        dueAlike("t0", "o*", 0);
        dueAlike("w0", "w*", 0);
        dueAlike("i0", "o*", 0);
        dueAlike("t5", "ot5", NONE);
        dueAlike("t5", "t6", 0);
        dueAlike("t5", "oi5", 0);
        dueAlike("t1", "oz1", 0);
        dueAlike("t9999", "t9999", NONE);
        WidenDesk x = array(8, 2);
        x.make(1, 9, 2);
        due("alike(0,1)", x.alike(0, 1), NONE);
    }

    @Says("if both are the same mark")
    static void promise30AlikeOfTheSameMarkAlone() {
        WidenDesk x = array(8, 1);
        x.make(1, 9, 1);
        x.make(2, 12, 1);
        x.mark(1, 5);
        for (int slot = 0; slot < 3; slot++) {
            x.lay(slot, 0);
        }
        due("alike(0,1)", x.alike(0, 1), NONE);
        due("alike(1,2)", x.alike(1, 2), NONE);
        x.grow(6);
        due("alike(0,2)", x.alike(0, 2), NONE);
        x.mark(1, 6);
        x.lay(1, 0);
        due("alike(0,1)", x.alike(0, 1), 0);
        x.mark(0, 6);
        x.lay(2, 0);
        due("alike(0,2)", x.alike(0, 2), 0);
        // text 0 and mark 0, or the byte 6 and a mark with the number 6, are different things
        x.text(0);
        x.lay(2, 0);
        due("alike(0,2)", x.alike(0, 2), 0);
        x.give(1, 6);
        x.turn();
        x.lay(2, 0);
        due("alike(0,2)", x.alike(0, 2), 0);
        x.make(2, 12, 1);
        due("alike(0,2)", x.alike(0, 2), 0);
    }

    // ---- 31 unlike

    @Says("errors: UNKNOWN; LATE if the slot holds no array.")
    static void promise31UnlikeSaysUnknownThenLate() {
        for (int slot : NO_SLOTS) {
            stays(Boundary::busy, "unlike(" + slot + ")", x -> x.unlike(slot), UNKNOWN);
        }
        for (int slot : new int[] {2, 3, 7, 9}) {
            stays(Boundary::busy, "unlike(" + slot + ")", x -> x.unlike(slot), LATE);
        }
        stays(Boundary::busy, "unlike(0)", x -> x.unlike(0), 3);
        due("unlike(9)", full().unlike(9), 2);
    }

    @Says({"Counts the different elements of an array, as they are fetched.", "Returns how many different ones there are"})
    static void promise31UnlikeCounts0To6() {
        String[] texts = {"i", "i5", "i1,2", "i1,2,3", "i1,2,3,4", "i1,2,3,4,5", "i1,2,3,4,5,6"};
        for (int count = 0; count <= 6; count++) {
            due("unlike(0) of " + texts[count], desk(texts[count]).unlike(0), count);
        }
        due("unlike(0)", desk("i5,5,5,5,5,5").unlike(0), 1);
        due("unlike(0)", desk("i1,2,2,2,2,1").unlike(0), 2);
        due("unlike(0)", desk("i1,2,3,1,2,3").unlike(0), 3);
        for (int type = 0; type < 13; type++) {
            due("unlike(0) of " + type, array(type, 6).unlike(0), 1);
            due("unlike(0) of " + type, array(type, 0).unlike(0), 0);
        }
    }

    @Says("Two elements are not different if both are empty, boxes of the same type and value, the same mark, or texts with the same integer.")
    static void promise31UnlikeTellsTypesMarksAndTextsApart() {
        due("unlike(0)", desk("ob5,s5,i5,j5,f5,d5").unlike(0), 6);
        due("unlike(0)", desk("oz1,b1,c1,t1,z1,*").unlike(0), 5);
        due("unlike(0)", desk("oz0,t0,*,*,t0,i0").unlike(0), 4);
        due("unlike(0)", desk("w*,0,*,0").unlike(0), 2);
        due("unlike(0)", desk("f16777216,16777217").unlike(0), 1);
        due("unlike(0)", desk("d16777216,16777217").unlike(0), 2);
        WidenDesk x = array(12, 6);
        x.mark(0, 5);
        x.lay(0, 0);
        x.lay(0, 3);
        x.mark(0, 5);
        x.lay(0, 1);
        x.mark(1, 5);
        x.lay(0, 2);
        due("unlike(0)", x.unlike(0), 4);
        x.text(0);
        x.lay(0, 4);
        due("unlike(0)", x.unlike(0), 5);
    }

    @Says("Counts the different elements of an array")
    static void promise31UnlikeCountsNoElementOfOtherArrays() {
        for (int length = 0; length <= 6; length++) {
            WidenDesk x = worn("i", "7");
            for (int slot = 0; slot < 10; slot++) {
                x.make(slot, slot % 2 == 0 ? 4 : 12, length);
                due("unlike(" + slot + ") of " + length, x.unlike(slot), length == 0 ? 0 : 1);
            }
        }
    }

    // ---- 32 total

    @Says({"`kind`: 4 for int, 5 for long", "errors: UNKNOWN; BAD."})
    static void promise32TotalSaysUnknownThenBadThenTheReason() {
        for (int slot : NO_SLOTS) {
            stays(Boundary::busy, "total(" + slot + ",4)", x -> x.total(slot, 4), UNKNOWN);
            stays(Boundary::busy, "total(" + slot + ",3)", x -> x.total(slot, 3), UNKNOWN);
        }
        for (int kind : new int[] {3, 6, 0, 7, 8, -1, LEAST, GREATEST}) {
            for (int slot : new int[] {0, 1, 2, 6, 9}) {
                stays(Boundary::busy, "total(" + slot + "," + kind + ")", x -> x.total(slot, kind), BAD);
            }
        }
        WidenDesk x = desk("i7");
        x.share(0, 9);
        due("total(0,4)", x.total(0, 4), 0);
        dueHand(x, 1, 4, 7, NONE);
        due("total(9,5)", x.total(9, 5), 0);
        dueHand(x, 1, 5, 7, NONE);
    }

    @Says("Returns 0; else 5 or 3 if the slot holds no array, or the reason of the first element that is not 0 (the hand stays then)")
    static void promise32TotalAnswersTheReasonAndTheHandStays() {
        for (int kind = 4; kind < 6; kind++) {
            int sum = kind;
            stays(Boundary::busy, "total(9," + kind + ")", x -> x.total(9, sum), 5);
            stays(Boundary::busy, "total(2," + kind + ")", x -> x.total(2, sum), 3);
            stays(Boundary::busy, "total(3," + kind + ")", x -> x.total(3, sum), 3);
            stays(Boundary::busy, "total(0," + kind + ")", x -> x.total(0, sum), 4);
            stays(Boundary::busy, "total(4," + kind + ")", x -> x.total(4, sum), 4);
            for (int type = 0; type < 13; type++) {
                for (int length = 1; length <= 6; length++) {
                    WidenDesk x = array(type, length);
                    x.text(3);
                    int want = type > 7 ? 4 : widens(type, kind) ? 0 : 2;
                    due("total(0," + kind + ") of " + type, x.total(0, kind), want);
                    dueHand(x, want == 0 ? 1 : 4, want == 0 ? kind : 10, want == 0 ? 0 : 3, NONE);
                }
            }
        }
    }

    @Says("for an array without elements, of any type, the sum is 0")
    static void promise32TotalOfNoElementsIs0ForAnyType() {
        for (int type = 0; type < 13; type++) {
            for (int kind = 4; kind < 6; kind++) {
                WidenDesk x = array(type, 0);
                x.text(3);
                due("total(0," + kind + ") of " + type, x.total(0, kind), 0);
                dueHand(x, 1, kind, 0, NONE);
            }
        }
    }

    @Says("Adds all elements of an array, each got as a type, wrapping around. The hand holds the sum as a value of this type then.")
    static void promise32TotalWrapsAround() {
        WidenDesk x = array(4, 2);
        layValue(x, 0, 0, 4, GREATEST);
        due("total(0,4)", x.total(0, 4), 0);
        dueHand(x, 1, 4, GREATEST, NONE);
        layValue(x, 0, 1, 4, 1);
        due("total(0,4)", x.total(0, 4), 0);
        dueHand(x, 1, 4, LEAST, NONE);
        due("total(0,5)", x.total(0, 5), 0);
        dueHand(x, 1, 5, 2147483648L, NONE);
        layValue(x, 0, 0, 4, LEAST);
        layValue(x, 0, 1, 4, -1);
        due("total(0,4)", x.total(0, 4), 0);
        dueHand(x, 1, 4, GREATEST, NONE);
        due("total(0,5)", x.total(0, 5), 0);
        dueHand(x, 1, 5, -2147483649L, NONE);
        x = array(5, 2);
        layValue(x, 0, 0, 5, Long.MAX_VALUE);
        layValue(x, 0, 1, 5, 1);
        due("total(0,5)", x.total(0, 5), 0);
        dueHand(x, 1, 5, Long.MIN_VALUE, NONE);
        layValue(x, 0, 0, 5, Long.MIN_VALUE);
        layValue(x, 0, 1, 5, -1);
        due("total(0,5)", x.total(0, 5), 0);
        dueHand(x, 1, 5, Long.MAX_VALUE, NONE);
    }

    @Says("Adds all elements of an array")
    static void promise32TotalAddsUpTo6Elements() {
        String[] texts = {"b", "b-128", "b-128,127", "c65535,65535,65535", "s-32768,-32768,-32768,-32768", "i1,20,300,4000,50000",
            "i999999999,999999999,999999999,999999999,999999999,999999999"};
        long[] sums = {0, -128, -1, 196605, -131072, 54321, 5999999994L};
        for (int i = 0; i < texts.length; i++) {
            WidenDesk x = desk(texts[i]);
            due("total(0,4) of " + texts[i], x.total(0, 4), 0);
            dueHand(x, 1, 4, (int) sums[i], NONE);
            due("total(0,5) of " + texts[i], x.total(0, 5), 0);
            dueHand(x, 1, 5, sums[i], NONE);
        }
    }

    @Says("Adds all elements of an array")
    static void promise32TotalAddsNoElementOfOtherArrays() {
        for (int length = 0; length <= 6; length++) {
            WidenDesk x = worn("i", "7");
            for (int slot = 0; slot < 10; slot++) {
                x.make(slot, 4, length);
                x.scatter(slot, slot);
            }
            for (int slot = 0; slot < 10; slot++) {
                int sum = 0;
                for (int place = 0; place < length; place++) {
                    sum += (int) x.cell(slot, place, 1);
                }
                due("total(" + slot + ",4) of " + length, x.total(slot, 4), 0);
                dueHand(x, 1, 4, sum, NONE);
            }
        }
    }

    @Says("The hand holds the sum as a value of this type then.")
    static void promise32TotalChangesTheHandAlone() {
        staysButForTheHand(Boundary::busy, "total(1,4)", x -> x.total(1, 4), 0);
        staysButForTheHand(Boundary::busy, "total(6,5)", x -> x.total(6, 5), 0);
        staysButForTheHand(Boundary::full, "total(0,5)", x -> x.total(0, 5), 0);
    }

    public static void main(String[] args) throws IOException {
        run(BoundaryArrayTests.class, 28, 32);
    }
}
