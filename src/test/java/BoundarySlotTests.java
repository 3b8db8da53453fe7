import java.io.IOException;

/** Boundary cases of promises 6 to 11: slots and the things that they hold. */
public final class BoundarySlotTests extends Boundary {
    private static WidenDesk things() {
        return desk("i1,2,3", "text", "mark", "o");
    }

    // ---- 6 about

    @Says("7 reasons 0 in the report Returns it; errors: BAD.")
    static void promise06AboutTakes0To7() {
        int[] want = {2, 12, 2, 8, 4, 7, 3, 1};
        for (int what = 0; what < 8; what++) {
            int number = what;
            stays(Boundary::busy, "about(" + what + ")", x -> x.about(number), want[what]);
        }
        for (int what : outside(0, 7)) {
            stays(Boundary::busy, "about(" + what + ")", x -> x.about(what), BAD);
            stays(WidenDesk::new, "about(" + what + ")", x -> x.about(what), BAD);
        }
    }

    @Says("0 marks that were created by mark()")
    static void promise06AboutCountsMarksFrom0To20() {
        WidenDesk x = new WidenDesk();
        for (int count = 0; count < 20; count++) {
            due("about(0)", x.about(0), count);
            x.mark(count % 2, 1);
        }
        due("about(0)", x.about(0), 20);
        due("mark(0,1)", x.mark(0, 1), FULL);
        due("mark(2,1)", x.mark(2, 1), BAD);
        due("about(0)", x.about(0), 20);
        // a thing 14 is a mark that was not created by mark()
        x.make(0, 14, 0);
        due("about(0)", x.about(0), 20);
    }

    @Says({"1 acts that can be undone", "The latest 14 acts are kept and can be undone."})
    static void promise06AboutCountsActsFrom0To14() {
        WidenDesk x = new WidenDesk();
        for (int count = 0; count < 14; count++) {
            due("about(1)", x.about(1), count);
            x.make(0, 4, 1);
        }
        due("about(1)", x.about(1), 14);
        x.make(0, 4, 1);
        due("about(1)", x.about(1), 14);
        due("make(0,4,7)", x.make(0, 4, 7), BAD);
        due("about(1)", x.about(1), 14);
        x.undo();
        due("about(1)", x.about(1), 13);
    }

    @Says("2 observations of see()")
    static void promise06AboutCountsObservationsFrom0To6() {
        WidenDesk x = new WidenDesk();
        for (int count = 0; count < 6; count++) {
            due("about(2)", x.about(2), count);
            x.see(0, 0, 0);
        }
        due("about(2)", x.about(2), 6);
        due("see(0,0,0)", x.see(0, 0, 0), FULL);
        due("about(2)", x.about(2), 6);
        x.unsee();
        due("about(2)", x.about(2), 0);
    }

    @Says("3 the length of the text")
    static void promise06AboutTellsTheLengthOfTheTextFrom0To60() {
        WidenDesk x = new WidenDesk();
        for (int length = 0; length < 60; length++) {
            due("about(3)", x.about(3), length);
            x.write(0);
        }
        due("about(3)", x.about(3), 60);
        due("write(0)", x.write(0), FULL);
        due("about(3)", x.about(3), 60);
        x.wipe();
        due("about(3)", x.about(3), 0);
    }

    @Says("4 different arrays that slots hold (an array in two slots counts once)")
    static void promise06AboutCountsArraysFrom0To10EachOnce() {
        WidenDesk x = new WidenDesk();
        for (int slot = 0; slot < 10; slot++) {
            due("about(4)", x.about(4), slot);
            x.make(slot, slot, slot % 2);
        }
        due("about(4)", x.about(4), 10);
        for (int slot = 0; slot < 9; slot++) {
            x.share(9, slot);
            due("about(4)", x.about(4), 9 - slot);
        }
        x.make(0, 13, 0);
        x.make(9, 14, 0);
        due("about(4)", x.about(4), 1);
        for (int slot = 0; slot < 10; slot++) {
            x.make(slot, 13 + slot % 3, 0);
        }
        due("about(4)", x.about(4), 0);
    }

    @Says("5 elements of these arrays altogether")
    static void promise06AboutCountsElementsFrom0To60EachOnce() {
        WidenDesk x = new WidenDesk();
        for (int slot = 0; slot < 10; slot++) {
            due("about(5)", x.about(5), 6 * slot);
            x.make(slot, 12 - slot, 6);
        }
        due("about(5)", x.about(5), 60);
        x.share(0, 9);
        due("about(5)", x.about(5), 54);
        x.make(1, 4, 0);
        due("about(5)", x.about(5), 48);
        x.make(2, 13, 0);
        x.make(3, 14, 0);
        x.make(4, 15, 0);
        due("about(5)", x.about(5), 30);
    }

    @Says("6 slots that hold nothing")
    static void promise06AboutCountsEmptySlotsFrom10To0() {
        WidenDesk x = new WidenDesk();
        for (int slot = 0; slot < 10; slot++) {
            due("about(6)", x.about(6), 10 - slot);
            x.make(slot, 12 + slot % 3, 0);
        }
        due("about(6)", x.about(6), 0);
        x.make(5, 15, 0);
        due("about(6)", x.about(6), 1);
        x.share(5, 6);
        due("about(6)", x.about(6), 2);
    }

    @Says("7 reasons 0 in the report")
    static void promise06AboutCountsTheReasons0From0To6() {
        for (int fine = 0; fine <= 6; fine++) {
            WidenDesk x = new WidenDesk();
            due("about(7)", x.about(7), 0);
            x.make(0, 12, 6);
            x.make(1, 4, 6);
            x.give(4, 8);
            x.turn();
            for (int place = 0; place < fine; place++) {
                x.lay(0, 5 - place);
            }
            due("convert(0,1,2)", x.convert(0, 1, 2), fine);
            due("about(7)", x.about(7), fine);
            x.undo();
            due("about(7)", x.about(7), fine);
            x.make(2, 4, 0);
            due("convert(0,2,2)", x.convert(0, 2, 2), 0);
            due("about(7)", x.about(7), 0);
        }
    }

    // ---- 7 make

    @Says({"`slot`: a slot, 0 to 9", "There are 10 slots, 0 to 9."})
    static void promise07MakeKnowsTheSlots0To9() {
        WidenDesk x = new WidenDesk();
        for (int slot = 0; slot < 10; slot++) {
            due("make(" + slot + ",4,1)", x.make(slot, 4, 1), 15);
            due("about(6)", x.about(6), 9 - slot);
        }
        for (int slot : NO_SLOTS) {
            stays(Boundary::busy, "make(" + slot + ",4,1)", y -> y.make(slot, 4, 1), UNKNOWN);
        }
    }

    @Says("`thing`: 0 to 15")
    static void promise07MakeKnowsTheThings0To15() {
        for (int thing = 0; thing < 16; thing++) {
            WidenDesk x = new WidenDesk();
            due("make(0," + thing + ",0)", x.make(0, thing, 0), 15);
            due("thing(0,0)", x.thing(0, 0), thing);
        }
        for (int thing : outside(0, 15)) {
            stays(Boundary::busy, "make(1," + thing + ",0)", x -> x.make(1, thing, 0), BAD);
        }
    }

    @Says("`length`: the number of elements, 0 to 6; 0 if thing is 13 to 15")
    static void promise07MakeTakesLengths0To6ForArraysAnd0ForOthers() {
        for (int thing = 0; thing < 16; thing++) {
            int kind = thing;
            int longest = thing < 13 ? 6 : 0;
            for (int length = 0; length <= longest; length++) {
                WidenDesk x = new WidenDesk();
                due("make(0," + thing + "," + length + ")", x.make(0, thing, length), 15);
                int want = thing < 13 ? length : thing == 15 ? NONE : LATE;
                due("thing(0,1)", x.thing(0, 1), want);
            }
            for (int length : outside(0, longest)) {
                stays(Boundary::busy, "make(1," + thing + "," + length + ")", x -> x.make(1, kind, length), BAD);
            }
        }
        stays(Boundary::busy, "make(1,13,6)", x -> x.make(1, 13, 6), BAD);
        stays(Boundary::busy, "make(1,15,6)", x -> x.make(1, 15, 6), BAD);
    }

    @Says("errors: UNKNOWN; BAD.")
    static void promise07MakeSaysUnknownBeforeBad() {
        for (int slot : NO_SLOTS) {
            stays(Boundary::busy, "make(" + slot + ",16,0)", x -> x.make(slot, 16, 0), UNKNOWN);
            stays(Boundary::busy, "make(" + slot + ",-1,0)", x -> x.make(slot, -1, 0), UNKNOWN);
            stays(Boundary::busy, "make(" + slot + ",4,7)", x -> x.make(slot, 4, 7), UNKNOWN);
            stays(Boundary::busy, "make(" + slot + ",13,1)", x -> x.make(slot, 13, 1), UNKNOWN);
        }
    }

    @Says("Returns which thing the slot held before")
    static void promise07MakeAnswersWhichThingWasThereBefore() {
        for (int before = 0; before < 16; before++) {
            for (int after = 0; after < 16; after++) {
                WidenDesk x = new WidenDesk();
                x.make(9, before, 0);
                due("make(9," + after + ",0)", x.make(9, after, 0), before);
                due("thing(9,0)", x.thing(9, 0), after);
            }
        }
    }

    @Says({"An element of a primitive type is 0 at first.", "it is empty at first"})
    static void promise07MakeBeginsWithZerosOrEmptyElements() {
        for (int type = 0; type < 13; type++) {
            WidenDesk x = array(type, 6);
            for (int place = 0; place < 6; place++) {
                due("cell(0," + place + ",0) of " + type, x.cell(0, place, 0), type < 8 ? type : NONE);
                due("cell(0," + place + ",1) of " + type, x.cell(0, place, 1), 0);
                due("cell(0," + place + ",2) of " + type, x.cell(0, place, 2), NONE);
            }
        }
    }

    @Says({"An element of a primitive type is 0 at first.", "it is empty at first"})
    static void promise07MakeBeginsSoAlsoAfterManyArraysWereFilled() {
        for (int type = 0; type < 13; type++) {
            WidenDesk x = new WidenDesk();
            for (int i = 0; i < 30; i++) {
                x.make(0, 12, 6);
                x.text(77);
                for (int place = 0; place < 6; place++) {
                    x.lay(0, place);
                }
            }
            for (int i = 0; i < 30; i++) {
                x.make(0, type, 6);
                due("cell(0,0,1) of " + type, x.cell(0, 0, 1), 0);
                due("cell(0,5,0) of " + type, x.cell(0, 5, 0), type < 8 ? type : NONE);
                due("cell(0,5,1) of " + type, x.cell(0, 5, 1), 0);
            }
        }
    }

    @Says({"Puts a new thing into a slot.", "Several slots can hold the same array."})
    static void promise07MakeMakesANewThingAndLeavesTheOldOneToOtherSlots() {
        WidenDesk x = things();
        x.share(0, 9);
        due("make(0,4,3)", x.make(0, 4, 3), 4);
        due("same(0,9)", x.same(0, 9), 0);
        dueCells(x, 9, 4, 1, 4, 2, 4, 3);
        dueCells(x, 0, 4, 0, 4, 0, 4, 0);
        due("make(9,15,0)", x.make(9, 15, 0), 4);
        due("thing(0,0)", x.thing(0, 0), 4);
    }

    @Says("Puts a new thing into a slot.")
    static void promise07MakeChangesNoOtherArray() {
        for (int slot = 0; slot < 10; slot++) {
            for (int length = 0; length <= 6; length += 3) {
                WidenDesk x = new WidenDesk();
                tellInAllSlots(x, "i", "7", 10);
                // each new array may be kept next to any of the others
                for (int i = 0; i < 16; i++) {
                    due("make(" + slot + ",4," + length + ")", x.make(slot, 4, length), 4);
                }
                dueOthers(x, slot, 7);
            }
        }
    }

    @Says("15 nothing, as at first")
    static void promise07MakeOfNothingIsNothingAlsoAfterAllSlotsWereFull() {
        WidenDesk x = new WidenDesk();
        tellInAllSlots(x, "i", "7", 40);
        due("make(0,15,0)", x.make(0, 15, 0), 4);
        due("thing(0,0)", x.thing(0, 0), 15);
        due("thing(0,1)", x.thing(0, 1), NONE);
        due("about(6)", x.about(6), 1);
        due("make(9,15,0)", x.make(9, 15, 0), 4);
        due("fetch(9,0)", x.fetch(9, 0), 5);
        due("about(6)", x.about(6), 2);
    }

    // ---- 8 share

    @Says({"`from`: a slot, 0 to 9", "`to`: a slot, 0 to 9"})
    static void promise08ShareKnowsTheSlots0To9() {
        for (int from = 0; from < 10; from++) {
            for (int to = 0; to < 10; to++) {
                WidenDesk x = new WidenDesk();
                x.make(from, 3, 2);
                due("share(" + from + "," + to + ")", x.share(from, to), 3);
                due("same(" + from + "," + to + ")", x.same(from, to), 1);
                due("about(6)", x.about(6), from == to ? 9 : 8);
            }
        }
        for (int slot : NO_SLOTS) {
            stays(Boundary::busy, "share(" + slot + ",0)", x -> x.share(slot, 0), UNKNOWN);
            stays(Boundary::busy, "share(0," + slot + ")", x -> x.share(0, slot), UNKNOWN);
            stays(Boundary::busy, "share(" + slot + "," + slot + ")", x -> x.share(slot, slot), UNKNOWN);
        }
    }

    @Says({"Puts the very thing that one slot holds into another one, also nothing.", "Returns which thing this is"})
    static void promise08ShareAnswersWhichThingItIsAlsoForNothing() {
        for (int thing = 0; thing < 16; thing++) {
            WidenDesk x = new WidenDesk();
            x.make(0, thing, 0);
            x.make(9, 4, 2);
            due("share(0,9) of " + thing, x.share(0, 9), thing);
            due("thing(9,0)", x.thing(9, 0), thing);
            due("thing(0,0)", x.thing(0, 0), thing);
            due("about(1)", x.about(1), 3);
        }
    }

    @Says({"Puts the very thing that one slot holds into another one", "Several slots can hold the same array."})
    static void promise08ShareLetsAllSlotsHoldOneArray() {
        WidenDesk x = desk("i1,2,3");
        for (int slot = 1; slot < 10; slot++) {
            due("share(" + (slot - 1) + "," + slot + ")", x.share(slot - 1, slot), 4);
        }
        layValue(x, 9, 2, 4, -5);
        for (int slot = 0; slot < 10; slot++) {
            due("cell(" + slot + ",2,1)", x.cell(slot, 2, 1), -5);
        }
        due("about(4)", x.about(4), 1);
        due("about(5)", x.about(5), 3);
    }

    @Says("ACTS are: tell(), make(), share(), join(), cut(), scatter() and grow(), if they return no error")
    static void promise08ShareWithItsOwnSlotChangesNothingButIsAnAct() {
        WidenDesk x = desk("i1,2,3");
        due("share(0,0)", x.share(0, 0), 4);
        dueCells(x, 0, 4, 1, 4, 2, 4, 3);
        due("about(1)", x.about(1), 2);
        due("undo()", x.undo(), 1);
        dueCells(x, 0, 4, 1, 4, 2, 4, 3);
    }

    // ---- 9 thing

    @Says("`slot`: a slot, 0 to 9")
    static void promise09ThingKnowsTheSlots0To9() {
        WidenDesk x = new WidenDesk();
        for (int slot = 0; slot < 10; slot++) {
            x.make(slot, slot, slot % 7);
            due("thing(" + slot + ",0)", x.thing(slot, 0), slot);
            due("thing(" + slot + ",1)", x.thing(slot, 1), slot % 7);
        }
        for (int slot : NO_SLOTS) {
            stays(Boundary::busy, "thing(" + slot + ",0)", y -> y.thing(slot, 0), UNKNOWN);
            stays(Boundary::busy, "thing(" + slot + ",1)", y -> y.thing(slot, 1), UNKNOWN);
        }
    }

    @Says("`what`: 0 which thing it is; 1 the number of its elements")
    static void promise09ThingTakes0And1() {
        stays(BoundarySlotTests::things, "thing(0,0)", x -> x.thing(0, 0), 4);
        stays(BoundarySlotTests::things, "thing(0,1)", x -> x.thing(0, 1), 3);
        for (int what : outside(0, 1)) {
            stays(BoundarySlotTests::things, "thing(0," + what + ")", x -> x.thing(0, what), BAD);
        }
    }

    @Says({"errors: UNKNOWN; BAD; for what = 1 LATE if it holds a single text or mark",
        "NONE is not an error; it means \"there is none\" and is returned only if no error applies."})
    static void promise09ThingSaysUnknownThenBadThenLate() {
        for (int slot : NO_SLOTS) {
            for (int what : outside(0, 1)) {
                stays(BoundarySlotTests::things, "thing(" + slot + "," + what + ")", x -> x.thing(slot, what), UNKNOWN);
            }
        }
        for (int what : outside(0, 1)) {
            stays(BoundarySlotTests::things, "thing(1," + what + ")", x -> x.thing(1, what), BAD);
            stays(BoundarySlotTests::things, "thing(2," + what + ")", x -> x.thing(2, what), BAD);
            stays(BoundarySlotTests::things, "thing(9," + what + ")", x -> x.thing(9, what), BAD);
        }
    }

    @Says({"for what = 1 LATE if it holds a single text or mark", "(13 and 14 are no arrays)"})
    static void promise09ThingIsLateForTheElementsOfSinglesAlone() {
        WidenDesk x = things();
        due("thing(1,0)", x.thing(1, 0), 13);
        due("thing(1,1)", x.thing(1, 1), LATE);
        due("thing(2,0)", x.thing(2, 0), 14);
        due("thing(2,1)", x.thing(2, 1), LATE);
        due("thing(3,1)", x.thing(3, 1), 0);
        x.make(1, 12, 0);
        due("thing(1,1)", x.thing(1, 1), 0);
    }

    @Says("for what = 1 NONE if the slot holds nothing")
    static void promise09ThingOfNothingHas15AndNoElements() {
        WidenDesk x = things();
        for (int slot = 4; slot < 10; slot++) {
            due("thing(" + slot + ",0)", x.thing(slot, 0), 15);
            due("thing(" + slot + ",1)", x.thing(slot, 1), NONE);
        }
        x.make(0, 15, 0);
        due("thing(0,0)", x.thing(0, 0), 15);
        due("thing(0,1)", x.thing(0, 1), NONE);
    }

    @Says("an array with elements of this type and 0 to 6 elements")
    static void promise09ThingHas0To6Elements() {
        for (int type = 0; type < 13; type++) {
            WidenDesk x = new WidenDesk();
            for (int length = 0; length <= 6; length++) {
                x.make(5, type, length);
                due("thing(5,1) of " + type, x.thing(5, 1), length);
            }
        }
    }

    // ---- 10 same

    @Says({"`one`: a slot, 0 to 9", "`other`: a slot, also the same"})
    static void promise10SameKnowsTheSlots0To9() {
        for (int slot : NO_SLOTS) {
            stays(Boundary::busy, "same(" + slot + ",0)", x -> x.same(slot, 0), UNKNOWN);
            stays(Boundary::busy, "same(0," + slot + ")", x -> x.same(0, slot), UNKNOWN);
            stays(Boundary::busy, "same(" + slot + "," + slot + ")", x -> x.same(slot, slot), UNKNOWN);
            stays(Boundary::busy, "same(9," + slot + ")", x -> x.same(9, slot), UNKNOWN);
        }
        WidenDesk x = array(1, 0);
        x.share(0, 9);
        due("same(0,9)", x.same(0, 9), 1);
        due("same(9,0)", x.same(9, 0), 1);
        due("same(9,9)", x.same(9, 9), 1);
        due("same(0,8)", x.same(0, 8), 0);
    }

    @Says("Checks whether two slots hold the same array (not only equal ones).")
    static void promise10SameIsNotEqual() {
        for (int type = 0; type < 13; type++) {
            WidenDesk x = array(type, 1);
            x.make(1, type, 1);
            due("alike(0,1)", x.alike(0, 1), NONE);
            due("same(0,1) of " + type, x.same(0, 1), 0);
            due("same(0,0) of " + type, x.same(0, 0), 1);
            x.cut(0, 2, 1);
            due("same(0,2) of " + type, x.same(0, 2), 0);
            x.share(0, 3);
            due("same(3,0) of " + type, x.same(3, 0), 1);
        }
    }

    @Says("Returns 1 if they hold one and the same array, else 0 (also if they hold no arrays)")
    static void promise10SameIs0ForSinglesAndNothing() {
        WidenDesk x = things();
        x.share(1, 5);
        x.share(2, 6);
        due("same(1,1)", x.same(1, 1), 0);
        due("same(1,5)", x.same(1, 5), 0);
        due("same(2,2)", x.same(2, 2), 0);
        due("same(2,6)", x.same(2, 6), 0);
        due("same(9,9)", x.same(9, 9), 0);
        due("same(8,9)", x.same(8, 9), 0);
        due("same(0,9)", x.same(0, 9), 0);
        due("same(0,1)", x.same(0, 1), 0);
        due("same(3,3)", x.same(3, 3), 1);
    }

    // ---- 11 cell

    @Says("errors, as a long: UNKNOWN; LATE if the slot holds no array; BAD if there is no such index or what is out of range.")
    static void promise11CellSaysUnknownThenLateThenBad() {
        for (int slot : NO_SLOTS) {
            stays(BoundarySlotTests::things, "cell(" + slot + ",0,0)", x -> x.cell(slot, 0, 0), UNKNOWN);
            stays(BoundarySlotTests::things, "cell(" + slot + ",9,3)", x -> x.cell(slot, 9, 3), UNKNOWN);
            stays(BoundarySlotTests::things, "cell(" + slot + ",-1,-1)", x -> x.cell(slot, -1, -1), UNKNOWN);
        }
        for (int slot : new int[] {1, 2, 4, 9}) {
            stays(BoundarySlotTests::things, "cell(" + slot + ",0,0)", x -> x.cell(slot, 0, 0), LATE);
            stays(BoundarySlotTests::things, "cell(" + slot + ",-1,0)", x -> x.cell(slot, -1, 0), LATE);
            stays(BoundarySlotTests::things, "cell(" + slot + ",0,3)", x -> x.cell(slot, 0, 3), LATE);
            stays(BoundarySlotTests::things, "cell(" + slot + ",9,-1)", x -> x.cell(slot, 9, -1), LATE);
        }
    }

    @Says("BAD if there is no such index")
    static void promise11CellHasTheIndicesBelowTheLength() {
        for (int length = 0; length <= 6; length++) {
            int size = length;
            for (int place = 0; place < length; place++) {
                due("cell(0," + place + ",0)", array(12, length).cell(0, place, 0), NONE);
                due("cell(0," + place + ",0)", array(7, length).cell(0, place, 0), 7);
            }
            for (int place : outside(0, length - 1)) {
                stays(() -> array(4, size), "cell(0," + place + ",1)", x -> x.cell(0, place, 1), BAD);
                stays(() -> array(12, size), "cell(0," + place + ",1)", x -> x.cell(0, place, 1), BAD);
            }
        }
    }

    @Says("or what is out of range")
    static void promise11CellTakes0To2() {
        long[] want = {9, 17, 0};
        for (int what = 0; what < 3; what++) {
            int number = what;
            stays(Boundary::busy, "cell(4,0," + what + ")", x -> x.cell(4, 0, number), want[what]);
        }
        for (int what : outside(0, 2)) {
            stays(Boundary::busy, "cell(4,0," + what + ")", x -> x.cell(4, 0, what), BAD);
            stays(Boundary::busy, "cell(4,2," + what + ")", x -> x.cell(4, 2, what), BAD);
        }
    }

    @Says({"0 for its type (as for the hand; the type of the array if this is 0 to 7), NONE if it is empty", "0 for nothing"})
    static void promise11CellOfAnEmptyElementHasNoType() {
        for (int type = 8; type < 13; type++) {
            WidenDesk x = array(type, 1);
            due("cell(0,0,0) of " + type, x.cell(0, 0, 0), NONE);
            due("cell(0,0,1) of " + type, x.cell(0, 0, 1), 0);
            due("cell(0,0,2) of " + type, x.cell(0, 0, 2), NONE);
        }
    }

    @Says({"0 for its type (as for the hand; the type of the array if this is 0 to 7)",
        "8 for a mark that is no star, 9 for a star, 10 for a text"})
    static void promise11CellTellsTheTypeOfWhatIsThere() {
        WidenDesk x = desk("w5", "t5", "oz1,b1,c1,s1,i1,j1", "of1,d1,t1");
        due("cell(0,0,0)", x.cell(0, 0, 0), 4);
        due("cell(1,0,0)", x.cell(1, 0, 0), 10);
        for (int place = 0; place < 6; place++) {
            due("cell(2," + place + ",0)", x.cell(2, place, 0), place);
        }
        due("cell(3,0,0)", x.cell(3, 0, 0), 6);
        due("cell(3,1,0)", x.cell(3, 1, 0), 7);
        due("cell(3,2,0)", x.cell(3, 2, 0), 10);
        x.make(4, 8, 2);
        x.make(5, 9, 1);
        x.mark(0, 5);
        x.lay(4, 0);
        x.mark(1, 5);
        x.lay(4, 1);
        x.lay(5, 0);
        due("cell(4,0,0)", x.cell(4, 0, 0), 8);
        due("cell(4,1,0)", x.cell(4, 1, 0), 9);
        due("cell(5,0,0)", x.cell(5, 0, 0), 9);
        for (int type = 0; type < 8; type++) {
            due("cell(0,5,0) of " + type, array(type, 6).cell(0, 5, 0), type);
        }
    }

    @Says({"1 for its code", "of float the result of Float.floatToIntBits; of double the result of Double.doubleToLongBits"})
    static void promise11CellTellsTheLeastAndGreatestCodes() {
        long[][] cases = {{1, -128}, {1, 127}, {2, 65535}, {2, 0}, {3, -32768}, {3, 32767}, {4, LEAST}, {4, GREATEST},
            {5, Long.MIN_VALUE}, {5, Long.MAX_VALUE}, {6, Long.MIN_VALUE}, {6, Long.MAX_VALUE}, {7, Long.MIN_VALUE}, {7, Long.MAX_VALUE},
            {6, 1}, {6, -1}, {7, 1}, {7, -1}, {0, 1}};
        for (long[] c : cases) {
            WidenDesk x = array((int) c[0], 6);
            layValue(x, 0, 5, (int) c[0], c[1]);
            due("cell(0,5,1) of " + c[1] + " as " + c[0], x.cell(0, 5, 1), made((int) c[0], c[1]));
            due("cell(0,4,1)", x.cell(0, 4, 1), 0);
        }
        due("the least long as a float", made(6, Long.MIN_VALUE), bits(-1152921504606846976f));
        due("-1/8 as a double", made(7, -1), bits(-0.125d));
    }

    @Says("2 for the number of the mark, as it was created, NONE if it is no mark")
    static void promise11CellTellsTheMarksFrom0To19() {
        WidenDesk x = array(8, 6);
        for (int i = 0; i < 20; i++) {
            x.mark(i % 2, 999 - i);
            x.lay(0, i % 6);
            due("cell(0," + i % 6 + ",2)", x.cell(0, i % 6, 2), i);
            due("cell(0," + i % 6 + ",1)", x.cell(0, i % 6, 1), 999 - i);
        }
        x.grow(0);
        due("cell(0,1,2)", x.cell(0, 1, 2), 19);
        due("cell(0,1,1)", x.cell(0, 1, 1), 0);
        x = desk("oi3,t3,*", "t3", "w3", "i3");
        for (int place = 0; place < 3; place++) {
            due("cell(0," + place + ",2)", x.cell(0, place, 2), NONE);
        }
        for (int slot = 1; slot < 4; slot++) {
            due("cell(" + slot + ",0,2)", x.cell(slot, 0, 2), NONE);
        }
    }

    public static void main(String[] args) throws IOException {
        run(BoundarySlotTests.class, 6, 11);
    }
}
