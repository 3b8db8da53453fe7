import java.io.IOException;

/** Boundary cases of promises 33 to 36: observations and undo. */
public final class BoundaryUndoTests extends Boundary {
    /** What happens with element 0 of a thing that has one element if it is an array. */
    private static int outcome(int thing, int how, int kind) {
        if (thing == 15) {
            return 5;
        }
        if (thing > 12) {
            return 3;
        }
        if (thing < 8) {
            return (how == 0 ? widens(thing, kind) : widens(kind, thing)) ? 0 : 2;
        }
        if (how < 2) {
            return 4;
        }
        return thing == 12 || thing == 11 && kind == 4 ? 0 : 2;
    }

    // ---- 33 see

    @Says({"`how`: 0: the element was got as a type; 1: a value 0 of a type was put there; 2: a box with the value 0 of a type was put there",
        "`kind`: this type, 0 to 7", "`reason`: the reason, 0 to 5", "errors: BAD"})
    static void promise33SeeTakesItsRanges() {
        for (int how = 0; how < 3; how++) {
            for (int kind = 0; kind < 8; kind++) {
                for (int reason = 0; reason < 6; reason++) {
                    WidenDesk x = new WidenDesk();
                    due("see(" + how + "," + kind + "," + reason + ")", x.see(how, kind, reason), 1);
                    due("about(2)", x.about(2), 1);
                }
            }
        }
        for (int how : outside(0, 2)) {
            stays(Boundary::busy, "see(" + how + ",0,0)", x -> x.see(how, 0, 0), BAD);
            stays(Boundary::busy, "see(" + how + ",8,6)", x -> x.see(how, 8, 6), BAD);
        }
        for (int kind : outside(0, 7)) {
            stays(Boundary::busy, "see(0," + kind + ",0)", x -> x.see(0, kind, 0), BAD);
        }
        for (int reason : new int[] {-1, 6, 7, 8, LEAST, GREATEST}) {
            stays(Boundary::busy, "see(2,7," + reason + ")", x -> x.see(2, 7, reason), BAD);
        }
    }

    @Says({"Returns how many observations there are then; errors: BAD; FULL if there are 6.", "FULL: there is no room for more."})
    static void promise33SeeAddsThe6thAndNoMore() {
        WidenDesk x = new WidenDesk();
        for (int count = 1; count <= 6; count++) {
            due("see(0,0,0)", x.see(0, 0, 0), count);
        }
        due("see(0,0,0)", x.see(0, 0, 0), FULL);
        due("which()", x.which(), 1);
        stays(Boundary::full, "see(0,0,0)", y -> y.see(0, 0, 0), FULL);
        stays(Boundary::full, "see(2,7,5)", y -> y.see(2, 7, 5), FULL);
    }

    @Says("errors: BAD; FULL if there are 6")
    static void promise33SeeSaysBadBeforeFull() {
        for (int wrong : new int[] {-1, 8, LEAST, GREATEST}) {
            stays(Boundary::full, "see(" + wrong + ",0,0)", x -> x.see(wrong, 0, 0), BAD);
            stays(Boundary::full, "see(0," + wrong + ",0)", x -> x.see(0, wrong, 0), BAD);
            stays(Boundary::full, "see(0,0," + wrong + ")", x -> x.see(0, 0, wrong), BAD);
        }
        stays(Boundary::full, "see(3,0,0)", x -> x.see(3, 0, 0), BAD);
        stays(Boundary::full, "see(0,0,6)", x -> x.see(0, 0, 6), BAD);
    }

    @Says("Adds an observation of an unknown thing")
    static void promise33SeeChangesNothingElse() {
        stays(WidenDesk::new, "see(0,4,0) and unsee()", x -> x.see(0, 4, 0) + 10 * x.unsee(), 11);
        WidenDesk x = busy();
        x.see(2, 3, 0);
        due("about(1)", x.about(1), 12);
        dueHand(x, 3, 8, 31, 1);
        due("cell(1,0,1)", x.cell(1, 0, 1), 5);
    }

    // ---- 34 unsee

    @Says({"Removes all observations.", "Returns how many there were."})
    static void promise34UnseeRemoves0To6() {
        for (int count = 0; count <= 6; count++) {
            WidenDesk x = new WidenDesk();
            for (int i = 0; i < count; i++) {
                x.see(1, 4, 3);
            }
            due("unsee()", x.unsee(), count);
            due("unsee()", x.unsee(), 0);
            due("about(2)", x.about(2), 0);
            due("which()", x.which(), 65535);
        }
        stays(WidenDesk::new, "unsee()", WidenDesk::unsee, 0);
    }

    @Says("Removes all observations.")
    static void promise34UnseeGivesRoomFor6Again() {
        WidenDesk x = full();
        due("unsee()", x.unsee(), 6);
        for (int count = 1; count <= 6; count++) {
            due("see(0,7,5)", x.see(0, 7, 5), count);
        }
        due("see(0,7,5)", x.see(0, 7, 5), FULL);
        due("which()", x.which(), 1 << 15);
        due("unsee()", x.unsee(), 6);
        due("about(1)", x.about(1), 14);
        dueHand(x, 3, 9, 19, 19);
    }

    // ---- 35 which

    @Says({"Finds the things, 0 to 15, with which all observations would be so.", "Returns the set of these things."})
    static void promise35WhichHasAllThingsWithoutObservations() {
        stays(WidenDesk::new, "which()", WidenDesk::which, 65535);
        stays(Boundary::busy, "which()", WidenDesk::which, 0b11010);
    }

    @Says({"what happened with its element 0. If the thing is an array, it has one element.",
        "Finds the things, 0 to 15, with which all observations would be so."})
    static void promise35WhichOfEveryObservation() {
        for (int how = 0; how < 3; how++) {
            for (int kind = 0; kind < 8; kind++) {
                int all = 0;
                for (int reason = 0; reason < 6; reason++) {
                    int want = 0;
                    for (int thing = 0; thing < 16; thing++) {
                        want |= outcome(thing, how, kind) == reason ? 1 << thing : 0;
                    }
                    WidenDesk x = new WidenDesk();
                    x.see(how, kind, reason);
                    due("which() of " + how + "," + kind + "," + reason, x.which(), want);
                    all += want;
                }
                due("all sets of " + how + "," + kind, all, 65535);
            }
        }
    }

    @Says("If the thing is an array, it has one element.")
    static void promise35WhichIsEmptyIfTheIndexWasOut() {
        for (int how = 0; how < 3; how++) {
            for (int kind = 0; kind < 8; kind++) {
                WidenDesk x = new WidenDesk();
                x.see(how, kind, 1);
                due("which()", x.which(), 0);
            }
        }
    }

    @Says("with which all observations would be so")
    static void promise35WhichHoldsToAllSixObservations() {
        int[][] other = {{0, 4, 0}, {0, 5, 0}, {0, 6, 0}, {0, 7, 0}, {0, 3, 0}};
        for (int at = 0; at < 6; at++) {
            WidenDesk x = new WidenDesk();
            for (int i = 0; i < 6; i++) {
                int[] o = i == at ? new int[] {1, 3, 2} : other[i < at ? i : i - 1];
                x.see(o[0], o[1], o[2]);
            }
            // those that are got as a short are bytes and shorts, and a short can be put into no byte
            due("which() with the last word at " + at, x.which(), 1 << 1);
        }
    }

    @Says("with which all observations would be so")
    static void promise35WhichIsEmptyForObservationsThatContradict() {
        WidenDesk x = new WidenDesk();
        x.see(0, 3, 2);
        x.see(1, 0, 4);
        due("which()", x.which(), 0);
        x = new WidenDesk();
        x.see(0, 0, 5);
        x.see(0, 0, 3);
        due("which()", x.which(), 0);
        x = new WidenDesk();
        x.see(1, 4, 0);
        x.see(1, 4, 2);
        due("which()", x.which(), 0);
    }

    @Says("Finds the things, 0 to 15")
    static void promise35WhichTellsEachThingThatCanBeTold() {
        for (int thing = 0; thing < 16; thing++) {
            int want = 0;
            for (int other = 0; other < 16; other++) {
                want |= outcomesAreEqual(thing, other) ? 1 << other : 0;
            }
            due("things that are as " + thing, narrowed(thing), want);
        }
        due("things that are as any", narrowed(12), 1 << 12);
        due("things that are as whole", narrowed(11), 1 << 11);
        due("things that are as mark", narrowed(8), 0b111 << 8);
        due("things that are as a single text", narrowed(13), 0b11 << 13);
    }

    private static boolean outcomesAreEqual(int one, int other) {
        for (int i = 0; i < 24; i++) {
            if (outcome(one, i / 8, i % 8) != outcome(other, i / 8, i % 8)) {
                return false;
            }
        }
        return true;
    }

    /** What is left of all things after every observation of one, by six at a time. */
    private static int narrowed(int thing) {
        int left = 65535;
        for (int first = 0; first < 24; first += 6) {
            WidenDesk x = new WidenDesk();
            for (int i = first; i < first + 6; i++) {
                x.see(i / 8, i % 8, outcome(thing, i / 8, i % 8));
            }
            left &= x.which();
        }
        return left;
    }

    @Says("elements, slots and numbers of marks become as they were before it")
    static void promise35WhichIsNotChangedByUndo() {
        WidenDesk x = busy();
        for (int left = 11; left >= 0; left--) {
            due("undo()", x.undo(), left);
            due("about(2)", x.about(2), 2);
        }
        due("which()", x.which(), 0b11010);
    }

    // ---- 36 undo

    @Says("Returns how many acts can still be undone; errors: LATE if there is none.")
    static void promise36UndoIsLateWithoutActs() {
        stays(WidenDesk::new, "undo()", WidenDesk::undo, LATE);
        Setup setup = () -> {
            WidenDesk x = busy();
            for (int i = 0; i < 12; i++) {
                x.undo();
            }
            return x;
        };
        stays(setup, "undo()", WidenDesk::undo, LATE);
        WidenDesk x = array(4, 1);
        due("undo()", x.undo(), 0);
        due("undo()", x.undo(), LATE);
        due("undo()", x.undo(), LATE);
        x.make(0, 4, 1);
        due("undo()", x.undo(), 0);
    }

    @Says({"The latest 14 acts are kept and can be undone.", "Returns how many acts can still be undone"})
    static void promise36UndoKeepsTheLatest14Acts() {
        for (int acts = 12; acts <= 44; acts++) {
            WidenDesk x = array(4, 1);
            for (int i = 1; i < acts; i++) {
                layValue(x, 0, 0, 4, i);
            }
            int kept = Math.min(acts, 14);
            due("about(1) of " + acts, x.about(1), kept);
            for (int left = kept - 1; left >= 0; left--) {
                due("undo() of " + acts, x.undo(), left);
                boolean made = acts - kept + left > 0;
                due("cell(0,0,1)", x.cell(0, 0, 1), made ? acts - kept + left - 1 : LATE);
            }
            due("undo() of " + acts, x.undo(), LATE);
            due("thing(0,0)", x.thing(0, 0), acts > 14 ? 4 : 15);
        }
    }

    @Says("Undoes the latest act that is kept: elements, slots and numbers of marks become as they were before it.")
    static void promise36UndoOfEveryActBringsBackWhatWas() {
        Call[] acts = {x -> x.tell(0), x -> x.tell(9), x -> x.make(1, 7, 6), x -> x.make(2, 15, 0), x -> x.make(9, 13, 0),
            x -> x.share(0, 1), x -> x.share(9, 0), x -> x.share(4, 4), x -> x.join(0, 1, 0), x -> x.join(1, 5, 9),
            x -> x.cut(0, 0, 12), x -> x.cut(6, 1, 0), x -> x.scatter(1, 77), x -> x.scatter(6, 77), x -> x.grow(999), x -> x.grow(31),
            x -> x.lay(4, 0), x -> x.lay(0, 2), x -> x.lay(4, 1)};
        for (int i = 0; i < acts.length; i++) {
            Call act = acts[i];
            int number = i;
            stays(Boundary::busy, "undo() of act " + i, x -> {
                due("error of act " + number + ", 1 if so", act.on(x) < 0 ? 1 : 0, 0);
                due("about(1)", x.about(1), 13);
                return x.undo();
            }, 12);
        }
    }

    @Says({"elements, slots and numbers of marks become as they were before it", "The hand, the report and the number of marks stay."})
    static void promise36UndoOfConvertBringsBackAllElementsAndTheReportStays() {
        for (int how = 0; how < 4; how++) {
            WidenDesk x = array(4, 6);
            x.make(1, 5, 6);
            x.scatter(0, 1);
            x.scatter(1, 2);
            x.cut(1, 2, 6);
            due("convert(0,1," + how + ")", x.convert(0, 1, how), 6);
            due("alike(0,1)", x.alike(0, 1), NONE);
            due("undo()", x.undo(), 5);
            due("alike(1,2)", x.alike(1, 2), NONE);
            due("about(7)", x.about(7), 6);
            due("report(5)", x.report(5), 0);
            due("undo()", x.undo(), 4);
            due("thing(2,0)", x.thing(2, 0), 15);
        }
    }

    @Says("The hand, the report and the number of marks stay.")
    static void promise36UndoLeavesTheHandAndTheMarks() {
        WidenDesk x = busy();
        x.give(7, -9);
        for (int i = 11; i >= 0; i--) {
            due("undo()", x.undo(), i);
            dueHand(x, 1, 7, bits(-9 / 8d), NONE);
            due("about(0)", x.about(0), 2);
        }
        due("mark(0,1)", x.mark(0, 1), 2);
        x = array(8, 1);
        x.mark(1, 5);
        x.lay(0, 0);
        x.undo();
        x.undo();
        dueHand(x, 3, 9, 5, 0);
        due("undo()", x.undo(), LATE);
        x.make(0, 9, 1);
        due("lay(0,0)", x.lay(0, 0), 0);
        due("cell(0,0,2)", x.cell(0, 0, 2), 0);
    }

    @Says("numbers of marks become as they were before it")
    static void promise36UndoBringsBackTheNumbersOfMarksWhereverTheyAre() {
        WidenDesk x = array(8, 2);
        x.mark(0, 1);
        x.lay(0, 0);
        x.grow(2);
        x.grow(3);
        x.mark(1, 1);
        x.lay(0, 1);
        x.grow(999);
        dueCells(x, 0, 8, 3, 9, 999);
        x.undo();
        dueCells(x, 0, 8, 3, 9, 1);
        dueHand(x, 3, 9, 1, 1);
        x.undo();
        x.undo();
        dueCells(x, 0, 8, 2, NONE, 0);
        x.undo();
        dueCells(x, 0, 8, 1, NONE, 0);
        due("undo()", x.undo(), 1);
        dueCells(x, 0, NONE, 0, NONE, 0);
    }

    @Says("The hand, the report and the number of marks stay.")
    static void promise36UndoLeavesTheTextAndTheObservations() {
        WidenDesk x = busy();
        spell(x, "i7");
        x.see(0, 4, 0);
        for (int left = 11; left >= 0; left--) {
            due("undo()", x.undo(), left);
            due("about(3)", x.about(3), 2);
            due("about(2)", x.about(2), 3);
        }
        due("tell(0)", x.tell(0), 4);
        dueCells(x, 0, 4, 7);
    }

    @Says("elements, slots and numbers of marks become as they were before it")
    static void promise36UndoBringsBackTheVeryArray() {
        WidenDesk x = desk("i1,2");
        x.share(0, 9);
        x.make(0, 4, 2);
        due("same(0,9)", x.same(0, 9), 0);
        x.undo();
        due("same(0,9)", x.same(0, 9), 1);
        layValue(x, 0, 0, 4, 8);
        dueCells(x, 9, 4, 8, 4, 2);
        x.make(0, 15, 0);
        x.make(9, 15, 0);
        due("about(4)", x.about(4), 0);
        x.undo();
        x.undo();
        due("same(0,9)", x.same(0, 9), 1);
        x.undo();
        dueCells(x, 9, 4, 1, 4, 2);
        x.undo();
        due("thing(9,0)", x.thing(9, 0), 15);
        dueCells(x, 0, 4, 1, 4, 2);
    }

    @Says("The latest 14 acts are kept and can be undone.")
    static void promise36UndoKeepsArraysThatNoSlotHoldsAnyMore() {
        WidenDesk x = new WidenDesk();
        for (int slot = 0; slot < 10; slot++) {
            x.make(slot, 4, 1);
            layValue(x, slot, 0, 4, slot);
        }
        for (int i = 0; i < 14; i++) {
            spell(x, "i" + (100 + i));
            x.tell(i % 10);
        }
        for (int i = 13; i >= 0; i--) {
            due("cell(" + i % 10 + ",0,1)", x.cell(i % 10, 0, 1), 100 + i);
            due("undo()", x.undo(), i);
        }
        for (int slot = 0; slot < 10; slot++) {
            dueCells(x, slot, 4, slot);
        }
        due("about(4)", x.about(4), 10);
    }

    @Says("The latest 14 acts are kept and can be undone.")
    static void promise36UndoKeepsOneArrayPerSlotAndOnePerAct() {
        for (int acts = 20; acts <= 40; acts++) {
            WidenDesk x = new WidenDesk();
            for (int i = 0; i < acts; i++) {
                spell(x, "i" + i);
                x.tell(i % 10);
            }
            for (int slot = 0; slot < 10; slot++) {
                due("cell(" + slot + ",0,1) of " + acts, x.cell(slot, 0, 1), latest(acts, slot));
            }
            for (int left = 13; left >= 0; left--) {
                due("undo() of " + acts, x.undo(), left);
                int before = acts - 14 + left;
                due("cell(" + before % 10 + ",0,1) of " + acts, x.cell(before % 10, 0, 1), before < 10 ? LATE : before - 10);
            }
            for (int slot = 0; slot < 10; slot++) {
                due("cell(" + slot + ",0,1) of " + acts, x.cell(slot, 0, 1), latest(acts - 14, slot));
            }
        }
    }

    /** The last of so many acts, from 0 on, that was done with a slot; LATE, as the slot holds no array, if there is none. */
    private static int latest(int acts, int slot) {
        int latest = LATE;
        for (int i = slot; i < acts; i += 10) {
            latest = i;
        }
        return latest;
    }

    @Says("The latest 14 acts are kept and can be undone.")
    static void promise36UndoKeepsTheArrayOfTheOldestActToTheLast() {
        for (int undone = 0; undone <= 13; undone++) {
            WidenDesk x = new WidenDesk();
            for (int i = 0; i < 16; i++) {
                spell(x, "i" + i);
                x.tell(0);
            }
            for (int i = 0; i < undone; i++) {
                x.undo();
            }
            for (int i = 0; i < undone; i++) {
                x.make(1 + i % 9, 7, 6);
            }
            for (int left = 13; left >= 0; left--) {
                due("undo()", x.undo(), left);
            }
            dueCells(x, 0, 4, 1);
        }
    }

    @Says("Undoes the latest act that is kept")
    static void promise36UndoGoesOnBehindActsThatCameAfterAnUndo() {
        WidenDesk x = array(4, 1);
        for (int i = 1; i <= 20; i++) {
            layValue(x, 0, 0, 4, i);
        }
        for (int i = 0; i < 5; i++) {
            x.undo();
        }
        due("cell(0,0,1)", x.cell(0, 0, 1), 15);
        for (int i = 21; i <= 23; i++) {
            layValue(x, 0, 0, 4, i);
        }
        due("about(1)", x.about(1), 12);
        int[] want = {22, 21, 15, 14, 13, 12, 11, 10, 9, 8, 7, 6};
        for (int i = 0; i < 12; i++) {
            due("undo()", x.undo(), 11 - i);
            due("cell(0,0,1)", x.cell(0, 0, 1), want[i]);
        }
        due("undo()", x.undo(), LATE);
    }

    @Says("ACTS are: tell(), make(), share(), join(), cut(), scatter() and grow(), if they return no error, lay() with the "
        + "reason 0, and convert() if at least one element has the reason 0.")
    static void promise36UndoKnowsWhichCallsAreNoActs() {
        Call[] calls = {x -> x.write(44), WidenDesk::wipe, WidenDesk::fault, x -> x.about(1), x -> x.thing(0, 0), x -> x.same(1, 5),
            x -> x.cell(0, 0, 1), x -> x.give(4, 5), x -> x.mark(1, 5), x -> x.text(5), WidenDesk::turn, x -> x.hand(0),
            x -> x.take(1, 0, 5), x -> x.fetch(1, 0), x -> x.lay(1, 9), x -> x.lay(2, 0), x -> x.lay(9, 0), x -> x.convert(6, 6, 0),
            x -> x.convert(4, 1, 2), x -> x.report(0), x -> x.chains(1, 7), x -> x.carry(1, 0, 5), x -> x.ends(1, 0, 7), x -> x.least(2),
            x -> x.alike(0, 1), x -> x.unlike(0), x -> x.total(1, 4), x -> x.see(0, 0, 0), WidenDesk::unsee, WidenDesk::which,
            x -> x.tell(10), x -> x.make(0, 16, 0), x -> x.share(0, 10), x -> x.join(0, 9, 0), x -> x.cut(0, 0, 99),
            x -> x.scatter(0, 1), x -> x.grow(1000)};
        for (int i = 0; i < calls.length; i++) {
            WidenDesk x = busy();
            calls[i].on(x);
            due("about(1) after call " + i, x.about(1), 12);
            due("undo() after call " + i, x.undo(), 11);
            due("cell(1,0,1) after call " + i, x.cell(1, 0, 1), scattered());
        }
    }

    /** The first int of busy()'s slot 1 before its conversion. */
    private static long scattered() {
        return (int) (5L * 6364136223846793005L + 1442695040888963407L >> 20);
    }

    @Says("Undoes the latest act that is kept")
    static void promise36UndoIsNoActItself() {
        WidenDesk x = array(4, 1);
        layValue(x, 0, 0, 4, 5);
        due("undo()", x.undo(), 1);
        due("about(1)", x.about(1), 1);
        due("undo()", x.undo(), 0);
        due("thing(0,0)", x.thing(0, 0), 15);
    }

    public static void main(String[] args) throws IOException {
        run(BoundaryUndoTests.class, 33, 36);
    }
}
