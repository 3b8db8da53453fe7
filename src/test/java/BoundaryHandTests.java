import java.io.IOException;
import java.math.BigDecimal;

/** Boundary cases of promises 12 to 17: the hand. */
public final class BoundaryHandTests extends Boundary {
    private static WidenDesk holdingText() {
        WidenDesk x = busy();
        x.text(9999);
        return x;
    }

    private static WidenDesk holdingBox() {
        WidenDesk x = busyWithValue(5, -7);
        x.turn();
        return x;
    }

    private static WidenDesk holdingStar() {
        WidenDesk x = busy();
        x.fetch(4, 0);
        return x;
    }

    private static void dueMade(int kind, long v, long code) {
        WidenDesk x = new WidenDesk();
        due("give(" + kind + "," + v + ")", x.give(kind, v), 1);
        dueHand(x, 1, kind, code, NONE);
    }

    // ---- 12 give

    @Says({"`kind`: its type, 0 to 7", "Returns 1; errors: BAD."})
    static void promise12GiveKnowsTheTypes0To7() {
        for (int kind = 0; kind < 8; kind++) {
            dueMade(kind, 0, 0);
        }
        for (int kind : outside(0, 7)) {
            stays(WidenDesk::new, "give(" + kind + ",1)", x -> x.give(kind, 1), BAD);
            stays(Boundary::busy, "give(" + kind + ",1)", x -> x.give(kind, 1), BAD);
            stays(() -> busyWithValue(4, 9), "give(" + kind + ",1)", x -> x.give(kind, 1), BAD);
        }
    }

    @Says("Puts a value into the hand.")
    static void promise12GiveChangesTheHandAlone() {
        staysButForTheHand(Boundary::busy, "give(7,1)", x -> x.give(7, 1), 1);
        staysButForTheHand(Boundary::full, "give(5,1)", x -> x.give(5, Long.MIN_VALUE), 1);
    }

    @Says({"v narrowed by a Java cast for types 1 to 5", "a char is a number from 0 to 65535"})
    static void promise12GiveNarrowsWhereTheRangesWrapAround() {
        dueMade(1, 127, 127);
        dueMade(1, 128, -128);
        dueMade(1, -128, -128);
        dueMade(1, -129, 127);
        dueMade(1, 255, -1);
        dueMade(1, 256, 0);
        dueMade(2, 65535, 65535);
        dueMade(2, 65536, 0);
        dueMade(2, -1, 65535);
        dueMade(2, -65536, 0);
        dueMade(3, 32767, 32767);
        dueMade(3, 32768, -32768);
        dueMade(3, -32768, -32768);
        dueMade(3, -32769, 32767);
        dueMade(4, 2147483647L, 2147483647);
        dueMade(4, 2147483648L, -2147483648);
        dueMade(4, -2147483648L, -2147483648);
        dueMade(4, -2147483649L, 2147483647);
        dueMade(4, 4294967295L, -1);
        dueMade(4, 4294967296L, 0);
        dueMade(5, 4294967296L, 4294967296L);
    }

    @Says("v narrowed by a Java cast for types 1 to 5")
    static void promise12GiveTakesTheLeastAndGreatestLong() {
        long[] least = {0, 0, 0, 0, 0, Long.MIN_VALUE};
        long[] greatest = {1, -1, 65535, -1, -1, Long.MAX_VALUE};
        for (int kind = 0; kind < 6; kind++) {
            dueMade(kind, Long.MIN_VALUE, least[kind]);
            dueMade(kind, Long.MAX_VALUE, greatest[kind]);
        }
        dueMade(6, Long.MIN_VALUE, bits(-1152921504606846976f));
        dueMade(7, Long.MIN_VALUE, bits(-1152921504606846976d));
        dueMade(6, Long.MAX_VALUE, bits(1152921504606846976f));
        dueMade(7, Long.MAX_VALUE, bits(1152921504606846976d));
    }

    @Says({"the lowest bit of v for boolean", "here a boolean is the number 0 or 1"})
    static void promise12GiveTakesTheLowestBitForBoolean() {
        long[] odd = {1, -1, 3, -3, 255, Long.MAX_VALUE, Long.MIN_VALUE + 1};
        long[] even = {0, 2, -2, 256, Long.MIN_VALUE, Long.MAX_VALUE - 1};
        for (long v : odd) {
            dueMade(0, v, 1);
        }
        for (long v : even) {
            dueMade(0, v, 0);
        }
    }

    @Says("v / 8 as a float or double (exact division,")
    static void promise12GiveDividesExactlyBy8() {
        for (int v = -40; v <= 40; v++) {
            dueMade(6, v, bits(v / 8f));
            dueMade(7, v, bits(v / 8d));
        }
        dueMade(6, 1, 0x3e000000L);
        dueMade(6, -1, 0xffffffffbe000000L);
        dueMade(7, 1, 0x3fc0000000000000L);
        dueMade(7, -1, 0xbfc0000000000000L);
        dueMade(6, 0, 0);
        dueMade(7, 0, 0);
    }

    @Says("rounded to the nearest float or double, of two the one with an even last bit")
    static void promise12GiveRoundsToTheNearestOrTheEvenOne() {
        for (int kind = 6; kind < 8; kind++) {
            int digits = kind == 6 ? 24 : 53;
            for (int top = digits - 2; top < 63; top++) {
                checkAround(kind, top, digits);
            }
        }
    }

    /** Numbers with so many binary digits about the places where rounding turns. */
    private static void checkAround(int kind, int top, int digits) {
        long power = 1L << top;
        long step = top < digits ? 1 : 1L << top - digits + 1;
        long[] bases = {power, power + step, power + 2 * step, power + (power - step), power + (power - 2 * step)};
        for (long base : bases) {
            for (long more : new long[] {0, 1, step / 2 - 1, step / 2, step / 2 + 1, step - 1}) {
                long v = base + more;
                checkRounded(kind, v);
                checkRounded(kind, -v);
            }
        }
    }

    /** BigDecimal rounds by itself, from decimal digits. */
    private static void checkRounded(int kind, long v) {
        String eighth = new BigDecimal(v).divide(new BigDecimal(8)).toPlainString();
        dueMade(kind, v, kind == 6 ? bits(Float.parseFloat(eighth)) : bits(Double.parseDouble(eighth)));
    }

    // ---- 13 mark

    @Says({"`star`: 1 for a star, 0 for a mark that is no star", "8 for a mark that is no star, 9 for a star"})
    static void promise13MarkTakesStar0And1() {
        WidenDesk x = new WidenDesk();
        due("mark(0,5)", x.mark(0, 5), 0);
        dueHand(x, 3, 8, 5, 0);
        due("mark(1,6)", x.mark(1, 6), 1);
        dueHand(x, 3, 9, 6, 1);
        for (int star : outside(0, 1)) {
            stays(WidenDesk::new, "mark(" + star + ",5)", y -> y.mark(star, 5), BAD);
            stays(Boundary::busy, "mark(" + star + ",5)", y -> y.mark(star, 5), BAD);
        }
    }

    @Says({"`number`: its number, 0 to 999", "A mark has a number (0 to 999)"})
    static void promise13MarkTakesNumbers0To999() {
        WidenDesk x = new WidenDesk();
        due("mark(0,0)", x.mark(0, 0), 0);
        dueHand(x, 3, 8, 0, 0);
        due("mark(1,999)", x.mark(1, 999), 1);
        dueHand(x, 3, 9, 999, 1);
        for (int number : outside(0, 999)) {
            stays(WidenDesk::new, "mark(0," + number + ")", y -> y.mark(0, number), BAD);
            stays(Boundary::busy, "mark(1," + number + ")", y -> y.mark(1, number), BAD);
        }
    }

    @Says({"Returns which mark it is, from 0; errors: BAD; FULL if 20 were created.",
        "marks are numbered 0, 1, and so on as they are created, at most 20"})
    static void promise13MarkCreatesThe20thAndNoMore() {
        WidenDesk x = new WidenDesk();
        for (int i = 0; i < 20; i++) {
            due("mark(" + i % 2 + ",7)", x.mark(i % 2, 7), i);
            due("hand(3)", x.hand(3), i);
        }
        due("mark(0,7)", x.mark(0, 7), FULL);
        due("hand(3)", x.hand(3), 19);
        stays(Boundary::full, "mark(0,0)", y -> y.mark(0, 0), FULL);
        stays(Boundary::full, "mark(1,999)", y -> y.mark(1, 999), FULL);
    }

    @Says("errors: BAD; FULL if 20 were created")
    static void promise13MarkSaysBadBeforeFull() {
        for (int star : outside(0, 1)) {
            stays(Boundary::full, "mark(" + star + ",5)", x -> x.mark(star, 5), BAD);
        }
        for (int number : outside(0, 999)) {
            stays(Boundary::full, "mark(0," + number + ")", x -> x.mark(0, number), BAD);
        }
    }

    @Says("The hand, the report and the number of marks stay.")
    static void promise13MarkIsNoActAndIsNotUndone() {
        WidenDesk x = array(8, 1);
        x.mark(0, 5);
        due("about(1)", x.about(1), 1);
        x.lay(0, 0);
        x.undo();
        x.undo();
        due("mark(1,6)", x.mark(1, 6), 1);
        due("about(0)", x.about(0), 2);
        for (int i = 2; i < 20; i++) {
            x.mark(0, 1);
        }
        x.make(0, 8, 1);
        x.undo();
        due("mark(0,1)", x.mark(0, 1), FULL);
    }

    @Says("A mark has a number (0 to 999)")
    static void promise13MarkWithTheSameNumberIsAnotherMark() {
        WidenDesk x = array(8, 2);
        x.mark(0, 5);
        x.lay(0, 0);
        x.mark(0, 5);
        x.lay(0, 1);
        due("unlike(0)", x.unlike(0), 2);
        x.grow(6);
        dueCells(x, 0, 8, 5, 8, 6);
    }

    // ---- 14 text

    @Says({"`number`: its integer, 0 to 9999", "A text is an integer from 0 to 9999"})
    static void promise14TextTakes0To9999() {
        for (int number : new int[] {0, 1, 9998, 9999}) {
            WidenDesk x = new WidenDesk();
            due("text(" + number + ")", x.text(number), number < 10 ? 1 : 4);
            dueHand(x, 4, 10, number, NONE);
        }
        for (int number : outside(0, 9999)) {
            stays(WidenDesk::new, "text(" + number + ")", x -> x.text(number), BAD);
            stays(Boundary::busy, "text(" + number + ")", x -> x.text(number), BAD);
            stays(BoundaryHandTests::holdingBox, "text(" + number + ")", x -> x.text(number), BAD);
        }
    }

    @Says({"Returns how many digits it has", "written with decimal digits"})
    static void promise14TextHas1To4Digits() {
        int[] numbers = {0, 9, 10, 99, 100, 999, 1000, 9999};
        for (int i = 0; i < numbers.length; i++) {
            due("text(" + numbers[i] + ")", new WidenDesk().text(numbers[i]), 1 + i / 2);
        }
    }

    @Says("Puts a text into the hand.")
    static void promise14TextChangesTheHandAlone() {
        staysButForTheHand(Boundary::busy, "text(0)", x -> x.text(0), 1);
        staysButForTheHand(Boundary::full, "text(9999)", x -> x.text(9999), 4);
    }

    // ---- 15 turn

    @Says("errors: LATE if the hand holds neither")
    static void promise15TurnIsLateWithoutAValueOrBox() {
        stays(WidenDesk::new, "turn()", WidenDesk::turn, LATE);
        stays(Boundary::busy, "turn()", WidenDesk::turn, LATE);
        stays(Boundary::full, "turn()", WidenDesk::turn, LATE);
        stays(BoundaryHandTests::holdingStar, "turn()", WidenDesk::turn, LATE);
        stays(BoundaryHandTests::holdingText, "turn()", WidenDesk::turn, LATE);
        WidenDesk x = desk("w*");
        x.give(4, 1);
        x.fetch(0, 0);
        due("turn()", x.turn(), LATE);
        dueHand(x, 0, NONE, 0, NONE);
    }

    @Says({"Turns a value in the hand into a box, or a box into a value, of the same type.", "Returns the form then, 2 or 1"})
    static void promise15TurnTurnsValuesAndBoxesOfAllTypes() {
        for (int kind = 0; kind < 8; kind++) {
            for (long v : new long[] {0, -1, Long.MIN_VALUE, Long.MAX_VALUE}) {
                WidenDesk x = new WidenDesk();
                x.give(kind, v);
                due("turn()", x.turn(), 2);
                dueHand(x, 2, kind, made(kind, v), NONE);
                due("turn()", x.turn(), 1);
                dueHand(x, 1, kind, made(kind, v), NONE);
                due("turn()", x.turn(), 2);
                due("about(1)", x.about(1), 0);
            }
        }
        staysButForTheHand(() -> busyWithValue(3, 9), "turn()", WidenDesk::turn, 2);
        staysButForTheHand(BoundaryHandTests::holdingBox, "turn()", WidenDesk::turn, 1);
    }

    // ---- 16 hand

    @Says("Returns it; errors: BAD, as a long.")
    static void promise16HandTakes0To3() {
        long[] want = {3, 8, 31, 1};
        for (int what = 0; what < 4; what++) {
            int number = what;
            stays(Boundary::busy, "hand(" + what + ")", x -> x.hand(number), want[what]);
        }
        for (int what : outside(0, 3)) {
            stays(Boundary::busy, "hand(" + what + ")", x -> x.hand(what), BAD);
            stays(WidenDesk::new, "hand(" + what + ")", x -> x.hand(what), BAD);
        }
    }

    @Says({"1 the type, NONE if it holds nothing", "3 which mark it is, NONE if it holds no mark", "0 for nothing"})
    static void promise16HandTellsNothingAndWhatIsNoMark() {
        dueHand(new WidenDesk(), 0, NONE, 0, NONE);
        dueHand(busyWithValue(4, 31), 1, 4, 31, NONE);
        dueHand(holdingBox(), 2, 5, -7, NONE);
        dueHand(holdingText(), 4, 10, 9999, NONE);
        dueHand(holdingStar(), 3, 9, 17, 0);
        WidenDesk x = holdingText();
        due("fetch(0,2)", x.fetch(0, 2), 0);
        dueHand(x, 0, NONE, 0, NONE);
    }

    @Says("3 which mark it is")
    static void promise16HandTellsTheMarks0To19() {
        WidenDesk x = new WidenDesk();
        for (int i = 0; i < 20; i++) {
            x.mark(1 - i % 2, i * 50);
            dueHand(x, 3, 9 - i % 2, i * 50, i);
        }
        due("mark(0,0)", x.mark(0, 0), FULL);
        dueHand(x, 3, 8, 950, 19);
    }

    @Says("for a mark its number")
    static void promise16HandTellsTheNumberThatTheMarkHasNow() {
        WidenDesk x = array(8, 1);
        x.mark(0, 999);
        x.lay(0, 0);
        x.grow(0);
        dueHand(x, 3, 8, 0, 0);
        x.undo();
        dueHand(x, 3, 8, 999, 0);
    }

    // ---- 17 grow

    @Says("`number`: the new number, 0 to 999")
    static void promise17GrowTakesNumbers0To999() {
        WidenDesk x = new WidenDesk();
        x.mark(0, 500);
        due("grow(0)", x.grow(0), 500);
        due("hand(2)", x.hand(2), 0);
        due("grow(999)", x.grow(999), 0);
        due("hand(2)", x.hand(2), 999);
        for (int number : outside(0, 999)) {
            stays(Boundary::busy, "grow(" + number + ")", y -> y.grow(number), BAD);
            stays(Boundary::full, "grow(" + number + ")", y -> y.grow(number), BAD);
        }
    }

    @Says("errors: BAD; LATE if the hand holds no mark")
    static void promise17GrowIsLateWithoutAMark() {
        for (int number : new int[] {0, 17, 31, 999}) {
            stays(WidenDesk::new, "grow(" + number + ")", x -> x.grow(number), LATE);
            stays(() -> busyWithValue(4, 1), "grow(" + number + ")", x -> x.grow(number), LATE);
            stays(BoundaryHandTests::holdingBox, "grow(" + number + ")", x -> x.grow(number), LATE);
            stays(BoundaryHandTests::holdingText, "grow(" + number + ")", x -> x.grow(number), LATE);
        }
        WidenDesk x = busy();
        x.fetch(0, 2);
        due("grow(5)", x.grow(5), LATE);
        dueCells(x, 4, 9, 17, 8, 31);
    }

    @Says("errors: BAD; LATE if the hand holds no mark")
    static void promise17GrowSaysBadBeforeLate() {
        for (int number : outside(0, 999)) {
            stays(WidenDesk::new, "grow(" + number + ")", x -> x.grow(number), BAD);
            stays(() -> busyWithValue(4, 1), "grow(" + number + ")", x -> x.grow(number), BAD);
            stays(BoundaryHandTests::holdingText, "grow(" + number + ")", x -> x.grow(number), BAD);
        }
    }

    @Says({"Changes the number of the mark in the hand, which is this mark wherever else it is.", "Returns the number before"})
    static void promise17GrowIsSeenWhereverTheMarkIs() {
        WidenDesk x = array(12, 6);
        x.make(1, 9, 1);
        x.make(2, 8, 2);
        x.mark(1, 5);
        x.lay(0, 0);
        x.lay(0, 5);
        x.lay(1, 0);
        x.lay(2, 1);
        x.mark(0, 5);
        x.lay(2, 0);
        x.fetch(1, 0);
        due("grow(6)", x.grow(6), 5);
        due("grow(7)", x.grow(7), 6);
        dueHand(x, 3, 9, 7, 0);
        due("cell(0,0,1)", x.cell(0, 0, 1), 7);
        due("cell(0,5,1)", x.cell(0, 5, 1), 7);
        due("cell(1,0,1)", x.cell(1, 0, 1), 7);
        dueCells(x, 2, 8, 5, 9, 7);
    }

    @Says("ACTS are: tell(), make(), share(), join(), cut(), scatter() and grow(), if they return no error")
    static void promise17GrowToTheSameNumberIsAnAct() {
        WidenDesk x = new WidenDesk();
        x.mark(0, 5);
        due("grow(5)", x.grow(5), 5);
        due("about(1)", x.about(1), 1);
        due("undo()", x.undo(), 0);
        due("hand(2)", x.hand(2), 5);
    }

    @Says("wherever else it is")
    static void promise17GrowChangesTheFirstAndTheLastMark() {
        WidenDesk x = array(8, 2);
        for (int i = 0; i < 20; i++) {
            x.mark(0, i);
            if (i == 0) {
                x.lay(0, 0);
            }
        }
        x.lay(0, 1);
        due("grow(900)", x.grow(900), 19);
        dueCells(x, 0, 8, 0, 8, 900);
        x.fetch(0, 0);
        due("grow(901)", x.grow(901), 0);
        dueCells(x, 0, 8, 901, 8, 900);
        x.undo();
        x.undo();
        dueCells(x, 0, 8, 0, 8, 19);
    }

    public static void main(String[] args) throws IOException {
        run(BoundaryHandTests.class, 12, 17);
    }
}
