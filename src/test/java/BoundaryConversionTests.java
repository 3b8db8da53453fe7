import java.io.IOException;
import java.math.BigDecimal;

/** Boundary cases of promises 22 to 27: conversions, chains and least types. */
public final class BoundaryConversionTests extends Boundary {
    /** Longs from which values are made whose number other types have or just do not have. */
    private static final long[] EDGES = {0, 1, -1, 2, 4, 7, 8, -8, 9, 127, 128, -128, -129, 255, 256, 32767, 32768, -32768, -32769,
        65535, 65536, 8 * 127, 8 * 128, -8 * 128, -8 * 129, 8 * 32767, 8 * 32768, -8 * 32768, -8 * 32769, 8 * 65535, 8 * 65536,
        (1L << 24) - 1, 1L << 24, (1L << 24) + 1, (1L << 24) + 2, -(1L << 24) - 1, (1L << 27) + 8, (1L << 27) + 16, (1L << 31) - 1,
        1L << 31, -(1L << 31), -(1L << 31) - 1, (8L << 31) - 8, 8L << 31, -8L << 31, -(8L << 31) - 8, (8L << 31) - 1,
        (1L << 53) - 1, 1L << 53, (1L << 53) + 1, (1L << 53) + 2, -(1L << 53) - 1, (1L << 56) + 8, (1L << 56) + 16, 1L << 62,
        (1L << 62) + (1L << 39), (1L << 62) + (1L << 38), (1L << 62) + (1L << 10), (1L << 62) + (1L << 9), Long.MAX_VALUE,
        Long.MAX_VALUE - 1023, Long.MIN_VALUE, Long.MIN_VALUE + 1, Long.MIN_VALUE + 1024, Long.MIN_VALUE + 2048};

    private static BigDecimal number(int type, long code) {
        if (type == 6) {
            return new BigDecimal(Float.intBitsToFloat((int) code));
        }
        return type == 7 ? new BigDecimal(Double.longBitsToDouble(code)) : new BigDecimal(code);
    }

    /** Whether a type, 1 to 7, has a number; its code is then that of the nearest value. */
    private static boolean has(int type, BigDecimal number) {
        if (type >= 6) {
            return number(type, nearest(type, number)).compareTo(number) == 0;
        }
        long[] lowest = {0, -128, 0, -32768, LEAST, Long.MIN_VALUE};
        long[] highest = {1, 127, 65535, 32767, GREATEST, Long.MAX_VALUE};
        return number.stripTrailingZeros().scale() <= 0 && number.compareTo(new BigDecimal(lowest[type])) >= 0
            && number.compareTo(new BigDecimal(highest[type])) <= 0;
    }

    private static long nearest(int type, BigDecimal number) {
        return type == 6 ? bits(number.floatValue()) : type == 7 ? bits(number.doubleValue()) : number.longValue();
    }

    private static void dueReport(WidenDesk x, int... reasons) {
        int fine = 0;
        for (int place = 0; place < reasons.length; place++) {
            due("report(" + place + ")", x.report(place), reasons[place]);
            fine += reasons[place] == 0 ? 1 : 0;
        }
        due("report(" + reasons.length + ")", x.report(reasons.length), NONE);
        due("about(7)", x.about(7), fine);
    }

    // ---- 22 convert

    @Says({"`from`: the slot of the first array, 0 to 9", "`to`: the slot of the other array, 0 to 9",
        "errors: UNKNOWN; LATE if one of the slots holds no array; BAD if how is not 0 to 3"})
    static void promise22ConvertSaysUnknownThenLateThenBad() {
        for (int slot : NO_SLOTS) {
            for (int how : new int[] {0, 3, 4, -1}) {
                stays(Boundary::busy, "convert(" + slot + ",1," + how + ")", x -> x.convert(slot, 1, how), UNKNOWN);
                stays(Boundary::busy, "convert(1," + slot + "," + how + ")", x -> x.convert(1, slot, how), UNKNOWN);
                stays(Boundary::busy, "convert(2," + slot + "," + how + ")", x -> x.convert(2, slot, how), UNKNOWN);
                stays(Boundary::busy, "convert(" + slot + ",9," + how + ")", x -> x.convert(slot, 9, how), UNKNOWN);
            }
        }
        for (int slot : new int[] {2, 3, 7, 9}) {
            for (int how : new int[] {0, 3, 4, -1, LEAST, GREATEST}) {
                stays(Boundary::busy, "convert(" + slot + ",1," + how + ")", x -> x.convert(slot, 1, how), LATE);
                stays(Boundary::busy, "convert(1," + slot + "," + how + ")", x -> x.convert(1, slot, how), LATE);
                stays(Boundary::busy, "convert(" + slot + "," + slot + "," + how + ")", x -> x.convert(slot, slot, how), LATE);
            }
        }
        for (int how : outside(0, 3)) {
            stays(Boundary::busy, "convert(0,1," + how + ")", x -> x.convert(0, 1, how), BAD);
            stays(Boundary::busy, "convert(1,1," + how + ")", x -> x.convert(1, 1, how), BAD);
            stays(Boundary::busy, "convert(6,6," + how + ")", x -> x.convert(6, 6, how), BAD);
        }
    }

    @Says("`from`: the slot of the first array, 0 to 9")
    static void promise22ConvertKnowsTheSlots0And9() {
        WidenDesk x = desk("i5");
        x.make(9, 4, 1);
        due("convert(0,9,0)", x.convert(0, 9, 0), 1);
        dueCells(x, 9, 4, 5);
        layValue(x, 9, 0, 4, 6);
        due("convert(9,0,3)", x.convert(9, 0, 3), 1);
        dueCells(x, 0, 4, 6);
    }

    @Says({"with the same indices, one after another from index 0 on, as far as both arrays have them",
        "The report tells the reason for each of them; it replaces the report before."})
    static void promise22ConvertGoesAsFarAsBothArraysHaveElements() {
        for (int from = 0; from <= 6; from++) {
            for (int to = 0; to <= 6; to++) {
                WidenDesk x = array(4, from);
                x.make(1, 5, to);
                x.scatter(0, 3);
                x.make(2, 4, 6);
                x.convert(2, 2, 0);
                int common = Math.min(from, to);
                due("convert(0,1,0)", x.convert(0, 1, 0), common);
                dueReport(x, new int[common]);
                for (int place = 0; place < to; place++) {
                    due("cell(1," + place + ",1)", x.cell(1, place, 1), place < common ? x.cell(0, place, 1) : 0);
                }
            }
        }
    }

    @Says({"0: the element is got as the type of its own array, or as int if that is 8 to 12, and put",
        "1: it is got as the type of the other array, or as int if that is 8 to 12, and put", "2: it is fetched and put",
        "The reason of an element is the first one that is not 0, of getting or fetching and then of putting."})
    static void promise22ConvertHasItsReasonForAllTypesAndWays() {
        for (int from = 0; from < 13; from++) {
            for (int to = 0; to < 13; to++) {
                for (int how = 0; how < 4; how++) {
                    WidenDesk x = array(from, 1);
                    x.make(1, to, 1);
                    int reason = reasonOfFirst(from, to, how);
                    due("convert(0,1," + how + ") of " + from + " to " + to, x.convert(0, 1, how), reason == 0 ? 1 : 0);
                    dueReport(x, reason);
                    due("about(1)", x.about(1), reason == 0 ? 3 : 2);
                }
            }
        }
    }

    /** For elements as they are at first. */
    private static int reasonOfFirst(int from, int to, int how) {
        if (how == 0) {
            return from > 7 || to > 7 ? 4 : widens(from, to) ? 0 : 2;
        }
        if (how == 1) {
            return from > 7 ? 4 : !widens(from, to > 7 ? 4 : to) ? 2 : to > 7 ? 4 : 0;
        }
        if (from > 7) {
            return to > 7 ? 0 : 7;
        }
        if (how == 3 && from > 0 && to > 0 && to < 8) {
            return 0;
        }
        boolean fits = to < 8 ? widens(from, to) : to == 12 || to == 11 && from == 4;
        return fits ? 0 : 2;
    }

    @Says({"2: it is fetched and put", "7 empty nothing is written to an array of type 0 to 7 (with any index)"})
    static void promise22ConvertPutsWhatIsFetched() {
        WidenDesk x = desk("ob-5,t9,*,z1,i70000,j5", "i1,1,1,1,1,1", "t1,1,1,1,1,1", "w1,1,1,1,1,1", "o*,*,t1,t1,*,*", "z0,0,0,0,0,0");
        due("convert(0,1,2)", x.convert(0, 1, 2), 2);
        dueReport(x, 0, 2, 7, 2, 0, 2);
        dueCells(x, 1, 4, -5, 4, 1, 4, 1, 4, 1, 4, 70000, 4, 1);
        due("convert(0,2,2)", x.convert(0, 2, 2), 2);
        dueReport(x, 2, 0, 0, 2, 2, 2);
        dueCells(x, 2, 10, 1, 10, 9, NONE, 0, 10, 1, 10, 1, 10, 1);
        due("convert(0,3,2)", x.convert(0, 3, 2), 2);
        dueReport(x, 2, 2, 0, 2, 0, 2);
        dueCells(x, 3, 4, 1, 4, 1, NONE, 0, 4, 1, 4, 70000, 4, 1);
        due("convert(0,4,2)", x.convert(0, 4, 2), 6);
        due("alike(0,4)", x.alike(0, 4), NONE);
        dueCells(x, 4, 1, -5, 10, 9, NONE, 0, 0, 1, 4, 70000, 5, 5);
        due("convert(0,5,2)", x.convert(0, 5, 2), 1);
        dueReport(x, 2, 2, 7, 0, 2, 2);
        due("convert(0,5,3)", x.convert(0, 5, 3), 1);
        dueReport(x, 2, 2, 7, 0, 2, 2);
    }

    @Says("a mark into one of type mark or any, a star also into one of type star")
    static void promise22ConvertPutsMarksAndStars() {
        WidenDesk x = busy();
        x.make(7, 9, 2);
        due("convert(4,7,2)", x.convert(4, 7, 2), 1);
        dueReport(x, 0, 2);
        due("cell(7,0,2)", x.cell(7, 0, 2), 0);
        due("cell(7,1,0)", x.cell(7, 1, 0), NONE);
        due("convert(4,0,3)", x.convert(4, 0, 3), 2);
        due("cell(0,1,2)", x.cell(0, 1, 2), 1);
        due("convert(4,1,3)", x.convert(4, 1, 3), 0);
        dueReport(x, 2, 2);
        due("convert(4,7,0)", x.convert(4, 7, 0), 0);
        dueReport(x, 4, 4);
    }

    @Says({"3: as 2, but if it is a box of type 1 to 7 and the other array has a type 1 to 7, the element becomes the same "
        + "number of that type, whether the types widen or not, and the reason is 8 if that type has no such number",
        "8 lost the number would not stay the same (only in convert())"})
    static void promise22ConvertKeepsTheSameNumberOrSaysLost() {
        for (int from = 1; from < 8; from++) {
            for (int to = 1; to < 8; to++) {
                for (long v : EDGES) {
                    checkSameNumber(from, to, v);
                }
            }
        }
    }

    private static void checkSameNumber(int from, int to, long v) {
        WidenDesk x = array(from, 1);
        x.make(1, to, 1);
        layValue(x, 0, 0, from, v);
        layValue(x, 1, 0, to, 72);
        BigDecimal number = number(from, made(from, v));
        boolean has = has(to, number);
        String call = "convert(0,1,3) of " + number + " from " + from + " to " + to;
        due(call, x.convert(0, 1, 3), has ? 1 : 0);
        due(call + ", report(0)", x.report(0), has ? 0 : 8);
        due(call + ", cell(1,0,0)", x.cell(1, 0, 0), to);
        due(call + ", cell(1,0,1)", x.cell(1, 0, 1), has ? nearest(to, number) : made(to, 72));
        due(call + ", about(1)", x.about(1), has ? 5 : 4);
    }

    @Says("the reason is 8 if that type has no such number")
    static void promise22ConvertLosesWhatAFloatOrDoubleRoundedAway() {
        for (int kind = 6; kind < 8; kind++) {
            WidenDesk x = array(5, 2);
            x.make(1, kind, 2);
            layValue(x, 0, 0, 5, Long.MAX_VALUE);
            layValue(x, 0, 1, 5, Long.MIN_VALUE);
            due("convert(0,1,2)", x.convert(0, 1, 2), 2);
            due("convert(1,0,3)", x.convert(1, 0, 3), 1);
            // 2^63, to which the greatest long was rounded, is no long
            dueReport(x, 8, 0);
            dueCells(x, 0, 5, Long.MAX_VALUE, 5, Long.MIN_VALUE);
            due("convert(0,1,3)", x.convert(0, 1, 3), 1);
            dueReport(x, 8, 0);
        }
        WidenDesk x = array(6, 1);
        x.make(1, 7, 1);
        x.make(2, 5, 1);
        layValue(x, 2, 0, 5, Long.MAX_VALUE);
        x.convert(2, 0, 2);
        due("convert(0,1,3)", x.convert(0, 1, 3), 1);
        dueCells(x, 1, 7, bits(9223372036854775808d));
        due("convert(1,0,3)", x.convert(1, 0, 3), 1);
        dueCells(x, 0, 6, bits(9223372036854775808f));
    }

    @Says("if it is a box of type 1 to 7 and the other array has a type 1 to 7")
    static void promise22ConvertAsksForTheSameNumberOfBoxesInAnyAndWholeToo() {
        WidenDesk x = desk("oi127,i128,j-129,f300,d-128,c65", "b1,1,1,1,1,1", "w16777217,*,5", "f1,1,1", "w*,*,*");
        due("convert(0,1,3)", x.convert(0, 1, 3), 3);
        dueReport(x, 0, 8, 8, 8, 0, 0);
        dueCells(x, 1, 1, 127, 1, 1, 1, 1, 1, 1, 1, -128, 1, 65);
        due("convert(2,3,3)", x.convert(2, 3, 3), 1);
        dueReport(x, 8, 7, 0);
        due("convert(2,3,2)", x.convert(2, 3, 2), 2);
        dueReport(x, 0, 7, 0);
        due("convert(0,4,3)", x.convert(0, 4, 3), 2);
        dueReport(x, 0, 0, 2);
    }

    @Says("and the other array has a type 1 to 7")
    static void promise22ConvertPutsBoxesAsTheyAreIntoArraysOfObjects() {
        for (int type = 0; type < 8; type++) {
            for (int how = 2; how < 4; how++) {
                WidenDesk x = array(type, 6);
                x.make(1, 12, 6);
                x.scatter(0, 3);
                due("convert(0,1," + how + ") of " + type, x.convert(0, 1, how), 6);
                for (int place = 0; place < 6; place++) {
                    due("cell(1," + place + ",0) of " + type, x.cell(1, place, 0), type);
                    due("cell(1," + place + ",1) of " + type, x.cell(1, place, 1), x.cell(0, place, 1));
                }
            }
        }
        WidenDesk x = desk("i-5", "w*", "oi7");
        due("convert(0,1,3)", x.convert(0, 1, 3), 1);
        dueCells(x, 1, 4, -5);
        due("convert(2,1,3)", x.convert(2, 1, 3), 1);
        dueCells(x, 1, 4, 7);
        due("convert(1,2,3)", x.convert(1, 2, 3), 1);
        dueCells(x, 2, 4, 7);
    }

    @Says({"Returns how many elements have the reason 0 (an element with another reason stays as it is)",
        "convert() if at least one element has the reason 0"})
    static void promise22ConvertIsAnActIfOneElementIsFine() {
        for (int fine = 0; fine <= 6; fine++) {
            WidenDesk x = array(4, 6);
            x.make(1, 1, 6);
            for (int place = 0; place < 6; place++) {
                layValue(x, 0, place, 4, place < 6 - fine ? 128 : 5);
            }
            x.scatter(1, 9);
            int acts = x.about(1);
            long last = x.cell(1, 5, 1);
            due("convert(0,1,3)", x.convert(0, 1, 3), fine);
            due("about(1)", x.about(1), fine > 0 ? acts + 1 : acts);
            due("about(7)", x.about(7), fine);
            due("cell(1,5,1)", x.cell(1, 5, 1), fine > 0 ? 5 : last);
            x.undo();
            due("cell(1,5,1)", x.cell(1, 5, 1), fine > 0 ? last : 0);
        }
    }

    @Says({"it replaces the report before", "A call that returns an error, or a reason other than 0, changes nothing, except as convert() says."})
    static void promise22ConvertWithoutAReason0ReplacesTheReportAlone() {
        WidenDesk x = busy();
        dueReport(x, 0, 2);
        due("convert(1,6,0)", x.convert(1, 6, 0), 0);
        dueReport(x);
        due("convert(4,1,2)", x.convert(4, 1, 2), 0);
        dueReport(x, 2, 2);
        due("about(1)", x.about(1), 12);
        dueCells(x, 4, 9, 17, 8, 31);
        due("cell(1,0,1)", x.cell(1, 0, 1), 5);
        dueHand(x, 3, 8, 31, 1);
        due("convert(4,9,2)", x.convert(4, 9, 2), LATE);
        due("convert(4,10,2)", x.convert(4, 10, 2), UNKNOWN);
        due("convert(4,1,4)", x.convert(4, 1, 4), BAD);
        dueReport(x, 2, 2);
    }

    @Says("Converts the elements of an array into elements of another one")
    static void promise22ConvertOfAnArrayIntoItself() {
        for (int type = 0; type < 13; type++) {
            for (int how = 0; how < 4; how++) {
                WidenDesk x = array(type, 6);
                x.scatter(0, 4);
                x.share(0, 9);
                int want = how > 1 || type < 8 ? 6 : 0;
                // an empty element is put back into an array of objects, a number into its own
                due("convert(0,9," + how + ") of " + type, x.convert(0, 9, how), want);
                due("convert(0,0," + how + ") of " + type, x.convert(0, 0, how), want);
                due("alike(0,9)", x.alike(0, 9), NONE);
            }
        }
    }

    @Says("Converts the elements of an array into elements of another one")
    static void promise22ConvertChangesNoOtherArray() {
        for (int slot = 1; slot < 9; slot++) {
            for (int how = 0; how < 4; how++) {
                WidenDesk x = new WidenDesk();
                tellInAllSlots(x, "i", "7", 10);
                x.scatter(slot, 5);
                due("convert(0," + slot + "," + how + ")", x.convert(0, slot, how), 6);
                dueOthers(x, -1, 7);
                due("undo()", x.undo(), 11);
                dueOthers(x, slot, 7);
            }
        }
    }

    @Says("rounded as by a Java cast where it becomes a float or double")
    static void promise22ConvertRoundsWhereItWidens() {
        for (int how = 0; how < 3; how++) {
            for (long v : EDGES) {
                for (int to = 6; to < 8; to++) {
                    WidenDesk x = array(5, 1);
                    x.make(1, to, 1);
                    layValue(x, 0, 0, 5, v);
                    due("convert(0,1," + how + ")", x.convert(0, 1, how), 1);
                    dueCells(x, 1, to, cast(v, to));
                }
            }
        }
    }

    // ---- 23 report

    @Says("Returns the reason; NONE if the report has none there.")
    static void promise23ReportHasTheIndicesOfTheLastConversion() {
        for (int length = 0; length <= 6; length++) {
            int size = length;
            Setup setup = () -> {
                WidenDesk x = array(4, size);
                x.make(1, 2, 6);
                x.convert(0, 1, 0);
                return x;
            };
            for (int place = 0; place < length; place++) {
                int index = place;
                stays(setup, "report(" + place + ")", x -> x.report(index), 2);
            }
            for (int place : outside(0, length - 1)) {
                stays(setup, "report(" + place + ")", x -> x.report(place), NONE);
            }
        }
        for (int place : new int[] {0, 1, 5, 6, -1, LEAST, GREATEST}) {
            stays(WidenDesk::new, "report(" + place + ")", x -> x.report(place), NONE);
        }
    }

    @Says({"The hand, the report and the number of marks stay.", "it replaces the report before"})
    static void promise23ReportStaysUntilTheNextConversion() {
        WidenDesk x = busy();
        for (int i = 0; i < 12; i++) {
            x.undo();
            dueReport(x, 0, 2);
        }
        due("about(6)", x.about(6), 10);
        x.make(0, 12, 6);
        x.make(1, 12, 6);
        due("convert(0,1,2)", x.convert(0, 1, 2), 6);
        dueReport(x, 0, 0, 0, 0, 0, 0);
        x.make(1, 0, 1);
        due("convert(0,1,2)", x.convert(0, 1, 2), 0);
        dueReport(x, 7);
    }

    @Says("Returns a reason of the report.")
    static void promise23ReportTellsEachReason() {
        WidenDesk x = desk("ob1,*,t5,i300", "b0,0,0,0", "o*");
        x.convert(0, 1, 3);
        dueReport(x, 0, 7, 2, 8);
        x.convert(2, 1, 0);
        dueReport(x, 4);
    }

    // ---- 24 chains

    @Says({"`from`: 0 to 7", "`to`: 0 to 7", "errors: BAD"})
    static void promise24ChainsTakesTypes0To7() {
        for (int type : outside(0, 7)) {
            for (int other : new int[] {0, 7, 8, -1}) {
                stays(Boundary::busy, "chains(" + type + "," + other + ")", x -> x.chains(type, other), BAD);
                stays(Boundary::busy, "chains(" + other + "," + type + ")", x -> x.chains(other, type), BAD);
            }
            stays(Boundary::busy, "chains(" + type + "," + type + ")", x -> x.chains(type, type), BAD);
        }
    }

    @Says({"Returns the number of chains; 1 if both types are equal; 0 if the first one does not widen to the second one",
        "sequences of types that begin with the first and end with the second type, and in which each type widens to the "
        + "next one, which is a different type"})
    static void promise24ChainsCountsThemForAllPairs() {
        for (int from = 0; from < 8; from++) {
            for (int to = 0; to < 8; to++) {
                int one = from;
                int other = to;
                stays(Boundary::busy, "chains(" + from + "," + to + ")", x -> x.chains(one, other), count(from, to));
            }
        }
        WidenDesk x = new WidenDesk();
        due("chains(1,7)", x.chains(1, 7), 16);
        due("chains(2,7)", x.chains(2, 7), 8);
        due("chains(0,0)", x.chains(0, 0), 1);
        due("chains(7,7)", x.chains(7, 7), 1);
        due("chains(7,6)", x.chains(7, 6), 0);
        due("chains(2,3)", x.chains(2, 3), 0);
        due("chains(0,4)", x.chains(0, 4), 0);
        due("chains(4,0)", x.chains(4, 0), 0);
    }

    private static int count(int from, int to) {
        if (from == to) {
            return 1;
        }
        int count = 0;
        for (int next = 0; next < 8; next++) {
            count += next != from && widens(from, next) ? count(next, to) : 0;
        }
        return count;
    }

    // ---- 25 carry

    @Says("`way`: the types as decimal digits, each type plus 1, the first one as the highest digit; 1 to 6 digits from 1 to 8")
    static void promise25CarryTakes1To6DigitsFrom1To8() {
        int[] taken = {1, 11, 111, 1111, 11111, 111111};
        for (int way : taken) {
            due("carry(0,0," + way + ")", desk("z1").carry(0, 0, way), 0);
            due("carry(0,0," + 8 * way + ")", desk("d1").carry(0, 0, 8 * way), 0);
        }
        int[] refused = {0, -1, -8, -11, -888888, 9, 10, 19, 80, 90, 91, 98, 89, 100, 108, 180, 801, 808, 8088, 100000, 108888,
            880888, 888808, 888880, 888889, 888898, 988888, 899999, 999999, 1000000, 1111111, 8888888, 18888888, 111111111,
            1111111111, LEAST, GREATEST};
        for (int way : refused) {
            stays(Boundary::busy, "carry(1,0," + way + ")", x -> x.carry(1, 0, way), BAD);
        }
    }

    @Says("errors: UNKNOWN; BAD")
    static void promise25CarrySaysUnknownThenBadThenTheReason() {
        for (int slot : NO_SLOTS) {
            stays(Boundary::busy, "carry(" + slot + ",0,5)", x -> x.carry(slot, 0, 5), UNKNOWN);
            stays(Boundary::busy, "carry(" + slot + ",-1,0)", x -> x.carry(slot, -1, 0), UNKNOWN);
        }
        for (int way : new int[] {0, 9, 1111111, -1, LEAST}) {
            stays(Boundary::busy, "carry(9,0," + way + ")", x -> x.carry(9, 0, way), BAD);
            stays(Boundary::busy, "carry(2,0," + way + ")", x -> x.carry(2, 0, way), BAD);
            stays(Boundary::busy, "carry(1,2," + way + ")", x -> x.carry(1, 2, way), BAD);
        }
        for (int slot : EDGE_SLOTS) {
            WidenDesk x = new WidenDesk();
            x.make(slot, 4, 1);
            due("carry(" + slot + ",0,5)", x.carry(slot, 0, 5), 0);
        }
    }

    @Says("Returns 0, or the first reason that is not 0")
    static void promise25CarryAnswersTheReasonOfFetching() {
        for (int place : new int[] {0, 1, -1, LEAST, GREATEST}) {
            stays(Boundary::busy, "carry(9," + place + ",5)", x -> x.carry(9, place, 5), 5);
            stays(Boundary::busy, "carry(2," + place + ",5)", x -> x.carry(2, place, 5), 3);
            stays(Boundary::busy, "carry(3," + place + ",5)", x -> x.carry(3, place, 5), 3);
            stays(Boundary::busy, "carry(6," + place + ",5)", x -> x.carry(6, place, 5), 1);
            stays(Boundary::busy, "carry(6," + place + ",1)", x -> x.carry(6, place, 1), 1);
        }
        for (int place : outside(0, 1)) {
            stays(Boundary::busy, "carry(1," + place + ",5)", x -> x.carry(1, place, 5), 1);
        }
        due("carry(1,1,5)", busy().carry(1, 1, 5), 0);
    }

    @Says("what is fetched is put into an element of a new array of the first type and got as this type")
    static void promise25CarryAnswersTheReasonOfPutting() {
        for (int first = 1; first <= 8; first++) {
            int way = first;
            stays(Boundary::busy, "carry(0,2," + way + ") of an empty element", x -> x.carry(0, 2, way), 7);
            stays(Boundary::busy, "carry(0,1," + way + ") of a text", x -> x.carry(0, 1, way), 2);
            stays(Boundary::busy, "carry(4,0," + way + ") of a star", x -> x.carry(4, 0, way), 2);
            stays(Boundary::busy, "carry(4,1," + way + ") of a mark", x -> x.carry(4, 1, way), 2);
            for (int type = 0; type < 8; type++) {
                int kind = type;
                int want = widens(type, first - 1) ? 0 : 2;
                due("carry(0,0," + way + ") of " + type, array(kind, 1).carry(0, 0, way), want);
            }
        }
    }

    @Says("this value is put into an element of the second type and got as that type, and so on")
    static void promise25CarryStopsAtTheFirstTypeThatDoesNotFit() {
        for (int first = 0; first < 8; first++) {
            for (int second = 0; second < 8; second++) {
                for (int third = 0; third < 8; third++) {
                    int way = 100 * first + 10 * second + third + 111;
                    WidenDesk x = array(first, 1);
                    x.text(6);
                    boolean fits = widens(first, second) && widens(second, third);
                    due("carry(0,0," + way + ")", x.carry(0, 0, way), fits ? 0 : 2);
                    if (fits) {
                        dueHand(x, 1, third, 0, NONE);
                    } else {
                        dueHand(x, 4, 10, 6, NONE);
                    }
                }
            }
        }
        stays(Boundary::busy, "carry(1,0,567881)", x -> x.carry(1, 0, 567881), 2);
        stays(Boundary::busy, "carry(1,0,888887)", x -> x.carry(1, 0, 888887), 2);
    }

    @Says("The hand holds the last value then.")
    static void promise25CarryRoundsAtEachStep() {
        long[] numbers = {16777217, 16777216, GREATEST, LEAST, (1L << 53) + 1, (1L << 53) + 2, Long.MAX_VALUE, Long.MIN_VALUE,
            (1L << 62) + (1L << 38) + 1, -(1L << 24) - 1};
        for (long v : numbers) {
            WidenDesk x = array(5, 6);
            layValue(x, 0, 5, 5, v);
            due("carry(0,5,6)", x.carry(0, 5, 6), 0);
            dueHand(x, 1, 5, v, NONE);
            due("carry(0,5,67)", x.carry(0, 5, 67), 0);
            dueHand(x, 1, 6, bits((float) v), NONE);
            due("carry(0,5,8)", x.carry(0, 5, 8), 0);
            dueHand(x, 1, 7, bits((double) v), NONE);
            due("carry(0,5,78)", x.carry(0, 5, 78), 0);
            dueHand(x, 1, 7, bits((double) (float) v), NONE);
            due("carry(0,5,666778)", x.carry(0, 5, 666778), 0);
            dueHand(x, 1, 7, bits((double) (float) v), NONE);
            due("carry(0,5,888888)", x.carry(0, 5, 888888), 0);
            dueHand(x, 1, 7, bits((double) v), NONE);
        }
    }

    @Says("Fetches an element and carries it through primitive types")
    static void promise25CarryChangesTheHandAlone() {
        staysButForTheHand(Boundary::busy, "carry(1,1,567)", x -> x.carry(1, 1, 567), 0);
        staysButForTheHand(Boundary::busy, "carry(0,0,245678)", x -> x.carry(0, 0, 245678), 0);
        staysButForTheHand(Boundary::full, "carry(3,5,8)", x -> x.carry(3, 5, 8), 0);
    }

    // ---- 26 ends

    @Says({"`kind`: the last type, 0 to 7", "errors: UNKNOWN; BAD",
        "NONE is not an error; it means \"there is none\" and is returned only if no error applies."})
    static void promise26EndsSaysUnknownThenBadThenNone() {
        for (int slot : NO_SLOTS) {
            stays(Boundary::busy, "ends(" + slot + ",0,7)", x -> x.ends(slot, 0, 7), UNKNOWN);
            stays(Boundary::busy, "ends(" + slot + ",-1,8)", x -> x.ends(slot, -1, 8), UNKNOWN);
        }
        for (int kind : outside(0, 7)) {
            for (int slot : new int[] {0, 1, 2, 9}) {
                stays(Boundary::busy, "ends(" + slot + ",0," + kind + ")", x -> x.ends(slot, 0, kind), BAD);
                stays(Boundary::busy, "ends(" + slot + ",9," + kind + ")", x -> x.ends(slot, 9, kind), BAD);
            }
        }
    }

    @Says("NONE if the element, as it is fetched, is no box, or there is no such element")
    static void promise26EndsIsNoneWithoutABox() {
        for (int kind = 0; kind < 8; kind++) {
            int last = kind;
            for (int place : new int[] {0, 1, -1, LEAST, GREATEST}) {
                stays(Boundary::busy, "ends(2," + place + "," + kind + ")", x -> x.ends(2, place, last), NONE);
                stays(Boundary::busy, "ends(3," + place + "," + kind + ")", x -> x.ends(3, place, last), NONE);
                stays(Boundary::busy, "ends(9," + place + "," + kind + ")", x -> x.ends(9, place, last), NONE);
                stays(Boundary::busy, "ends(6," + place + "," + kind + ")", x -> x.ends(6, place, last), NONE);
                stays(Boundary::busy, "ends(4," + place + "," + kind + ")", x -> x.ends(4, place, last), NONE);
            }
            for (int place : outside(0, 1)) {
                stays(Boundary::busy, "ends(1," + place + "," + kind + ")", x -> x.ends(1, place, last), NONE);
            }
            stays(Boundary::busy, "ends(0,1," + kind + ") of a text", x -> x.ends(0, 1, last), NONE);
            stays(Boundary::busy, "ends(0,2," + kind + ") of an empty element", x -> x.ends(0, 2, last), NONE);
        }
    }

    @Says("Returns how many there are, 0 if its type does not widen to that one")
    static void promise26EndsIs0IfTheTypeDoesNotWidenAnd1AtItself() {
        for (int type = 0; type < 8; type++) {
            for (int kind = 0; kind < 8; kind++) {
                due("ends(0,5," + kind + ") of " + type, array(type, 6).ends(0, 5, kind), widens(type, kind) ? 1 : 0);
            }
        }
        WidenDesk x = desk("oz1,b5", "w5");
        due("ends(0,0,0)", x.ends(0, 0, 0), 1);
        due("ends(0,0,4)", x.ends(0, 0, 4), 0);
        due("ends(0,1,0)", x.ends(0, 1, 0), 0);
        due("ends(1,0,3)", x.ends(1, 0, 3), 0);
        due("ends(1,0,4)", x.ends(1, 0, 4), 1);
    }

    @Says("Counts the different values to which an element comes over all chains of primitive types from its own type to another one")
    static void promise26EndsCountsTheDifferentValues() {
        for (int type = 1; type < 6; type++) {
            for (long v : EDGES) {
                long number = made(type, v);
                WidenDesk x = array(type, 1);
                layValue(x, 0, 0, type, v);
                int want = (double) number == (double) (float) number ? 1 : 2;
                due("ends(0,0,7) of " + number + " as " + type, x.ends(0, 0, 7), want);
                due("ends(0,0,6) of " + number + " as " + type, x.ends(0, 0, 6), 1);
            }
        }
        WidenDesk x = array(5, 6);
        long[] numbers = {(1L << 24) + 1, 1L << 24, (1L << 53) + 1, (1L << 53) + 2, Long.MAX_VALUE, Long.MIN_VALUE};
        int[] want = {2, 1, 1, 2, 1, 1};
        for (int place = 0; place < 6; place++) {
            layValue(x, 0, place, 5, numbers[place]);
            due("ends(0," + place + ",7)", x.ends(0, place, 7), want[place]);
        }
        x = desk("oi16777217,f3,d3", "w16777217");
        due("ends(0,0,7)", x.ends(0, 0, 7), 2);
        due("ends(0,1,7)", x.ends(0, 1, 7), 1);
        due("ends(0,2,7)", x.ends(0, 2, 7), 1);
        due("ends(1,0,7)", x.ends(1, 0, 7), 2);
    }

    @Says("Counts the different values")
    static void promise26EndsChangesNothing() {
        stays(Boundary::busy, "ends(1,1,7)", x -> x.ends(1, 1, 7), busy().ends(1, 1, 7));
        stays(Boundary::busy, "ends(0,0,7)", x -> x.ends(0, 0, 7), 1);
    }

    // ---- 27 least

    @Says({"`slots`: the set of the slots, 1 to 1023", "Sets of slots and things are bit masks."})
    static void promise27LeastTakesSetsFrom1To1023() {
        Setup setup = () -> {
            WidenDesk x = new WidenDesk();
            for (int slot = 0; slot < 10; slot++) {
                x.make(slot, slot == 0 ? 1 : slot == 9 ? 2 : 3, slot % 7);
            }
            return x;
        };
        int[][] taken = {{1, 1}, {2, 3}, {512, 2}, {513, 4}, {511, 3}, {1022, 4}, {1023, 4}};
        for (int[] set : taken) {
            stays(setup, "least(" + set[0] + ")", x -> x.least(set[0]), set[1]);
        }
        for (int set : new int[] {0, -1, 1024, 1025, 1536, -1024, LEAST, GREATEST}) {
            stays(setup, "least(" + set + ")", x -> x.least(set), BAD);
            stays(WidenDesk::new, "least(" + set + ")", x -> x.least(set), BAD);
        }
    }

    @Says("errors: BAD; LATE if one of these slots holds no array of type 0 to 7")
    static void promise27LeastIsLateIfOneOfTheSlotsHoldsNoPrimitives() {
        for (int thing = 0; thing < 16; thing++) {
            for (int slot = 0; slot < 10; slot++) {
                int kind = thing;
                int place = slot;
                Setup setup = () -> {
                    WidenDesk x = new WidenDesk();
                    for (int i = 0; i < 10; i++) {
                        x.make(i, i == place ? kind : 4, 0);
                    }
                    return x;
                };
                int alone = thing < 8 ? thing : LATE;
                due("least of slot " + slot + " with " + thing, setup.made().least(1 << slot), alone);
                due("least of all slots with " + thing + " in " + slot, setup.made().least(1023), thing > 7 ? LATE : least(4, thing));
                due("least of all slots but " + slot, setup.made().least(1023 & ~(1 << slot)), 4);
            }
        }
        stays(Boundary::busy, "least(3)", x -> x.least(3), LATE);
        stays(Boundary::busy, "least(514)", x -> x.least(514), LATE);
        stays(Boundary::busy, "least(34)", x -> x.least(34), 4);
    }

    private static int least(int one, int other) {
        for (int type = 0; type < 8; type++) {
            if (widens(one, type) && widens(other, type)) {
                return type;
            }
        }
        return NONE;
    }

    @Says({"the primitive type to which the types of all of them widen, and which widens to all types to which they all widen",
        "Returns the type; NONE if there is none"})
    static void promise27LeastOfAllPairsAndNoneForBooleansAndOthers() {
        for (int one = 0; one < 8; one++) {
            for (int other = 0; other < 8; other++) {
                WidenDesk x = array(one, 0);
                x.make(9, other, 6);
                due("least(513) of " + one + " and " + other, x.least(513), least(one, other));
            }
        }
        WidenDesk x = new WidenDesk();
        for (int slot = 0; slot < 8; slot++) {
            x.make(slot, slot, 1);
        }
        due("least(1)", x.least(1), 0);
        due("least(3)", x.least(3), NONE);
        due("least(129)", x.least(129), NONE);
        due("least(6)", x.least(6), 4);
        due("least(12)", x.least(12), 4);
        due("least(10)", x.least(10), 3);
        due("least(14)", x.least(14), 4);
        due("least(254)", x.least(254), 7);
        due("least(255)", x.least(255), NONE);
        due("least(511)", x.least(511), LATE);
    }

    public static void main(String[] args) throws IOException {
        run(BoundaryConversionTests.class, 22, 27);
    }
}
