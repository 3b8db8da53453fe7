import java.io.IOException;

/** Boundary cases of promises 1 to 5: a new object, and its text. */
public final class BoundaryTextTests extends Boundary {
    private static final String LETTERS = "zbcsijfdtwo";
    private static final int[] TYPES = {0, 1, 2, 3, 4, 5, 6, 7, 10, 11, 12};

    /** 60 letters that tell an array of 5 elements. */
    private static final String LONGEST = "oi-999999999,i-999999999,i-999999999,i-999999999,i-999999999";

    private static void dueFault(String text, int want) {
        WidenDesk x = new WidenDesk();
        spell(x, text);
        due("about(3) of " + text, x.about(3), text.length());
        due("fault() of " + text, x.fault(), want);
    }

    private static void dueNoFault(String... texts) {
        for (String text : texts) {
            dueFault(text, NONE);
        }
    }

    /** The last character is the fault, whatever follows. */
    private static void dueFaultAtLast(String... texts) {
        for (String text : texts) {
            dueFault(text, text.length() - 1);
            dueFault(text + "0", text.length() - 1);
            dueFault(text + ",1", text.length() - 1);
        }
    }

    private static void dueIncomplete(String... texts) {
        for (String text : texts) {
            dueFault(text, text.length());
        }
    }

    // ---- 1 a new object

    @Says({"Creates a workbench whose slots and hand hold nothing; there are no marks, and the text is empty.",
        "15 nothing, as at first", "0 nothing, as at first"})
    static void promise01NewObjectHoldsNothing() {
        WidenDesk x = new WidenDesk();
        for (int slot = 0; slot < 10; slot++) {
            due("thing(" + slot + ",0)", x.thing(slot, 0), 15);
            due("thing(" + slot + ",1)", x.thing(slot, 1), NONE);
        }
        dueHand(x, 0, NONE, 0, NONE);
        due("about(0)", x.about(0), 0);
        due("about(3)", x.about(3), 0);
        due("wipe()", x.wipe(), 0);
        due("mark(0,0)", x.mark(0, 0), 0);
    }

    @Says("Creates a workbench")
    static void promise01NewObjectHasNoActsReportOrObservations() {
        WidenDesk x = new WidenDesk();
        due("about(1)", x.about(1), 0);
        due("undo()", x.undo(), LATE);
        due("about(2)", x.about(2), 0);
        due("which()", x.which(), 65535);
        due("unsee()", x.unsee(), 0);
        due("about(7)", x.about(7), 0);
        for (int place = 0; place < 6; place++) {
            due("report(" + place + ")", x.report(place), NONE);
        }
    }

    @Says("Creates a workbench whose slots and hand hold nothing")
    static void promise01NewObjectHasNothingOfAnotherOne() {
        WidenDesk x = full();
        WidenDesk y = new WidenDesk();
        due("about(0)", y.about(0), 0);
        due("about(3)", y.about(3), 0);
        due("about(6)", y.about(6), 10);
        dueHand(y, 0, NONE, 0, NONE);
        y.make(0, 2, 1);
        y.mark(1, 999);
        due("thing(0,0) of the first one", x.thing(0, 0), 4);
        due("hand(2) of the first one", x.hand(2), 19);
    }

    @Says("UNKNOWN = -1, BAD = -2, LATE = -3, FULL = -4, NONE = -9")
    static void promise01NewObjectKnowsTheErrorCodes() {
        due("UNKNOWN", WidenDesk.UNKNOWN, -1);
        due("BAD", WidenDesk.BAD, -2);
        due("LATE", WidenDesk.LATE, -3);
        due("FULL", WidenDesk.FULL, -4);
        due("NONE", WidenDesk.NONE, -9);
    }

    @Says("An object is used for at most 512 calls after it has been made")
    static void promise01NewObjectAnswersAsDueUpToThe512thCall() {
        WidenDesk x = new WidenDesk();
        int before = 15;
        for (int i = 1; i <= 512; i++) {
            int thing = i % 16;
            due("call " + i + ", make(7," + thing + ")", x.make(7, thing, thing < 13 ? i % 7 : 0), before);
            before = thing;
        }
        x = new WidenDesk();
        for (int i = 0; i < 512; i += 4) {
            due("make(9,5,6)", x.make(9, 5, 6), 15);
            due("scatter(9,1)", x.scatter(9, 1), 6);
            due("undo()", x.undo(), 1);
            due("undo()", x.undo(), 0);
        }
    }

    // ---- 2 write

    @Says("`letter`: its code, 0 to 255")
    static void promise02WriteTakesAllLettersFrom0To255() {
        for (int letter = 0; letter < 256; letter++) {
            WidenDesk x = new WidenDesk();
            due("write(" + letter + ")", x.write(letter), 1);
            due("about(3)", x.about(3), 1);
        }
    }

    @Says({"`letter`: its code, 0 to 255", "BAD: another argument is outside the range that its @param gives."})
    static void promise02WriteRefusesOtherLetters() {
        for (int letter : outside(0, 255)) {
            stays(WidenDesk::new, "write(" + letter + ")", x -> x.write(letter), BAD);
            stays(Boundary::busy, "write(" + letter + ")", x -> x.write(letter), BAD);
        }
        // 98 is b: a letter is not looked at by its lowest 8 bits
        stays(WidenDesk::new, "write(354)", x -> x.write(354), BAD);
    }

    @Says({"FULL if it has 60 characters", "There is a buffer for a text of up to 60 characters."})
    static void promise02WriteTakesThe60thLetterAndNoMore() {
        WidenDesk x = new WidenDesk();
        for (int length = 1; length <= 60; length++) {
            due("write(255)", x.write(255), length);
        }
        due("write(255)", x.write(255), FULL);
        due("about(3)", x.about(3), 60);
        stays(Boundary::full, "write(0)", y -> y.write(0), FULL);
        stays(Boundary::full, "write(255)", y -> y.write(255), FULL);
    }

    @Says({"errors: BAD; FULL if it has 60 characters",
        "Each method lists its errors in the order in which it checks them and returns the first one that applies."})
    static void promise02WriteSaysBadBeforeFull() {
        for (int letter : outside(0, 255)) {
            stays(Boundary::full, "write(" + letter + ")", x -> x.write(letter), BAD);
        }
    }

    @Says({"Appends a character to the text.", "Returns the length of the text then"})
    static void promise02WriteAppendsAndAnswersTheLength() {
        WidenDesk x = new WidenDesk();
        due("write(98)", x.write('b'), 1);
        due("write(45)", x.write('-'), 2);
        due("write(49)", x.write('1'), 3);
        due("tell(0)", x.tell(0), 1);
        due("write(50)", x.write('2'), 4);
        due("tell(1)", x.tell(1), 1);
        dueCells(x, 0, 1, -1);
        dueCells(x, 1, 1, -12);
        due("about(1)", x.about(1), 2);
    }

    // ---- 3 wipe

    @Says({"Empties the text.", "Returns the length that it had."})
    static void promise03WipeOfTheEmptyTextAnswers0() {
        stays(WidenDesk::new, "wipe()", WidenDesk::wipe, 0);
        WidenDesk x = busy();
        due("wipe()", x.wipe(), 8);
        due("wipe()", x.wipe(), 0);
    }

    @Says({"Empties the text.", "Returns the length that it had."})
    static void promise03WipeOfTheFullTextGivesRoomFor60Again() {
        WidenDesk x = full();
        due("wipe()", x.wipe(), 60);
        due("about(3)", x.about(3), 0);
        due("fault()", x.fault(), 0);
        for (int length = 1; length <= 60; length++) {
            due("write(122)", x.write('z'), length);
        }
        due("write(122)", x.write('z'), FULL);
        due("wipe()", x.wipe(), 60);
    }

    @Says("Empties the text.")
    static void promise03WipeLeavesNoLetterOfTheOldText() {
        WidenDesk x = new WidenDesk();
        spell(x, "i12345");
        x.tell(0);
        due("wipe()", x.wipe(), 6);
        x.write('b');
        due("fault()", x.fault(), NONE);
        due("tell(1)", x.tell(1), 1);
        due("thing(1,1)", x.thing(1, 1), 0);
        dueCells(x, 0, 4, 12345);
        due("about(1)", x.about(1), 2);
    }

    // ---- 4 fault

    @Says("the letter of its type: z b c s i j f d for the types 0 to 7, t text, w whole, o any")
    static void promise04FaultKnowsTheLettersOfTheTypesAndNoOthers() {
        for (int letter = 0; letter < 256; letter++) {
            WidenDesk x = new WidenDesk();
            x.write(letter);
            due("fault() of letter " + letter, x.fault(), LETTERS.indexOf(letter) >= 0 ? NONE : 0);
        }
    }

    @Says("then 0 to 6 elements, with \",\" between them.")
    static void promise04FaultLets0To6ElementsBeAndNo7th() {
        String[] elements = {"0", "-1", "7", "-7", "5", "6", "-8", "9", "*", "*", "t1"};
        for (int i = 0; i < LETTERS.length(); i++) {
            String text = LETTERS.substring(i, i + 1);
            dueNoFault(text);
            text += elements[i];
            dueNoFault(text);
            for (int count = 2; count <= 6; count++) {
                text += "," + elements[i];
                dueNoFault(text);
            }
            dueFaultAtLast(text + ",");
        }
    }

    @Says("with \",\" between them")
    static void promise04FaultWantsOneCommaBetweenElements() {
        dueFaultAtLast("i,", "t,", "o,", "i1,,", "o*,,", "t**", "t*1", "w**", "w1*", "o**", "oi1i", "oi1*", "ot1t", "i1 ",
            "i1;", "i1.", "zz", "tt", "d5d");
        dueNoFault("i1,2", "t*,*", "w*,1", "o*,i1,*", "ot1,t2");
    }

    @Says({"for z b c s i j a number of this type", "a digit with which the number leaves its range is such a character"})
    static void promise04FaultHoldsNumbersToTheRangeOfTheirType() {
        String[] taken = {"z0", "z1", "b127", "b-128", "c0", "c65535", "s32767", "s-32768"};
        String[] refused = {"z2", "z9", "z10", "z11", "b128", "b-129", "b129", "b130", "b200", "b999", "b-130", "b1000", "b1270",
            "c65536", "c65540", "c65600", "c66000", "c70000", "c99999", "c655350", "s32768", "s-32769", "s32770", "s40000",
            "s-32770", "s-40000", "s327670"};
        for (String text : taken) {
            dueNoFault(text, text + ",0", "o" + text);
        }
        for (String text : refused) {
            dueFaultAtFirstOutside(text);
        }
    }

    /** The digit with which the number leaves its range is the fault, also if it is not the last one. */
    private static void dueFaultAtFirstOutside(String text) {
        long[] lowest = {0, -128, 0, -32768};
        long[] highest = {1, 127, 65535, 32767};
        int type = LETTERS.indexOf(text.charAt(0));
        int fault = 1;
        while (fault < text.length()) {
            String part = text.substring(1, fault + 1);
            long number = part.equals("-") ? 0 : Long.parseLong(part);
            if (number < lowest[type] || number > highest[type]) {
                break;
            }
            fault++;
        }
        due("digits of " + text + " that are read, 1 if not all", fault < text.length() ? 1 : 0, 1);
        dueFault(text, fault);
        dueFault("o" + text, fault + 1);
        dueFault("o*," + text + ",*", fault + 3);
    }

    @Says("A number is \"-\" if it is negative, then 1 to 9 digits")
    static void promise04FaultLetsNumbersHave1To9Digits() {
        for (String letter : new String[] {"i", "j", "f", "d", "w", "oi", "oj", "of", "od"}) {
            dueNoFault(letter + "9", letter + "-9", letter + "999999999", letter + "-999999999", letter + "100000000");
            dueFaultAtLast(letter + "9999999999", letter + "-9999999999", letter + "1000000000", letter + "-1000000000");
            dueFaultAtLast(letter + ",", letter + "-,", letter + "--", letter + "5-", letter + "+", letter + "-*");
        }
    }

    @Says("for t \"*\" or a number from 0 to 9999")
    static void promise04FaultLetsTextsBeFrom0To9999() {
        dueNoFault("t*", "t0", "t9999", "t1000", "t*,0,9999,*");
        dueFaultAtLast("t10000", "t99990", "t-", "t1,-", "t12345");
    }

    @Says("for w \"*\" (empty) or a number of type int")
    static void promise04FaultLetsWholesBeEmptyOrInts() {
        dueNoFault("w*", "w0", "w-1", "w*,*", "w5,*,-999999999,999999999");
        dueFaultAtLast("wi", "w*0", "w-*", "wt");
    }

    @Says({"for o \"*\", or the letter of a type 0 to 7 and an element as for this type (a box)",
        "or \"t\" and a number from 0 to 9999"})
    static void promise04FaultOfAnyKnowsTheLettersOfBoxesAndTexts() {
        for (int letter = 0; letter < 256; letter++) {
            WidenDesk x = new WidenDesk();
            x.write('o');
            x.write(letter);
            int want = letter == '*' ? NONE : "zbcsijfdt".indexOf(letter) >= 0 ? 2 : 1;
            due("fault() of o and letter " + letter, x.fault(), want);
        }
        dueNoFault("oz1", "ob-128", "oc65535", "os-32768", "oi-1", "oj1", "of-1", "od1", "ot0", "ot9999", "o*");
        dueFaultAtLast("oz2", "ob128", "oc65536", "os32768", "ot10000", "ot*", "ob*", "ot-", "oc-", "oz-", "ow", "oo", "o0", "o-",
            "obb");
    }

    @Says("without superfluous leading zeros")
    static void promise04FaultRefusesSuperfluousLeadingZeros() {
        for (String letter : new String[] {"b", "c", "s", "i", "j", "f", "d", "t", "w", "ob", "oc", "os", "oi", "oj", "of", "od", "ot"}) {
            dueNoFault(letter + "0", letter + "10", letter + "100");
            dueFaultAtLast(letter + "00", letter + "01", letter + "09");
        }
        dueFaultAtLast("z00", "z01", "oz00", "oz01");
        dueNoFault("i0,0", "i100000000");
        dueFaultAtLast("i5,00");
    }

    @Says("\"-0\" is not allowed")
    static void promise04FaultRefusesMinusZero() {
        for (String letter : new String[] {"b", "s", "i", "j", "f", "d", "w", "ob", "os", "oi", "oj", "of", "od"}) {
            dueFaultAtLast(letter + "-0");
            dueNoFault(letter + "-1", letter + "-10");
        }
        dueFault("i-01", 2);
        dueFaultAtLast("f1,-0");
    }

    @Says("nor \"-\" where no negative number is allowed")
    static void promise04FaultRefusesMinusWhereNoNegativeNumberIsAllowed() {
        dueFaultAtLast("z-", "c-", "t-", "oz-", "oc-", "ot-", "z1,-", "c1,-", "t*,-", "o*,z-");
        dueIncomplete("b-", "s-", "i-", "j-", "f-", "d-", "w-", "ob-", "os-", "oi-", "oj-", "of-", "od-");
    }

    @Says("for f and d a number, which is rounded if necessary")
    static void promise04FaultLetsFloatsBeNumbersThatMustBeRounded() {
        dueNoFault("f16777217", "f999999999", "f-999999999", "d999999999", "of16777217");
        dueFaultAtLast("f1.", "d1.", "f1e", "d-.", "fN", "dI");
    }

    @Says("for w \"*\" (empty)")
    static void promise04FaultRefusesTheEmptyElementInPrimitiveArrays() {
        dueFaultAtLast("z*", "b*", "c*", "s*", "i*", "j*", "f*", "d*", "i1,*");
    }

    @Says("The fault of a text is the index of the first character at which it cannot continue to be an array, whatever follows")
    static void promise04FaultIsTheFirstOneWhateverFollows() {
        dueFault("x", 0);
        dueFault("xi1,2", 0);
        dueFault("i1x,2", 2);
        dueFault("i1x,2x", 2);
        dueFault("b128,129", 3);
        dueFault("b12,129,130", 6);
        dueFault("i1\u0000", 2);
        dueFault("i\u00ff", 1);
        dueFault("o*,*,*,*,*,*,*", 12);
    }

    @Says("it is the length of the text if there is no such character, but the text is not complete")
    static void promise04FaultIsTheLengthIfTheTextIsNotComplete() {
        dueIncomplete("", "b-", "b1,", "b1,-", "ob", "ot", "oi-", "o*,", "o*,z", "t1,", "t*,", "w*,", "w-", "i1,2,3,4,5,", "z0,",
            "i999999999,");
    }

    @Says("(its greatest length does not matter here;")
    static void promise04FaultDoesNotMindTheGreatestLength() {
        dueNoFault(LONGEST);
        dueIncomplete("oi-999999999,i-999999999,i-999999999,i-999999999,i-99999999,");
        dueIncomplete("oi-999999999,i-999999999,i-999999999,i-999999999,i-999999,i-");
        dueFault("oi-999999999,i-999999999,i-999999999,i-999999999,i-99999999x", 59);
    }

    @Says("Returns the fault of the text; NONE if it has none.")
    static void promise04FaultChangesNothing() {
        stays(Boundary::busy, "fault()", WidenDesk::fault, NONE);
        stays(Boundary::full, "fault()", WidenDesk::fault, NONE);
        stays(WidenDesk::new, "fault()", WidenDesk::fault, 0);
        WidenDesk x = desk("i5", "b1");
        x.write('x');
        due("fault()", x.fault(), 2);
        due("fault()", x.fault(), 2);
    }

    @Says("The fault of a text is the index of the first character at which it cannot continue to be an array")
    static void promise04FaultOfEveryShortText() {
        char[] signs = {'z', 'b', 'c', 't', 'w', 'o', '-', '0', '1', '2', '9', '*', ',', 'x'};
        checkTexts("", signs, 4);
    }

    private static void checkTexts(String text, char[] signs, int more) {
        WidenDesk x = new WidenDesk();
        spell(x, text);
        due("fault() of " + text, x.fault(), slowFault(text));
        for (int i = 0; i < signs.length && more > 0; i++) {
            checkTexts(text + signs[i], signs, more - 1);
        }
    }

    private static int slowFault(String text) {
        for (int length = 1; length <= text.length(); length++) {
            if (!canContinue(text.substring(0, length))) {
                return length - 1;
            }
        }
        return isArray(text) ? NONE : text.length();
    }

    /** Whatever can continue is an array already, or is one with one more of these characters. */
    private static boolean canContinue(String text) {
        return isArray(text) || isArray(text + "0") || isArray(text + "1") || isArray(text + "*");
    }

    private static boolean isArray(String text) {
        if (text.isEmpty() || LETTERS.indexOf(text.charAt(0)) < 0) {
            return false;
        }
        if (text.length() == 1) {
            return true;
        }
        String[] elements = text.substring(1).split(",", -1);
        for (String element : elements) {
            if (!isElement(text.charAt(0), element)) {
                return false;
            }
        }
        return elements.length <= 6;
    }

    private static boolean isElement(char letter, String element) {
        if (element.equals("*")) {
            return letter == 't' || letter == 'w' || letter == 'o';
        }
        if (letter == 'o') {
            return !element.isEmpty() && "zbcsijfdt".indexOf(element.charAt(0)) >= 0 && !element.endsWith("*")
                && isElement(element.charAt(0), element.substring(1));
        }
        if (!element.matches("0|-?[1-9][0-9]{0,8}")) {
            return false;
        }
        long number = Long.parseLong(element);
        switch (letter) {
            case 'z': return number >= 0 && number <= 1;
            case 'b': return number == (byte) number;
            case 'c': return number == (char) number;
            case 's': return number == (short) number;
            case 't': return number >= 0 && number <= 9999;
            default: return true;
        }
    }

    // ---- 5 tell

    @Says({"`slot`: a slot, 0 to 9", "UNKNOWN: there is no such slot."})
    static void promise05TellKnowsTheSlots0To9() {
        for (int slot = 0; slot < 10; slot++) {
            WidenDesk x = new WidenDesk();
            spell(x, "b7");
            due("tell(" + slot + ")", x.tell(slot), 1);
            dueCells(x, slot, 1, 7);
            due("about(6)", x.about(6), 9);
        }
        for (int slot : NO_SLOTS) {
            stays(Boundary::busy, "tell(" + slot + ")", x -> x.tell(slot), UNKNOWN);
        }
    }

    @Says("errors: UNKNOWN; LATE if the text has a fault")
    static void promise05TellSaysUnknownBeforeLate() {
        for (int slot : NO_SLOTS) {
            stays(WidenDesk::new, "tell(" + slot + ")", x -> x.tell(slot), UNKNOWN);
        }
    }

    @Says("LATE if the text has a fault")
    static void promise05TellRefusesTextsWithAFault() {
        stays(WidenDesk::new, "tell(0)", x -> x.tell(0), LATE);
        for (String text : new String[] {"x", "i1x", "b128", "i-", "i1,", "z0,0,0,0,0,0,", "ob"}) {
            Setup setup = () -> {
                WidenDesk x = busy();
                spell(x, text);
                return x;
            };
            for (int slot : EDGE_SLOTS) {
                stays(setup, "tell(" + slot + ") of " + text, x -> x.tell(slot), LATE);
            }
        }
    }

    @Says("Returns the type of the array")
    static void promise05TellAnswersTheTypeOfEveryArray() {
        WidenDesk x = new WidenDesk();
        for (int i = 0; i < LETTERS.length(); i++) {
            spell(x, LETTERS.substring(i, i + 1));
            due("tell(3) of " + LETTERS.charAt(i), x.tell(3), TYPES[i]);
            due("thing(3,0)", x.thing(3, 0), TYPES[i]);
            due("thing(3,1)", x.thing(3, 1), 0);
        }
    }

    @Says("then 0 to 6 elements")
    static void promise05TellMakesArraysOf0To6Elements() {
        String text = "i";
        for (int count = 0; count <= 6; count++) {
            WidenDesk x = desk(text);
            due("thing(0,1) of " + text, x.thing(0, 1), count);
            for (int place = 0; place < count; place++) {
                due("cell(0," + place + ",1) of " + text, x.cell(0, place, 1), place + 1);
            }
            text += (count == 0 ? "" : ",") + (count + 1);
        }
    }

    @Says("for z b c s i j a number of this type")
    static void promise05TellPutsTheLeastAndGreatestNumbers() {
        WidenDesk x = desk("z0,1", "b127,-128", "c0,65535", "s32767,-32768", "i999999999,-999999999", "j999999999,-999999999",
            "t0,9999,*", "w999999999,-999999999,*,0");
        dueCells(x, 0, 0, 0, 0, 1);
        dueCells(x, 1, 1, 127, 1, -128);
        dueCells(x, 2, 2, 0, 2, 65535);
        dueCells(x, 3, 3, 32767, 3, -32768);
        dueCells(x, 4, 4, 999999999, 4, -999999999);
        dueCells(x, 5, 5, 999999999, 5, -999999999);
        dueCells(x, 6, 10, 0, 10, 9999, NONE, 0);
        dueCells(x, 7, 4, 999999999, 4, -999999999, NONE, 0, 4, 0);
    }

    @Says({"for f and d a number, which is rounded if necessary", "rounded as by a Java cast where it becomes a float or double"})
    static void promise05TellRoundsFloatsWhereTheyHaveNoSuchNumber() {
        int[] numbers = {0, 1, -1, 16777215, 16777216, 16777217, 16777218, 16777219, -16777217, -16777219, 33554433, 33554434,
            33554435, 33554438, 999999999, -999999999, 536870911, 536870913};
        for (int number : numbers) {
            WidenDesk x = desk("f" + number, "d" + number, "of" + number + ",d" + number);
            dueCells(x, 0, 6, bits((float) number));
            dueCells(x, 1, 7, bits((double) number));
            dueCells(x, 2, 6, bits((float) number), 7, bits((double) number));
        }
        due("16777217 as a float", bits((float) 16777217), bits(16777216f));
        due("16777219 as a float", bits((float) 16777219), bits(16777220f));
    }

    @Says("or the letter of a type 0 to 7 and an element as for this type (a box)")
    static void promise05TellPutsBoxesOfTheirOwnTypesIntoAny() {
        WidenDesk x = desk("oz1,b-128,c65535,s-32768,i-1,j1", "of16777217,d-3,t9999,t0,*,z0");
        dueCells(x, 0, 0, 1, 1, -128, 2, 65535, 3, -32768, 4, -1, 5, 1);
        dueCells(x, 1, 6, bits(16777216f), 7, bits(-3d), 10, 9999, 10, 0, NONE, 0, 0, 0);
    }

    @Says("Puts a new array as the text tells into a slot. The text stays.")
    static void promise05TellMakesANewArrayEachTimeAndTheTextStays() {
        WidenDesk x = desk("i5,6");
        due("tell(1)", x.tell(1), 4);
        due("same(0,1)", x.same(0, 1), 0);
        due("alike(0,1)", x.alike(0, 1), NONE);
        layValue(x, 0, 0, 4, 9);
        dueCells(x, 1, 4, 5, 4, 6);
        due("about(3)", x.about(3), 4);
        due("fault()", x.fault(), NONE);
        due("tell(0)", x.tell(0), 4);
        dueCells(x, 0, 4, 5, 4, 6);
        x = full();
        due("tell(9)", x.tell(9), 12);
        due("about(3)", x.about(3), 60);
        dueCells(x, 9, 4, -999999999, 4, -999999999, 4, -999999999, 4, -999999999, 4, -999999999);
    }

    @Says("Puts a new array as the text tells into a slot.")
    static void promise05TellLeavesTheOldArrayToOtherSlots() {
        WidenDesk x = busy();
        due("tell(5)", x.tell(5), 12);
        due("thing(1,0)", x.thing(1, 0), 4);
        due("same(1,5)", x.same(1, 5), 0);
        due("tell(2)", x.tell(2), 12);
        due("tell(3)", x.tell(3), 12);
        due("thing(3,1)", x.thing(3, 1), 3);
        dueHand(x, 3, 8, 31, 1);
    }

    public static void main(String[] args) throws IOException {
        run(BoundaryTextTests.class, 1, 5);
    }
}
