/** For each promise of the document ordinary inputs, the edges that it names, and wrong inputs. */
public final class PromiseTests {
    private static final int UNKNOWN = -1, BAD = -2, LATE = -3, FULL = -4, NONE = -9;
    private static int wrong = 0;
    private static String promise = "";

    private static void due(String call, long got, long want) {
        if (got != want) {
            wrong++;
            System.out.println(promise + ": " + call + " answered " + got + ", due is " + want);
        }
    }

    private static WidenDesk begin(String name) {
        promise = name;
        return new WidenDesk();
    }

    private static void spell(WidenDesk x, String text) {
        x.wipe();
        for (int i = 0; i < text.length(); i++) {
            due("write(" + (int) text.charAt(i) + ")", x.write(text.charAt(i)), i + 1);
        }
    }

    /** A desk with an array as a text tells in slot 0. */
    private static WidenDesk told(String... texts) {
        WidenDesk x = new WidenDesk();
        for (int slot = 0; slot < texts.length; slot++) {
            if (texts[slot].equals("text")) {
                x.make(slot, 13, 0);
            } else if (texts[slot].equals("mark")) {
                x.make(slot, 14, 0);
            } else if (!texts[slot].isEmpty()) {
                spell(x, texts[slot]);
                due("tell(" + slot + ") of " + texts[slot], x.tell(slot) >= 0 ? 0 : 1, 0);
            }
        }
        return x;
    }

    private static void dueFault(String text, int want) {
        WidenDesk x = new WidenDesk();
        spell(x, text);
        due("fault() of " + text, x.fault(), want);
        due("fault() of " + text + " again", x.fault(), want);
        due("length of " + text, x.about(3), text.length());
    }

    /** The types and codes of all elements of a slot. */
    private static void dueCells(WidenDesk x, int slot, long... typesAndCodes) {
        due("thing(" + slot + ",1)", x.thing(slot, 1), typesAndCodes.length / 2);
        for (int i = 0; i + 1 < typesAndCodes.length; i += 2) {
            due("cell(" + slot + "," + i / 2 + ",0)", x.cell(slot, i / 2, 0), typesAndCodes[i]);
            due("cell(" + slot + "," + i / 2 + ",1)", x.cell(slot, i / 2, 1), typesAndCodes[i + 1]);
        }
    }

    private static void dueHand(WidenDesk x, long form, long type, long code, long mark) {
        due("hand(0)", x.hand(0), form);
        due("hand(1)", x.hand(1), type);
        due("hand(2)", x.hand(2), code);
        due("hand(3)", x.hand(3), mark);
    }

    private static long bits(float f) {
        return Float.floatToIntBits(f);
    }

    private static long bits(double d) {
        return Double.doubleToLongBits(d);
    }

    private static void examples() {
        WidenDesk x = begin("Example 1");
        spell(x, "b5,-7");
        due("tell(0)", x.tell(0), 1);
        due("make(1,6,3)", x.make(1, 6, 3), 15);
        due("convert(0,1,0)", x.convert(0, 1, 0), 2);
        due("cell(1,1,1)", x.cell(1, 1, 1), -1059061760);
        due("report(0)", x.report(0), 0);
        due("take(0,1,2)", x.take(0, 1, 2), 2);
        due("take(0,9,2)", x.take(0, 9, 2), 6);
        due("chains(1,7)", x.chains(1, 7), 16);
        due("least(3)", x.least(3), 6);
        due("alike(0,1)", x.alike(0, 1), 2);
        due("undo()", x.undo(), 2);

        x = begin("Example 2");
        due("make(0,8,2)", x.make(0, 8, 2), 15);
        due("mark(1,17)", x.mark(1, 17), 0);
        due("lay(0,0)", x.lay(0, 0), 0);
        due("make(1,4,1)", x.make(1, 4, 1), 15);
        due("lay(1,0)", x.lay(1, 0), 2);
        due("give(5,40)", x.give(5, 40L), 1);
        due("lay(0,1)", x.lay(0, 1), 4);
        due("turn()", x.turn(), 2);
        due("lay(0,1)", x.lay(0, 1), 2);
        due("lay(1,4)", x.lay(1, 4), 6);
        due("fetch(0,0)", x.fetch(0, 0), 0);
        due("grow(20)", x.grow(20), 17);
        due("cell(0,0,1)", x.cell(0, 0, 1), 20);
        due("join(0,1,2)", x.join(0, 1, 2), 12);
        due("thing(2,1)", x.thing(2, 1), 3);
        due("same(0,2)", x.same(0, 2), 0);

        x = begin("Example 3");
        spell(x, "i12x");
        due("fault()", x.fault(), 3);
        due("tell(3)", x.tell(3), -3);
        due("make(4,7,4)", x.make(4, 7, 4), 15);
        due("scatter(4,99)", x.scatter(4, 99L), 4);
        due("make(5,5,4)", x.make(5, 5, 4), 15);
        due("convert(4,5,3)", x.convert(4, 5, 3), 1);
        due("about(7)", x.about(7), 1);
        due("see(0,3,2)", x.see(0, 3, 2), 1);
        due("see(1,0,4)", x.see(1, 0, 4), 2);
        due("which()", x.which(), 0);
        due("total(4,5)", x.total(4, 5), 2);
        due("carry(4,0,8)", x.carry(4, 0, 8), 0);
    }

    private static void newObject() {
        WidenDesk x = begin("1 A new object");
        int[] abouts = {0, 0, 0, 0, 0, 0, 10, 0};
        for (int what = 0; what < 8; what++) {
            due("about(" + what + ")", x.about(what), abouts[what]);
        }
        for (int slot = 0; slot < 10; slot++) {
            due("thing(" + slot + ",0)", x.thing(slot, 0), 15);
        }
        dueHand(x, 0, NONE, 0, NONE);
        due("report(0)", x.report(0), NONE);
        due("wipe()", x.wipe(), 0);
        due("undo()", x.undo(), LATE);
        due("UNKNOWN", WidenDesk.UNKNOWN, -1);
        due("BAD", WidenDesk.BAD, -2);
        due("LATE", WidenDesk.LATE, -3);
        due("FULL", WidenDesk.FULL, -4);
        due("NONE", WidenDesk.NONE, -9);
        WidenDesk y = new WidenDesk();
        x.make(0, 4, 2);
        due("thing(0,0) of another one", y.thing(0, 0), 15);
    }

    private static void write() {
        WidenDesk x = begin("2 write");
        due("write(-1)", x.write(-1), BAD);
        due("write(256)", x.write(256), BAD);
        due("write(0)", x.write(0), 1);
        due("write(255)", x.write(255), 2);
        for (int i = 3; i <= 60; i++) {
            due("write(122)", x.write(122), i);
        }
        due("write(122)", x.write(122), FULL);
        due("write(256)", x.write(256), BAD);
        due("about(3)", x.about(3), 60);
        x.wipe();
        due("write(122)", x.write(122), 1);
    }

    private static void wipe() {
        WidenDesk x = begin("3 wipe");
        spell(x, "z01");
        due("fault()", x.fault(), 2);
        due("wipe()", x.wipe(), 3);
        due("wipe()", x.wipe(), 0);
        due("about(3)", x.about(3), 0);
        due("fault()", x.fault(), 0);
        spell(x, "b7");
        due("fault()", x.fault(), NONE);
    }

    private static void fault() {
        begin("4 fault");
        String[] whole = {"z", "b", "c", "s", "i", "j", "f", "d", "t", "w", "o", "z0", "z1,0,1,0,1,0", "b127,-128,0",
            "c0,65535", "s32767,-32768", "i999999999,-999999999", "j999999999", "f-999999999", "d1", "t*,0,9999", "w*,-1",
            "o*,z1,b-128,c65535,s-32768,i-1", "oj0,f-7,d999999999,t0,t9999,*"};
        for (String text : whole) {
            dueFault(text, NONE);
        }
        dueFault("", 0);
        String[] notBegun = {"a", "Z", "m", "0", ",", "-", "*", "\u0000", "\u00ff", "x1,2"};
        for (String text : notBegun) {
            dueFault(text, 0);
        }
        String[] open = {"b-", "b1,", "o*,", "oz", "oi-", "ot", "t1,", "w1,*,", "z0,1,0,1,0,", "f1,-"};
        for (String text : open) {
            dueFault(text, text.length());
        }
        String[] lastIsWrong = {"z2", "z-", "z00", "z01", "z10", "b128", "b-129", "b200", "b-130", "b1000", "c-", "c65536",
            "c70000", "c655350", "s32768", "s-32769", "s00", "i01", "i-0", "i--", "i1-", "i1234567890", "j-1234567890",
            "f00", "f1.", "d-0", "d1e", "t-", "t10000", "t00", "t**", "tt", "w-0", "w**", "ww", "w5*", "i*", "z*", "i,",
            "i1,,", "o1", "oo", "ow", "om", "ot*", "ot-", "ot10000", "oz2", "oc-", "o**", "o-", "o,", "oi5*", "oiz", "zz",
            "z0,1,0,1,0,1,", "z0,1,0,1,0,1x", "o*,*,*,*,*,*,", "i+", "i ", "b1\u0000"};
        for (String text : lastIsWrong) {
            dueFault(text, text.length() - 1);
            dueFault(text + "0,", text.length() - 1);
        }
        dueFault("oi-999999999,i-999999999,i-999999999,i-999999999,i-999999999", NONE);
        dueFault("oi-999999999,i-999999999,i-999999999,i-999999999,i-99999999,", 60);
    }

    private static void tell() {
        begin("5 tell");
        WidenDesk x = told("b127,-128,0");
        dueCells(x, 0, 1, 127, 1, -128, 1, 0);
        due("about(3)", x.about(3), 11);
        due("about(1)", x.about(1), 1);
        due("tell(9)", x.tell(9), 1);
        due("same(0,9)", x.same(0, 9), 0);
        due("tell(10)", x.tell(10), UNKNOWN);
        due("tell(-1)", x.tell(-1), UNKNOWN);
        x.write('x');
        due("tell(10)", x.tell(10), UNKNOWN);
        due("tell(9)", x.tell(9), LATE);
        due("about(1)", x.about(1), 2);
        String[] letters = {"z", "b", "c", "s", "i", "j", "f", "d", "t", "w", "o"};
        int[] types = {0, 1, 2, 3, 4, 5, 6, 7, 10, 11, 12};
        for (int i = 0; i < letters.length; i++) {
            spell(x, letters[i]);
            due("tell(5) of " + letters[i], x.tell(5), types[i]);
            due("thing(5,0)", x.thing(5, 0), types[i]);
            due("thing(5,1)", x.thing(5, 1), 0);
        }
        x = told("z1,0", "f16777217,16777219,-999999999", "d-999999999,1", "t*,9999,0", "w-5,*", "oz1,c9,f33554435,d-2,t40,*");
        dueCells(x, 0, 0, 1, 0, 0);
        dueCells(x, 1, 6, bits(16777216f), 6, bits(16777220f), 6, bits(-1e9f));
        dueCells(x, 2, 7, bits(-999999999d), 7, bits(1d));
        dueCells(x, 3, NONE, 0, 10, 9999, 10, 0);
        dueCells(x, 4, 4, -5, NONE, 0);
        dueCells(x, 5, 0, 1, 2, 9, 6, bits(33554436f), 7, bits(-2d), 10, 40, NONE, 0);
        x = told("i1,2,3,4,5,6", "i7");
        spell(x, "i");
        x.tell(0);
        due("thing(0,1)", x.thing(0, 1), 0);
        due("cell(0,0,1)", x.cell(0, 0, 1), BAD);
    }

    private static void about() {
        begin("6 about");
        WidenDesk x = told("b1,2,3", "text", "mark", "i1,2");
        due("about(-1)", x.about(-1), BAD);
        due("about(8)", x.about(8), BAD);
        x.share(0, 4);
        x.share(1, 5);
        x.make(6, 12, 0);
        due("about(1)", x.about(1), 7);
        due("about(4)", x.about(4), 3);
        due("about(5)", x.about(5), 5);
        due("about(6)", x.about(6), 3);
        due("about(3)", x.about(3), 4);
        x.mark(0, 1);
        x.mark(1, 1);
        due("about(0)", x.about(0), 2);
        x.see(0, 0, 0);
        due("about(2)", x.about(2), 1);
        due("convert(0,3,2)", x.convert(0, 3, 2), 2);
        due("about(7)", x.about(7), 2);
        due("convert(3,0,2)", x.convert(3, 0, 2), 0);
        due("about(7)", x.about(7), 0);
    }

    private static void make() {
        WidenDesk x = begin("7 make");
        int before = 15;
        for (int thing = 0; thing < 16; thing++) {
            int most = thing < 13 ? 6 : 0;
            due("make(3," + thing + ",-1)", x.make(3, thing, -1), BAD);
            due("make(3," + thing + "," + (most + 1) + ")", x.make(3, thing, most + 1), BAD);
            due("make(3," + thing + "," + most + ")", x.make(3, thing, most), before);
            due("thing(3,0)", x.thing(3, 0), thing);
            before = thing;
        }
        due("make(-1,16,0)", x.make(-1, 16, 0), UNKNOWN);
        due("make(10,0,0)", x.make(10, 0, 0), UNKNOWN);
        due("make(0,-1,0)", x.make(0, -1, 0), BAD);
        due("make(0,16,0)", x.make(0, 16, 0), BAD);
        due("about(1)", x.about(1), 14);
        x.make(0, 7, 2);
        x.make(1, 12, 2);
        dueCells(x, 0, 7, 0, 7, 0);
        dueCells(x, 1, NONE, 0, NONE, 0);
        due("about(0)", x.about(0), 0);
        x.make(2, 7, 2);
        due("same(0,2)", x.same(0, 2), 0);
    }

    private static void share() {
        begin("8 share");
        WidenDesk x = told("i1,2", "text", "mark");
        due("share(0,5)", x.share(0, 5), 4);
        due("same(0,5)", x.same(0, 5), 1);
        x.give(4, 9);
        x.lay(5, 1);
        due("cell(0,1,1)", x.cell(0, 1, 1), 9);
        due("share(1,6)", x.share(1, 6), 13);
        due("share(2,6)", x.share(2, 6), 14);
        due("thing(6,0)", x.thing(6, 0), 14);
        due("share(9,5)", x.share(9, 5), 15);
        due("thing(5,0)", x.thing(5, 0), 15);
        due("about(1)", x.about(1), 8);
        due("share(0,0)", x.share(0, 0), 4);
        due("about(1)", x.about(1), 9);
        due("share(10,0)", x.share(10, 0), UNKNOWN);
        due("share(0,10)", x.share(0, 10), UNKNOWN);
        due("share(-1,0)", x.share(-1, 0), UNKNOWN);
        due("share(0,-1)", x.share(0, -1), UNKNOWN);
        due("about(1)", x.about(1), 9);
    }

    private static void thing() {
        begin("9 thing");
        WidenDesk x = told("o*,*,*", "text", "mark");
        due("thing(0,0)", x.thing(0, 0), 12);
        due("thing(0,1)", x.thing(0, 1), 3);
        due("thing(1,0)", x.thing(1, 0), 13);
        due("thing(1,1)", x.thing(1, 1), LATE);
        due("thing(2,0)", x.thing(2, 0), 14);
        due("thing(2,1)", x.thing(2, 1), LATE);
        due("thing(3,0)", x.thing(3, 0), 15);
        due("thing(3,1)", x.thing(3, 1), NONE);
        due("thing(3,2)", x.thing(3, 2), BAD);
        due("thing(1,-1)", x.thing(1, -1), BAD);
        due("thing(10,2)", x.thing(10, 2), UNKNOWN);
        due("thing(-1,0)", x.thing(-1, 0), UNKNOWN);
    }

    private static void same() {
        begin("10 same");
        WidenDesk x = told("i1", "i1", "text");
        x.share(0, 5);
        x.share(2, 6);
        due("same(0,0)", x.same(0, 0), 1);
        due("same(0,5)", x.same(0, 5), 1);
        due("same(0,1)", x.same(0, 1), 0);
        due("same(2,2)", x.same(2, 2), 0);
        due("same(2,6)", x.same(2, 6), 0);
        due("same(8,8)", x.same(8, 8), 0);
        due("same(8,9)", x.same(8, 9), 0);
        due("same(0,10)", x.same(0, 10), UNKNOWN);
        due("same(-1,0)", x.same(-1, 0), UNKNOWN);
    }

    private static void cell() {
        begin("11 cell");
        WidenDesk x = told("s-5", "w7,*", "", "text");
        x.make(2, 8, 3);
        x.mark(0, 11);
        x.lay(2, 0);
        x.mark(1, 12);
        x.lay(2, 1);
        long[][] want = {{8, 11, 0}, {9, 12, 1}, {NONE, 0, NONE}};
        for (int place = 0; place < 3; place++) {
            for (int what = 0; what < 3; what++) {
                due("cell(2," + place + "," + what + ")", x.cell(2, place, what), want[place][what]);
            }
        }
        due("cell(0,0,0)", x.cell(0, 0, 0), 3);
        due("cell(0,0,1)", x.cell(0, 0, 1), -5);
        due("cell(0,0,2)", x.cell(0, 0, 2), NONE);
        due("cell(1,0,0)", x.cell(1, 0, 0), 4);
        due("cell(1,1,0)", x.cell(1, 1, 0), NONE);
        due("cell(0,1,0)", x.cell(0, 1, 0), BAD);
        due("cell(0,-1,0)", x.cell(0, -1, 0), BAD);
        due("cell(0,0,3)", x.cell(0, 0, 3), BAD);
        due("cell(0,0,-1)", x.cell(0, 0, -1), BAD);
        due("cell(3,0,3)", x.cell(3, 0, 3), LATE);
        due("cell(4,-1,0)", x.cell(4, -1, 0), LATE);
        due("cell(10,0,0)", x.cell(10, 0, 0), UNKNOWN);
        due("cell(-1,9,9)", x.cell(-1, 9, 9), UNKNOWN);
    }

    private static void give() {
        WidenDesk x = begin("12 give");
        due("give(8,0)", x.give(8, 0), BAD);
        due("give(-1,0)", x.give(-1, 0), BAD);
        dueHand(x, 0, NONE, 0, NONE);
        long[] longs = {0, 1, -1, 2, 127, 128, 200, 32768, 65535, 65536, 1L << 31, (1L << 31) - 1, 1L << 32, -(1L << 31) - 1,
            Long.MAX_VALUE, Long.MIN_VALUE, Long.MIN_VALUE + 1, 4, 12, 7, -7, (1L << 24) + 1, (1L << 24) + 3, (1L << 25) - 1,
            (1L << 53) + 1, (1L << 53) + 3, (1L << 54) - 1, -(1L << 53) - 1, (1L << 60) + (1L << 36) + 1, (1L << 60) + (1L << 36),
            (1L << 60) + (3L << 36), (1L << 60) + (1L << 36) - 1, 123456789012345678L, -98765432109876543L};
        for (long v : longs) {
            x = new WidenDesk();
            long[] want = {v & 1, (byte) v, (char) v, (short) v, (int) v, v, bits((float) v / 8f), bits((double) v / 8d)};
            for (int kind = 0; kind < 8; kind++) {
                due("give(" + kind + "," + v + ")", x.give(kind, v), 1);
                dueHand(x, 1, kind, want[kind], NONE);
            }
        }
        due("about(1)", x.about(1), 0);
    }

    private static void mark() {
        WidenDesk x = begin("13 mark");
        due("mark(2,0)", x.mark(2, 0), BAD);
        due("mark(-1,0)", x.mark(-1, 0), BAD);
        due("mark(0,-1)", x.mark(0, -1), BAD);
        due("mark(1,1000)", x.mark(1, 1000), BAD);
        due("about(0)", x.about(0), 0);
        for (int i = 0; i < 20; i++) {
            int number = i == 0 ? 0 : i == 1 ? 999 : 5;
            due("mark(" + i % 2 + "," + number + ")", x.mark(i % 2, number), i);
            dueHand(x, 3, i % 2 == 1 ? 9 : 8, number, i);
        }
        x.text(3);
        due("mark(0,0)", x.mark(0, 0), FULL);
        due("mark(0,1000)", x.mark(0, 1000), BAD);
        dueHand(x, 4, 10, 3, NONE);
        due("about(1)", x.about(1), 0);
    }

    private static void text() {
        WidenDesk x = begin("14 text");
        int[] numbers = {0, 9, 10, 99, 100, 999, 1000, 9999};
        for (int i = 0; i < numbers.length; i++) {
            due("text(" + numbers[i] + ")", x.text(numbers[i]), i / 2 + 1);
            dueHand(x, 4, 10, numbers[i], NONE);
        }
        due("text(-1)", x.text(-1), BAD);
        due("text(10000)", x.text(10000), BAD);
        dueHand(x, 4, 10, 9999, NONE);
    }

    private static void turn() {
        WidenDesk x = begin("15 turn");
        due("turn()", x.turn(), LATE);
        for (int kind = 0; kind < 8; kind++) {
            x.give(kind, 9);
            long code = x.hand(2);
            due("turn()", x.turn(), 2);
            dueHand(x, 2, kind, code, NONE);
            due("turn()", x.turn(), 1);
            dueHand(x, 1, kind, code, NONE);
        }
        x.text(5);
        due("turn()", x.turn(), LATE);
        x.mark(0, 5);
        due("turn()", x.turn(), LATE);
        dueHand(x, 3, 8, 5, 0);
    }

    private static void hand() {
        WidenDesk x = begin("16 hand");
        due("hand(-1)", x.hand(-1), BAD);
        due("hand(4)", x.hand(4), BAD);
        dueHand(x, 0, NONE, 0, NONE);
        x.mark(1, 30);
        x.mark(0, 40);
        dueHand(x, 3, 8, 40, 1);
        x.make(0, 8, 1);
        x.lay(0, 0);
        x.grow(41);
        dueHand(x, 3, 8, 41, 1);
        x.undo();
        dueHand(x, 3, 8, 40, 1);
        x.make(1, 9, 1);
        x.fetch(1, 0);
        dueHand(x, 0, NONE, 0, NONE);
        due("hand(4)", x.hand(4), BAD);
    }

    private static void grow() {
        WidenDesk x = begin("17 grow");
        due("grow(5)", x.grow(5), LATE);
        due("grow(1000)", x.grow(1000), BAD);
        due("grow(-1)", x.grow(-1), BAD);
        x.make(0, 12, 2);
        x.make(1, 8, 1);
        x.mark(0, 7);
        x.mark(1, 8);
        x.lay(0, 0);
        x.lay(1, 0);
        due("grow(999)", x.grow(999), 8);
        due("grow(0)", x.grow(0), 999);
        due("cell(0,0,1)", x.cell(0, 0, 1), 0);
        due("cell(1,0,1)", x.cell(1, 0, 1), 0);
        due("about(1)", x.about(1), 6);
        due("grow(0)", x.grow(0), 0);
        due("about(1)", x.about(1), 7);
        due("grow(1000)", x.grow(1000), BAD);
        x.give(4, 1);
        due("grow(1)", x.grow(1), LATE);
        x.text(1);
        due("grow(1)", x.grow(1), LATE);
        due("about(1)", x.about(1), 7);
    }

    private static final int[][] WIDENS = {{0}, {1, 3, 4, 5, 6, 7}, {2, 4, 5, 6, 7}, {3, 4, 5, 6, 7}, {4, 5, 6, 7}, {5, 6, 7},
        {6, 7}, {7}};

    private static boolean widens(int from, int to) {
        for (int type : WIDENS[from]) {
            if (type == to) {
                return true;
            }
        }
        return false;
    }

    private static void take() {
        WidenDesk x = begin("18 take");
        for (int type = 0; type < 13; type++) {
            x.make(0, type, 2);
            for (int kind = 0; kind < 8; kind++) {
                int want = type > 7 ? 4 : widens(type, kind) ? 0 : 2;
                due("take(0,1," + kind + ") of type " + type, x.take(0, 1, kind), want);
                if (want == 0) {
                    dueHand(x, 1, kind, 0, NONE);
                }
                due("take(0,2," + kind + ") of type " + type, x.take(0, 2, kind), want == 0 ? 1 : 6);
                due("take(0,-1," + kind + ") of type " + type, x.take(0, -1, kind), want == 0 ? 1 : 6);
            }
        }
        x.make(0, 13, 0);
        due("take(0,0,0)", x.take(0, 0, 0), 3);
        due("take(0,9,0)", x.take(0, 9, 0), 3);
        x.make(0, 14, 0);
        due("take(0,0,0)", x.take(0, 0, 0), 3);
        due("take(1,0,0)", x.take(1, 0, 0), 5);
        due("take(1,-1,8)", x.take(1, -1, 8), BAD);
        due("take(1,0,-1)", x.take(1, 0, -1), BAD);
        due("take(10,0,8)", x.take(10, 0, 8), UNKNOWN);
        due("take(-1,0,0)", x.take(-1, 0, 0), UNKNOWN);
        x = told("i16777217,-33554435", "c65535", "f16777219");
        x.take(0, 0, 6);
        dueHand(x, 1, 6, bits(16777216f), NONE);
        x.take(0, 1, 6);
        dueHand(x, 1, 6, bits(-33554436f), NONE);
        x.take(0, 1, 7);
        dueHand(x, 1, 7, bits(-33554435d), NONE);
        x.take(1, 0, 5);
        dueHand(x, 1, 5, 65535, NONE);
        x.take(2, 0, 7);
        dueHand(x, 1, 7, bits(16777220d), NONE);
        due("take(0,0,2)", x.take(0, 0, 2), 2);
        dueHand(x, 1, 7, bits(16777220d), NONE);
    }

    private static void fetch() {
        begin("19 fetch");
        WidenDesk x = told("z1", "w-3,*", "t12", "ob-5", "text", "mark");
        due("fetch(0,0)", x.fetch(0, 0), 0);
        dueHand(x, 2, 0, 1, NONE);
        due("fetch(1,0)", x.fetch(1, 0), 0);
        dueHand(x, 2, 4, -3, NONE);
        due("fetch(2,0)", x.fetch(2, 0), 0);
        dueHand(x, 4, 10, 12, NONE);
        due("fetch(3,0)", x.fetch(3, 0), 0);
        dueHand(x, 2, 1, -5, NONE);
        due("fetch(3,1)", x.fetch(3, 1), 1);
        due("fetch(3,-1)", x.fetch(3, -1), 1);
        due("fetch(4,0)", x.fetch(4, 0), 3);
        due("fetch(5,-1)", x.fetch(5, -1), 3);
        due("fetch(6,9)", x.fetch(6, 9), 5);
        due("fetch(10,0)", x.fetch(10, 0), UNKNOWN);
        due("fetch(-1,0)", x.fetch(-1, 0), UNKNOWN);
        dueHand(x, 2, 1, -5, NONE);
        due("fetch(1,1)", x.fetch(1, 1), 0);
        dueHand(x, 0, NONE, 0, NONE);
        x.make(7, 8, 1);
        x.mark(1, 4);
        x.lay(7, 0);
        x.text(0);
        due("fetch(7,0)", x.fetch(7, 0), 0);
        dueHand(x, 3, 9, 4, 0);
        due("about(1)", x.about(1), 8);
    }

    private static void lay() {
        WidenDesk x = begin("20 lay");
        for (int type = 0; type < 13; type++) {
            x = new WidenDesk();
            x.make(0, type, 1);
            for (int kind = 0; kind < 8; kind++) {
                int value = type > 7 ? 4 : widens(kind, type) ? 0 : 2;
                int box = type == 12 || type == 11 && kind == 4 || type < 8 && widens(kind, type) ? 0 : 2;
                x.give(kind, 0);
                due("lay(0,0) of value " + kind + " in " + type, x.lay(0, 0), value);
                due("lay(0,1) of value " + kind + " in " + type, x.lay(0, 1), value == 0 ? 1 : 6);
                x.turn();
                due("lay(0,0) of box " + kind + " in " + type, x.lay(0, 0), box);
                due("lay(0,-1) of box " + kind + " in " + type, x.lay(0, -1), box == 0 ? 1 : 6);
            }
        }
        int[][] want = {{8, 12}, {8, 9, 12}, {10, 12}, {8, 9, 10, 11, 12}};
        for (int form = 0; form < 4; form++) {
            x = new WidenDesk();
            if (form < 2) {
                x.mark(form, 50);
            } else if (form == 2) {
                x.text(50);
            }
            for (int type = 0; type < 13; type++) {
                int fit = form == 3 ? 7 : 2;
                for (int fine : want[form]) {
                    fit = fine == type ? 0 : fit;
                }
                x.make(0, type, 1);
                due("lay(0,0) of form " + form + " in " + type, x.lay(0, 0), fit);
                due("lay(0,1) of form " + form + " in " + type, x.lay(0, 1), fit == 0 ? 1 : fit == 7 ? 7 : 6);
                if (fit == 0 && form < 3) {
                    due("cell(0,0,1)", x.cell(0, 0, 1), 50);
                }
            }
            x.make(0, 13, 0);
            due("lay(0,0)", x.lay(0, 0), 3);
            x.make(0, 14, 0);
            due("lay(0,7)", x.lay(0, 7), 3);
            due("lay(1,0)", x.lay(1, 0), 5);
            due("lay(10,0)", x.lay(10, 0), UNKNOWN);
            due("lay(-1,0)", x.lay(-1, 0), UNKNOWN);
        }
        x = told("d1", "ob1,*", "f0");
        x.give(5, (1L << 53) + 1);
        due("lay(0,0)", x.lay(0, 0), 0);
        dueHand(x, 1, 5, (1L << 53) + 1, NONE);
        dueCells(x, 0, 7, bits(9007199254740992d));
        x.turn();
        due("lay(1,1)", x.lay(1, 1), 0);
        due("lay(2,0)", x.lay(2, 0), 0);
        dueCells(x, 1, 1, 1, 5, (1L << 53) + 1);
        dueCells(x, 2, 6, bits(9007199254740992f));
        due("about(1)", x.about(1), 6);
        due("lay(1,2)", x.lay(1, 2), 1);
        due("about(1)", x.about(1), 6);
    }

    private static void scatter() {
        WidenDesk x = begin("21 scatter");
        for (int type = 0; type < 8; type++) {
            for (long seed : new long[] {99, 0, -1, Long.MIN_VALUE}) {
                x = new WidenDesk();
                x.make(0, type, 6);
                due("scatter(0," + seed + ")", x.scatter(0, seed), 6);
                long state = seed;
                for (int place = 0; place < 6; place++) {
                    state = state * 6364136223846793005L + 1442695040888963407L;
                    x.give(type, state >> 20);
                    due("cell(0," + place + ",0)", x.cell(0, place, 0), type);
                    due("cell(0," + place + ",1)", x.cell(0, place, 1), x.hand(2));
                }
            }
        }
        x = told("j", "w1", "text");
        due("scatter(0,5)", x.scatter(0, 5), 0);
        due("about(1)", x.about(1), 4);
        due("scatter(1,5)", x.scatter(1, 5), LATE);
        due("scatter(2,5)", x.scatter(2, 5), LATE);
        due("scatter(3,5)", x.scatter(3, 5), LATE);
        due("scatter(10,5)", x.scatter(10, 5), UNKNOWN);
        due("scatter(-1,5)", x.scatter(-1, 5), UNKNOWN);
        due("about(1)", x.about(1), 4);
    }

    private static void dueConversion(String from, String to, int how, int... reasons) {
        WidenDesk x = told(from, to);
        int fine = 0;
        for (int reason : reasons) {
            fine += reason == 0 ? 1 : 0;
        }
        String call = "convert(0,1," + how + ") from " + from + " to " + to;
        due(call, x.convert(0, 1, how), fine);
        for (int place = 0; place < reasons.length; place++) {
            due(call + ", report(" + place + ")", x.report(place), reasons[place]);
        }
        due(call + ", report(" + reasons.length + ")", x.report(reasons.length), NONE);
        due(call + ", about(1)", x.about(1), fine > 0 ? 3 : 2);
        due(call + ", about(7)", x.about(7), fine);
    }

    private static void convert() {
        begin("22 convert");
        dueConversion("b1,2", "s0", 0, 0);
        dueConversion("b1,2", "c0,0", 0, 2, 2);
        dueConversion("b1,2", "c0,0", 1, 2, 2);
        dueConversion("b1,2", "o*,*,*", 0, 4, 4);
        dueConversion("b1,2", "o*,*,*", 1, 4, 4);
        dueConversion("j1,2", "o*,*,*", 0, 4, 4);
        dueConversion("j1,2", "o*,*,*", 1, 2, 2);
        dueConversion("b1,2", "o*,*,*", 2, 0, 0);
        dueConversion("i1,2", "w*,*,*", 0, 4, 4);
        dueConversion("i1,2", "w*,*,*", 2, 0, 0);
        dueConversion("b1,2", "w*,*,*", 2, 2, 2);
        dueConversion("b1,2", "w*,*,*", 3, 2, 2);
        dueConversion("w1,*", "i0,0", 0, 4, 4);
        dueConversion("w1,*", "i0,0", 1, 4, 4);
        dueConversion("w1,*", "i0,0", 2, 0, 7);
        dueConversion("w1,*", "s0,0", 2, 2, 7);
        dueConversion("w1,*", "s0,0", 3, 0, 7);
        dueConversion("oz1,b1,t5,*", "z0,0,0,0", 2, 0, 2, 2, 7);
        dueConversion("oz1,b1,t5,*", "z0,0,0,0", 3, 0, 2, 2, 7);
        dueConversion("oz1,b1,t5,*", "i9,9,9,9", 3, 2, 0, 2, 7);
        dueConversion("oz1,b1,t5,*", "t1,2,3,4", 2, 2, 2, 0, 0);
        dueConversion("i127,128,-128,-129", "b0,0,0,0", 3, 0, 8, 0, 8);
        dueConversion("i-1,0,65535,65536", "c0,0,0,0", 3, 8, 0, 0, 8);
        dueConversion("i32767,32768,-32768,-32769", "s0,0,0,0", 3, 0, 8, 0, 8);
        dueConversion("i16777216,16777217,16777218,-16777217", "f0,0,0,0", 3, 0, 8, 0, 8);
        dueConversion("i16777216,16777217", "f0,0", 2, 0, 0);
        dueConversion("i16777216,16777217", "d0,0", 3, 0, 0);
        dueConversion("d16777216,16777217,0,-3", "f9,9,9,9", 3, 0, 8, 0, 0);
        dueConversion("f1,-7,300,0", "b9,9,9,9", 3, 0, 0, 8, 0);
        dueConversion("f5,-5,0", "d0,0,1", 3, 0, 0, 0);
        dueConversion("f", "d0", 3);
        dueConversion("z1", "z0", 3, 0);
        dueConversion("z1", "i0", 3, 2);
        dueConversion("i1", "z0", 3, 2);
        exactEdges();
        convertState();
    }

    /** Numbers that no text can tell: fractions, and the ends of the ranges of int and long. */
    private static void exactEdges() {
        long[][] cases = {
            // kind, v, other kind, 1 if it has the number
            {7, 8, 5, 1}, {7, 9, 5, 0}, {7, 4, 5, 0}, {7, 1, 6, 1}, {6, -4, 7, 1}, {6, 12, 4, 0}, {6, -16, 2, 0}, {6, 16, 2, 1},
            {5, Long.MAX_VALUE, 7, 0}, {5, Long.MAX_VALUE, 6, 0}, {5, Long.MIN_VALUE, 7, 1}, {5, Long.MIN_VALUE, 6, 1},
            {5, (1L << 53) + 1, 7, 0}, {5, (1L << 53) + 2, 7, 1}, {5, 1L << 62, 6, 1}, {5, (1L << 62) + (1L << 39), 6, 1},
            {5, (1L << 62) + (1L << 38), 6, 0}, {5, 1L << 31, 4, 0}, {5, -(1L << 31), 4, 1}, {5, (1L << 31) - 1, 4, 1},
            {7, 8L << 31, 4, 0}, {7, -8L << 31, 4, 1}, {7, (8L << 31) - 8, 4, 1}, {7, Long.MAX_VALUE, 5, 1},
            {7, Long.MIN_VALUE, 5, 1}, {7, Long.MIN_VALUE, 6, 1}, {7, Long.MAX_VALUE, 6, 1}, {7, (1L << 53) - 1, 5, 0},
            {7, (1L << 53) - 8, 5, 1}, {7, (1L << 53) - 8, 6, 0}, {6, (1L << 24) - 1, 5, 0}, {6, (1L << 24) - 8, 5, 1},
            {6, (1L << 27) + 8, 5, 1}, {4, 1 << 24, 6, 1}, {4, (1 << 24) + 1, 6, 0}, {4, Integer.MAX_VALUE, 6, 0},
            {4, Integer.MAX_VALUE, 7, 1}, {4, Integer.MIN_VALUE, 6, 1}, {4, -5, 5, 1}, {4, -5, 2, 0}, {2, 65535, 3, 0}, {2, 65535, 4, 1},
            {1, -1, 2, 0}, {1, -1, 3, 1}, {3, 200, 1, 0}, {7, (1L << 52) + 1, 6, 0}, {7, (1L << 54) + 4, 5, 0}, {7, -16, 6, 1},
            {7, 0, 6, 1}, {7, 8L * ((1 << 24) + 1), 6, 0}, {7, 8L * ((1 << 24) + 2), 6, 1}, {5, -(1L << 31) - 1, 4, 0}};
        for (long[] c : cases) {
            WidenDesk x = new WidenDesk();
            x.make(0, (int) c[0], 1);
            x.make(1, (int) c[2], 1);
            x.make(2, (int) c[0], 1);
            x.give((int) c[0], c[1]);
            x.lay(0, 0);
            String call = "convert(0,1,3) of " + c[1] + " as " + c[0] + " to " + c[2];
            due(call, x.convert(0, 1, 3), c[3]);
            due(call + ", report(0)", x.report(0), c[3] == 1 ? 0 : 8);
            due(call + " and back", x.convert(1, 2, 3), 1);
            due(call + " and back, alike(0,2)", x.alike(0, 2), c[3] == 1 ? NONE : 0);
        }
        // 2^63 is the float and double nearest to the greatest long, which is less
        for (int kind = 6; kind < 8; kind++) {
            WidenDesk x = new WidenDesk();
            x.make(0, 5, 1);
            x.make(1, kind, 1);
            x.give(5, Long.MAX_VALUE);
            x.lay(0, 0);
            due("convert(0,1,2)", x.convert(0, 1, 2), 1);
            due("convert(1,0,3)", x.convert(1, 0, 3), 0);
            due("report(0)", x.report(0), 8);
            x.give(5, Long.MIN_VALUE);
            x.lay(0, 0);
            due("convert(0,1,2)", x.convert(0, 1, 2), 1);
            x.scatter(0, 3);
            due("convert(1,0,3)", x.convert(1, 0, 3), 1);
            due("cell(0,0,1)", x.cell(0, 0, 1), Long.MIN_VALUE);
        }
    }

    private static void convertState() {
        WidenDesk x = told("i300,5,-7", "b1,2,3", "f-3", "text");
        x.text(6);
        due("convert(0,1,3)", x.convert(0, 1, 3), 2);
        dueCells(x, 1, 1, 1, 1, 5, 1, -7);
        dueCells(x, 0, 4, 300, 4, 5, 4, -7);
        due("convert(2,1,3)", x.convert(2, 1, 3), 1);
        dueCells(x, 1, 1, -3, 1, 5, 1, -7);
        due("report(1)", x.report(1), NONE);
        due("convert(0,2,3)", x.convert(0, 2, 3), 1);
        dueCells(x, 2, 6, bits(300f));
        due("convert(0,0,0)", x.convert(0, 0, 0), 3);
        due("about(1)", x.about(1), 8);
        due("convert(0,3,0)", x.convert(0, 3, 0), LATE);
        due("convert(3,0,4)", x.convert(3, 0, 4), LATE);
        due("convert(9,0,4)", x.convert(9, 0, 4), LATE);
        due("convert(0,1,4)", x.convert(0, 1, 4), BAD);
        due("convert(0,1,-1)", x.convert(0, 1, -1), BAD);
        due("convert(10,3,4)", x.convert(10, 3, 4), UNKNOWN);
        due("convert(3,-1,4)", x.convert(3, -1, 4), UNKNOWN);
        due("about(7)", x.about(7), 3);
        due("about(1)", x.about(1), 8);
        due("convert(0,1,2)", x.convert(0, 1, 2), 0);
        due("about(1)", x.about(1), 8);
        due("report(2)", x.report(2), 2);
        dueHand(x, 4, 10, 6, NONE);
        x = told("ob1,s2,j3", "i7,7,7");
        due("convert(0,1,2)", x.convert(0, 1, 2), 2);
        dueCells(x, 1, 4, 1, 4, 2, 4, 7);
        due("undo()", x.undo(), 2);
        dueCells(x, 1, 4, 7, 4, 7, 4, 7);
        due("report(2)", x.report(2), 2);
    }

    private static void report() {
        begin("23 report");
        WidenDesk x = told("o*,z1,b2,t3,i4,j5", "s1,1,1,1,1,1");
        due("report(0)", x.report(0), NONE);
        x.convert(0, 1, 3);
        int[] want = {7, 2, 0, 2, 0, 0};
        for (int place = 0; place < 6; place++) {
            due("report(" + place + ")", x.report(place), want[place]);
        }
        due("report(6)", x.report(6), NONE);
        due("report(-1)", x.report(-1), NONE);
        due("report(2147483647)", x.report(2147483647), NONE);
        due("report(-2147483648)", x.report(-2147483648), NONE);
        x.undo();
        due("report(0)", x.report(0), 7);
        x.make(2, 4, 0);
        x.convert(2, 1, 0);
        due("report(0)", x.report(0), NONE);
    }

    private static void chains() {
        WidenDesk x = begin("24 chains");
        int[][] want = {{1, 0, 0, 0, 0, 0, 0, 0}, {0, 1, 0, 1, 2, 4, 8, 16}, {0, 0, 1, 0, 1, 2, 4, 8}, {0, 0, 0, 1, 1, 2, 4, 8},
            {0, 0, 0, 0, 1, 1, 2, 4}, {0, 0, 0, 0, 0, 1, 1, 2}, {0, 0, 0, 0, 0, 0, 1, 1}, {0, 0, 0, 0, 0, 0, 0, 1}};
        for (int from = 0; from < 8; from++) {
            for (int to = 0; to < 8; to++) {
                due("chains(" + from + "," + to + ")", x.chains(from, to), want[from][to]);
            }
        }
        due("chains(-1,0)", x.chains(-1, 0), BAD);
        due("chains(8,8)", x.chains(8, 8), BAD);
        due("chains(0,8)", x.chains(0, 8), BAD);
        due("chains(0,-1)", x.chains(0, -1), BAD);
    }

    private static void carry() {
        begin("25 carry");
        WidenDesk x = told("i16777217", "ob5,*,t5", "text", "w-9", "z1");
        due("carry(0,0,78)", x.carry(0, 0, 78), 0);
        dueHand(x, 1, 7, bits(16777216d), NONE);
        due("carry(0,0,8)", x.carry(0, 0, 8), 0);
        dueHand(x, 1, 7, bits(16777217d), NONE);
        due("carry(0,0,5)", x.carry(0, 0, 5), 0);
        dueHand(x, 1, 4, 16777217, NONE);
        due("carry(1,0,245678)", x.carry(1, 0, 245678), 0);
        dueHand(x, 1, 7, bits(5d), NONE);
        due("carry(1,0,222222)", x.carry(1, 0, 222222), 0);
        dueHand(x, 1, 1, 5, NONE);
        due("carry(3,0,66)", x.carry(3, 0, 66), 0);
        dueHand(x, 1, 5, -9, NONE);
        due("carry(4,0,1)", x.carry(4, 0, 1), 0);
        dueHand(x, 1, 0, 1, NONE);
        due("carry(4,0,12)", x.carry(4, 0, 12), 2);
        due("carry(0,0,56787)", x.carry(0, 0, 56787), 2);
        due("carry(0,0,4)", x.carry(0, 0, 4), 2);
        due("carry(1,0,23)", x.carry(1, 0, 23), 2);
        due("carry(1,1,8)", x.carry(1, 1, 8), 7);
        due("carry(1,2,8)", x.carry(1, 2, 8), 2);
        due("carry(1,3,1)", x.carry(1, 3, 1), 1);
        due("carry(1,-1,1)", x.carry(1, -1, 1), 1);
        due("carry(2,0,1)", x.carry(2, 0, 1), 3);
        due("carry(9,0,1)", x.carry(9, 0, 1), 5);
        int[] ways = {0, -1, 9, 10, 80, 108, 98, 888889, 1111111, 8888888, -8, -2147483648, 2147483647};
        for (int way : ways) {
            due("carry(9,0," + way + ")", x.carry(9, 0, way), BAD);
        }
        due("carry(10,0,0)", x.carry(10, 0, 0), UNKNOWN);
        due("carry(-1,0,1)", x.carry(-1, 0, 1), UNKNOWN);
        dueHand(x, 1, 0, 1, NONE);
        x.make(5, 8, 1);
        x.mark(0, 1);
        x.lay(5, 0);
        due("carry(5,0,8)", x.carry(5, 0, 8), 2);
        dueHand(x, 3, 8, 1, 0);
        int acts = x.about(1);
        x.carry(0, 0, 8);
        due("about(1)", x.about(1), acts);
        due("carry(0,0,888888)", x.carry(0, 0, 888888), 0);
    }

    private static void ends() {
        begin("26 ends");
        WidenDesk x = told("i16777217,16777216", "j999999999,5", "b5", "ot5,*,i16777217,z1", "f33", "text", "w16777219,*", "c65535");
        due("ends(0,0,7)", x.ends(0, 0, 7), 2);
        due("ends(0,1,7)", x.ends(0, 1, 7), 1);
        due("ends(0,0,6)", x.ends(0, 0, 6), 1);
        due("ends(0,0,4)", x.ends(0, 0, 4), 1);
        due("ends(0,0,3)", x.ends(0, 0, 3), 0);
        due("ends(1,0,7)", x.ends(1, 0, 7), 2);
        due("ends(1,1,7)", x.ends(1, 1, 7), 1);
        due("ends(2,0,7)", x.ends(2, 0, 7), 1);
        due("ends(2,0,2)", x.ends(2, 0, 2), 0);
        due("ends(3,0,7)", x.ends(3, 0, 7), NONE);
        due("ends(3,1,7)", x.ends(3, 1, 7), NONE);
        due("ends(3,2,7)", x.ends(3, 2, 7), 2);
        due("ends(3,3,7)", x.ends(3, 3, 7), 0);
        due("ends(3,3,0)", x.ends(3, 3, 0), 1);
        due("ends(3,4,0)", x.ends(3, 4, 0), NONE);
        due("ends(3,-1,0)", x.ends(3, -1, 0), NONE);
        due("ends(4,0,7)", x.ends(4, 0, 7), 1);
        due("ends(4,0,5)", x.ends(4, 0, 5), 0);
        due("ends(5,0,5)", x.ends(5, 0, 5), NONE);
        due("ends(6,0,7)", x.ends(6, 0, 7), 2);
        due("ends(6,1,7)", x.ends(6, 1, 7), NONE);
        due("ends(7,0,7)", x.ends(7, 0, 7), 1);
        due("ends(9,0,5)", x.ends(9, 0, 5), NONE);
        due("ends(9,0,8)", x.ends(9, 0, 8), BAD);
        due("ends(9,0,-1)", x.ends(9, 0, -1), BAD);
        due("ends(10,0,8)", x.ends(10, 0, 8), UNKNOWN);
        due("ends(-1,0,0)", x.ends(-1, 0, 0), UNKNOWN);
    }

    private static void least() {
        begin("27 least");
        WidenDesk x = told("z", "b", "c", "s", "i", "j", "f", "d", "w", "text");
        int[][] want = {{0}, {NONE, 1}, {NONE, 4, 2}, {NONE, 3, 4, 3}, {NONE, 4, 4, 4, 4}, {NONE, 5, 5, 5, 5, 5},
            {NONE, 6, 6, 6, 6, 6, 6}, {NONE, 7, 7, 7, 7, 7, 7, 7}};
        for (int one = 0; one < 8; one++) {
            for (int other = 0; other <= one; other++) {
                int set = 1 << one | 1 << other;
                due("least(" + set + ")", x.least(set), want[one][other]);
            }
        }
        due("least(14)", x.least(14), 4);
        due("least(254)", x.least(254), 7);
        due("least(255)", x.least(255), NONE);
        due("least(256)", x.least(256), LATE);
        due("least(513)", x.least(513), LATE);
        due("least(1023)", x.least(1023), LATE);
        x.make(9, 15, 0);
        due("least(516)", x.least(516), LATE);
        x.make(9, 3, 0);
        due("least(516)", x.least(516), 4);
        due("least(0)", x.least(0), BAD);
        due("least(1024)", x.least(1024), BAD);
        due("least(-1)", x.least(-1), BAD);
    }

    private static void join() {
        begin("28 join");
        WidenDesk x = told("b1,-2", "c7", "z1", "i16777217", "f1", "w5,*", "ot3", "text");
        due("join(0,1,9)", x.join(0, 1, 9), 4);
        dueCells(x, 9, 4, 1, 4, -2, 4, 7);
        due("join(0,2,9)", x.join(0, 2, 9), 12);
        dueCells(x, 9, 1, 1, 1, -2, 0, 1);
        due("join(3,4,9)", x.join(3, 4, 9), 6);
        dueCells(x, 9, 6, bits(16777216f), 6, bits(1f));
        due("join(2,2,9)", x.join(2, 2, 9), 0);
        dueCells(x, 9, 0, 1, 0, 1);
        due("undo()", x.undo(), 11);
        due("join(5,5,9)", x.join(5, 5, 9), 11);
        dueCells(x, 9, 4, 5, NONE, 0, 4, 5, NONE, 0);
        due("undo()", x.undo(), 11);
        due("join(5,3,9)", x.join(5, 3, 9), 12);
        dueCells(x, 9, 4, 5, NONE, 0, 4, 16777217);
        due("join(6,6,6)", x.join(6, 6, 6), 12);
        dueCells(x, 6, 10, 3, 10, 3);
        due("join(6,5,5)", x.join(6, 5, 5), 12);
        dueCells(x, 5, 10, 3, 10, 3, 4, 5, NONE, 0);
        due("undo()", x.undo(), 13);
        due("undo()", x.undo(), 12);
        due("join(0,0,9)", x.join(0, 0, 9), 1);
        due("about(1)", x.about(1), 13);
        due("join(0,7,9)", x.join(0, 7, 9), LATE);
        due("join(8,0,9)", x.join(8, 0, 9), LATE);
        due("join(10,7,0)", x.join(10, 7, 0), UNKNOWN);
        due("join(7,10,0)", x.join(7, 10, 0), UNKNOWN);
        due("join(7,0,10)", x.join(7, 0, 10), UNKNOWN);
        due("join(0,-1,0)", x.join(0, -1, 0), UNKNOWN);
        due("join(9,9,9)", x.join(9, 9, 9), FULL);
        due("join(9,9,10)", x.join(9, 9, 10), UNKNOWN);
        due("join(9,7,9)", x.join(9, 7, 9), LATE);
        dueCells(x, 9, 1, 1, 1, -2, 1, 1, 1, -2);
        due("about(1)", x.about(1), 13);
        int[][] marks = {{8, 8, 8}, {8, 9, 8}, {9, 8, 8}, {9, 9, 9}, {8, 12, 12}, {12, 9, 12}, {8, 10, 12}, {9, 4, 12}, {10, 10, 10}};
        for (int[] types : marks) {
            x = new WidenDesk();
            x.make(0, types[0], 1);
            x.make(1, types[1], 1);
            x.mark(1, 3);
            x.lay(0, 0);
            due("join of " + types[0] + " and " + types[1], x.join(0, 1, 2), types[2]);
            due("thing(2,0)", x.thing(2, 0), types[2]);
            due("cell(2,0,2)", x.cell(2, 0, 2), types[0] == 10 ? NONE : 0);
        }
        x = told("b", "i1,2,3,4,5,6");
        due("join(0,1,1)", x.join(0, 1, 1), 4);
        due("thing(1,1)", x.thing(1, 1), 6);
        due("join(0,0,3)", x.join(0, 0, 3), 1);
        due("thing(3,1)", x.thing(3, 1), 0);
    }

    private static void cut() {
        begin("29 cut");
        WidenDesk x = told("i1,2,3,4,5,6", "o*,t4,b5", "text");
        due("cut(0,3,6)", x.cut(0, 3, 6), 4);
        dueCells(x, 3, 4, 1, 4, 2, 4, 3, 4, 4, 4, 5, 4, 6);
        due("same(0,3)", x.same(0, 3), 0);
        due("cut(0,3,23)", x.cut(0, 3, 23), 4);
        dueCells(x, 3, 4, 3, 4, 4, 4, 5);
        due("cut(0,3,51)", x.cut(0, 3, 51), 4);
        dueCells(x, 3, 4, 6);
        due("cut(0,3,60)", x.cut(0, 3, 60), 4);
        due("thing(3,1)", x.thing(3, 1), 0);
        due("cut(0,3,0)", x.cut(0, 3, 0), 4);
        due("cut(1,1,12)", x.cut(1, 1, 12), 12);
        dueCells(x, 1, 10, 4, 1, 5);
        int acts = x.about(1);
        int[] spans = {7, 16, 52, 61, 70, -1, -10, 9, 2147483647, -2147483648, 100};
        for (int span : spans) {
            due("cut(0,3," + span + ")", x.cut(0, 3, span), BAD);
        }
        due("cut(2,3,-1)", x.cut(2, 3, -1), LATE);
        due("cut(9,3,0)", x.cut(9, 3, 0), LATE);
        due("cut(10,0,-1)", x.cut(10, 0, -1), UNKNOWN);
        due("cut(2,-1,0)", x.cut(2, -1, 0), UNKNOWN);
        due("about(1)", x.about(1), acts);
    }

    private static void alike() {
        begin("30 alike");
        String[][] pairs = {{"b1,2", "d1,2"}, {"i16777217", "f16777217"}, {"ob1,i2,*,t3", "oj1,f2,*,t3"}, {"w5,*", "oi5,*"}, {"z1", "oz1"},
            {"c65", "b65"}, {"b", "o"}, {"j5", "j5"}};
        for (String[] pair : pairs) {
            WidenDesk x = told(pair[0], pair[1]);
            due("alike(0,1) of " + pair[0] + " and " + pair[1], x.alike(0, 1), NONE);
            due("alike(1,0) of " + pair[0] + " and " + pair[1], x.alike(1, 0), NONE);
            due("alike(0,0)", x.alike(0, 0), NONE);
        }
        String[][] others = {{"b1,2", "b1,3"}, {"i1,16777217", "d1,16777216"}, {"o*,*", "o*,t0"}, {"o*,i0", "o*,*"}, {"ot1,t5", "oi1,i5"},
            {"oi4,z1", "oi4,i1"}, {"b1,2", "b1"}, {"t1,2", "t1,3"}, {"z1,0,1", "z1,1"}, {"s1,-1", "oc1,c65535"}};
        int[] want = {1, 1, 1, 1, 0, 1, 1, 1, 1, 1};
        for (int i = 0; i < others.length; i++) {
            WidenDesk x = told(others[i]);
            due("alike(0,1) of " + others[i][0] + " and " + others[i][1], x.alike(0, 1), want[i]);
            due("alike(1,0) of " + others[i][0] + " and " + others[i][1], x.alike(1, 0), want[i]);
        }
        WidenDesk x = told("i1", "text");
        due("alike(0,1)", x.alike(0, 1), LATE);
        due("alike(2,0)", x.alike(2, 0), LATE);
        due("alike(1,10)", x.alike(1, 10), UNKNOWN);
        due("alike(-1,2)", x.alike(-1, 2), UNKNOWN);
        x.make(3, 8, 1);
        x.make(4, 12, 1);
        x.mark(0, 5);
        x.lay(3, 0);
        x.lay(4, 0);
        due("alike(3,4)", x.alike(3, 4), NONE);
        x.mark(0, 5);
        x.lay(4, 0);
        due("alike(3,4)", x.alike(3, 4), 0);
        x.text(1);
        x.lay(4, 0);
        due("alike(3,4)", x.alike(3, 4), 0);
    }

    private static void unlike() {
        begin("31 unlike");
        String[] texts = {"b1,2,1,3", "o*,*,t0,i0,b0,t0", "z0,1,0", "d", "t5,5,5", "w*,1,*,1,2", "f16777216,16777217"};
        int[] want = {3, 4, 2, 0, 1, 3, 1};
        for (int i = 0; i < texts.length; i++) {
            due("unlike(0) of " + texts[i], told(texts[i]).unlike(0), want[i]);
        }
        WidenDesk x = told("text");
        due("unlike(0)", x.unlike(0), LATE);
        due("unlike(1)", x.unlike(1), LATE);
        due("unlike(10)", x.unlike(10), UNKNOWN);
        due("unlike(-1)", x.unlike(-1), UNKNOWN);
        x.make(2, 8, 4);
        x.mark(0, 5);
        x.lay(2, 0);
        x.lay(2, 3);
        x.mark(0, 5);
        x.lay(2, 1);
        due("unlike(2)", x.unlike(2), 3);
    }

    private static void total() {
        begin("32 total");
        WidenDesk x = told("b127,127,-1", "c65535,1", "j999999999", "f1", "w1", "w", "z1", "text", "d");
        due("total(0,4)", x.total(0, 4), 0);
        dueHand(x, 1, 4, 253, NONE);
        due("total(1,5)", x.total(1, 5), 0);
        dueHand(x, 1, 5, 65536, NONE);
        due("total(2,4)", x.total(2, 4), 2);
        due("total(3,5)", x.total(3, 5), 2);
        due("total(4,4)", x.total(4, 4), 4);
        due("total(6,4)", x.total(6, 4), 2);
        due("total(7,4)", x.total(7, 4), 3);
        due("total(9,4)", x.total(9, 4), 5);
        due("about(1)", x.about(1), 9);
        dueHand(x, 1, 5, 65536, NONE);
        due("total(5,4)", x.total(5, 4), 0);
        dueHand(x, 1, 4, 0, NONE);
        due("total(8,5)", x.total(8, 5), 0);
        dueHand(x, 1, 5, 0, NONE);
        for (int kind : new int[] {-1, 0, 3, 6, 7, 8}) {
            due("total(9," + kind + ")", x.total(9, kind), BAD);
        }
        due("total(10,3)", x.total(10, 3), UNKNOWN);
        due("total(-1,4)", x.total(-1, 4), UNKNOWN);
        x.make(0, 4, 3);
        x.give(4, 2147483647);
        x.lay(0, 0);
        x.lay(0, 1);
        x.lay(0, 2);
        due("total(0,4)", x.total(0, 4), 0);
        dueHand(x, 1, 4, 2147483645, NONE);
        due("total(0,5)", x.total(0, 5), 0);
        dueHand(x, 1, 5, 6442450941L, NONE);
        x.make(1, 5, 2);
        x.give(5, Long.MAX_VALUE);
        x.lay(1, 0);
        x.lay(1, 1);
        due("total(1,5)", x.total(1, 5), 0);
        dueHand(x, 1, 5, -2, NONE);
    }

    private static void see() {
        WidenDesk x = begin("33 see");
        due("see(-1,0,0)", x.see(-1, 0, 0), BAD);
        due("see(3,0,0)", x.see(3, 0, 0), BAD);
        due("see(0,-1,0)", x.see(0, -1, 0), BAD);
        due("see(0,8,0)", x.see(0, 8, 0), BAD);
        due("see(0,0,-1)", x.see(0, 0, -1), BAD);
        due("see(0,0,6)", x.see(0, 0, 6), BAD);
        due("about(2)", x.about(2), 0);
        for (int i = 1; i <= 6; i++) {
            due("see(2,7,5)", x.see(2, 7, 5), i);
        }
        due("see(0,0,0)", x.see(0, 0, 0), FULL);
        due("see(0,0,6)", x.see(0, 0, 6), BAD);
        due("about(2)", x.about(2), 6);
        due("which()", x.which(), 1 << 15);
        due("about(1)", x.about(1), 0);
    }

    private static void unsee() {
        WidenDesk x = begin("34 unsee");
        due("unsee()", x.unsee(), 0);
        x.see(0, 0, 1);
        x.see(0, 1, 0);
        due("which()", x.which(), 0);
        due("unsee()", x.unsee(), 2);
        due("about(2)", x.about(2), 0);
        due("which()", x.which(), 65535);
        due("see(1,1,3)", x.see(1, 1, 3), 1);
        due("unsee()", x.unsee(), 1);
        due("unsee()", x.unsee(), 0);
    }

    private static void which() {
        WidenDesk x = begin("35 which");
        due("which()", x.which(), 65535);
        for (int how = 0; how < 3; how++) {
            for (int kind = 0; kind < 8; kind++) {
                int[] sets = new int[6];
                x = new WidenDesk();
                for (int thing = 0; thing < 16; thing++) {
                    x.make(0, thing, thing < 13 ? 1 : 0);
                    x.give(kind, 0);
                    if (how == 2) {
                        x.turn();
                    }
                    sets[how == 0 ? x.take(0, 0, kind) : x.lay(0, 0)] |= 1 << thing;
                }
                for (int reason = 0; reason < 6; reason++) {
                    x.unsee();
                    x.see(how, kind, reason);
                    due("which() of " + how + "," + kind + "," + reason, x.which(), sets[reason]);
                }
            }
        }
        x.unsee();
        x.see(0, 4, 0);
        due("which()", x.which(), 0b11110);
        x.see(1, 1, 0);
        due("which()", x.which(), 0b11010);
        x.see(2, 3, 2);
        due("which()", x.which(), 0b10);
        x.unsee();
        x.see(2, 4, 0);
        x.see(1, 4, 4);
        due("which()", x.which(), 1 << 11 | 1 << 12);
        x.see(2, 3, 2);
        due("which()", x.which(), 1 << 11);
        x.unsee();
        x.see(0, 4, 1);
        due("which()", x.which(), 0);
        x.unsee();
        x.see(1, 0, 3);
        due("which()", x.which(), 1 << 13 | 1 << 14);
    }

    private static void undo() {
        WidenDesk x = begin("36 undo");
        due("undo()", x.undo(), LATE);
        x.make(0, 4, 3);
        x.make(1, 12, 2);
        x.mark(1, 5);
        x.lay(1, 0);
        x.grow(6);
        x.scatter(0, 7);
        spell(x, "b1,2");
        x.tell(0);
        x.share(0, 2);
        x.join(0, 2, 3);
        x.cut(3, 3, 12);
        x.convert(3, 0, 2);
        due("about(1)", x.about(1), 10);
        dueCells(x, 0, 1, 2, 1, 1);
        due("undo()", x.undo(), 9);
        dueCells(x, 2, 1, 1, 1, 2);
        dueCells(x, 3, 1, 2, 1, 1);
        due("undo()", x.undo(), 8);
        dueCells(x, 3, 1, 1, 1, 2, 1, 1, 1, 2);
        due("undo()", x.undo(), 7);
        due("thing(3,0)", x.thing(3, 0), 15);
        due("undo()", x.undo(), 6);
        due("thing(2,0)", x.thing(2, 0), 15);
        due("undo()", x.undo(), 5);
        due("thing(0,0)", x.thing(0, 0), 4);
        due("about(3)", x.about(3), 4);
        due("undo()", x.undo(), 4);
        dueCells(x, 0, 4, 0, 4, 0, 4, 0);
        due("undo()", x.undo(), 3);
        dueHand(x, 3, 9, 5, 0);
        dueCells(x, 1, 9, 5, NONE, 0);
        due("undo()", x.undo(), 2);
        dueCells(x, 1, NONE, 0, NONE, 0);
        due("about(0)", x.about(0), 1);
        due("about(7)", x.about(7), 2);
        due("undo()", x.undo(), 1);
        due("undo()", x.undo(), 0);
        due("about(6)", x.about(6), 10);
        due("undo()", x.undo(), LATE);
        dueHand(x, 3, 9, 5, 0);
        keepsFourteen();
        keepsDroppedArrays();
        keepsTheOldestArray();
        nothingStaysNothing();
    }

    private static void keepsFourteen() {
        WidenDesk x = new WidenDesk();
        x.make(0, 4, 1);
        for (int i = 1; i <= 20; i++) {
            x.give(4, i);
            x.lay(0, 0);
        }
        for (int i = 13; i >= 0; i--) {
            due("undo()", x.undo(), i);
            due("cell(0,0,1)", x.cell(0, 0, 1), i + 6);
        }
        due("undo()", x.undo(), LATE);
        x.lay(0, 0);
        due("undo()", x.undo(), 0);
        due("cell(0,0,1)", x.cell(0, 0, 1), 6);
    }

    private static void dueFilled(WidenDesk x, int slot, long code) {
        dueCells(x, slot, 4, code, 4, code);
    }

    /** As many arrays as can be held at once: one in each slot, and one for each act that is kept. */
    private static void keepsDroppedArrays() {
        WidenDesk x = new WidenDesk();
        for (int i = 0; i < 30; i++) {
            spell(x, "i" + i + "," + i);
            x.tell(i % 10);
        }
        for (int slot = 0; slot < 10; slot++) {
            dueFilled(x, slot, slot + 20);
        }
        for (int i = 13; i >= 0; i--) {
            due("undo()", x.undo(), i);
            dueFilled(x, (i + 16) % 10, i + 6);
        }
        for (int slot = 0; slot < 10; slot++) {
            dueFilled(x, slot, slot < 6 ? slot + 10 : slot);
        }
    }

    /** The oldest act that is kept still holds its array when newer acts were undone and others follow. */
    private static void keepsTheOldestArray() {
        WidenDesk x = new WidenDesk();
        for (int i = 0; i < 16; i++) {
            spell(x, "i" + i + "," + i);
            x.tell(0);
        }
        x.undo();
        x.undo();
        x.undo();
        for (int i = 1; i < 4; i++) {
            due("make(" + i + ",7,6)", x.make(i, 7, 6), 15);
        }
        for (int i = 13; i >= 0; i--) {
            due("undo()", x.undo(), i);
        }
        dueFilled(x, 0, 1);
    }

    private static void nothingStaysNothing() {
        WidenDesk x = new WidenDesk();
        for (int i = 0; i < 30; i++) {
            x.make(i % 10, 4, 2);
        }
        due("make(0,15,0)", x.make(0, 15, 0), 4);
        due("thing(0,0)", x.thing(0, 0), 15);
        due("thing(0,1)", x.thing(0, 1), NONE);
        due("about(6)", x.about(6), 1);
    }

    public static void main(String[] args) {
        examples();
        newObject();
        write();
        wipe();
        fault();
        tell();
        about();
        make();
        share();
        thing();
        same();
        cell();
        give();
        mark();
        text();
        turn();
        hand();
        grow();
        take();
        fetch();
        lay();
        scatter();
        convert();
        report();
        chains();
        carry();
        ends();
        least();
        join();
        cut();
        alike();
        unlike();
        total();
        see();
        unsee();
        which();
        undo();
        System.out.println(wrong == 0 ? "all answers are as due" : wrong + " answers are not as due");
        if (wrong != 0) {
            System.exit(1);
        }
    }
}
