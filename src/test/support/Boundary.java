import java.io.IOException;
import java.lang.annotation.ElementType;
import java.lang.annotation.Retention;
import java.lang.annotation.RetentionPolicy;
import java.lang.annotation.Target;
import java.lang.reflect.InvocationTargetException;
import java.lang.reflect.Method;
import java.nio.file.Files;
import java.nio.file.Path;
import java.util.ArrayList;
import java.util.Arrays;
import java.util.Comparator;
import java.util.List;

/**
 * What the boundary tests share. A boundary test is a static method that is named by its promise, promise01 to
 * promise36, and that quotes the sentences of the document to which it holds the class.
 */
class Boundary {
    static final int UNKNOWN = -1, BAD = -2, LATE = -3, FULL = -4, NONE = -9;
    static final int LEAST = Integer.MIN_VALUE, GREATEST = Integer.MAX_VALUE;
    static final int[] NO_SLOTS = {-1, 10, LEAST, GREATEST};
    static final int[] EDGE_SLOTS = {0, 9};

    private static final Path DOCUMENT = Path.of("../shared/DOC.md");
    private static int wrong = 0;
    private static String test = "";

    /** The sentences of the document, or parts of them, that would be broken if the test failed. */
    @Retention(RetentionPolicy.RUNTIME)
    @Target(ElementType.METHOD)
    @interface Says {
        String[] value();
    }

    interface Call {
        long on(WidenDesk x);
    }

    interface Setup {
        WidenDesk made();
    }

    // ---- running

    /** Runs the tests of a class; each of the promises from the first to the last one must have one. */
    static void run(Class<?> tests, int first, int last) throws IOException {
        Method[] methods = tests.getDeclaredMethods();
        Arrays.sort(methods, Comparator.comparing(Method::getName));
        boolean[] tested = new boolean[37];
        int count = 0;
        for (Method method : methods) {
            if (method.isAnnotationPresent(Says.class)) {
                test = method.getName();
                tested[promiseOf(test)] = true;
                count++;
                checkSentences(method.getAnnotation(Says.class).value());
                invoke(method);
            }
        }
        test = tests.getName();
        for (int promise = first; promise <= last; promise++) {
            due("tests of promise " + promise + ", 1 if there are any", tested[promise] ? 1 : 0, 1);
        }
        System.out.println(count + " tests, " + (wrong == 0 ? "all answers are as due" : wrong + " answers are not as due"));
        if (wrong != 0) {
            System.exit(1);
        }
    }

    private static int promiseOf(String name) {
        if (!name.matches("promise(0[1-9]|[12][0-9]|3[0-6])[A-Z].*")) {
            throw new IllegalStateException("a test that is not named by its promise: " + name);
        }
        return Integer.parseInt(name.substring(7, 9));
    }

    private static void checkSentences(String[] sentences) throws IOException {
        String document = Files.readString(DOCUMENT).replaceAll("\\s+", " ");
        for (String sentence : sentences) {
            due("the document says \"" + sentence + "\", 1 if so", document.contains(sentence) ? 1 : 0, 1);
        }
    }

    private static void invoke(Method method) {
        try {
            method.setAccessible(true);
            method.invoke(null);
        } catch (InvocationTargetException e) {
            wrong++;
            System.out.println(test + ": threw " + e.getCause());
        } catch (IllegalAccessException e) {
            throw new IllegalStateException(e);
        }
    }

    // ---- checks

    static void due(String call, long got, long want) {
        if (got != want) {
            wrong++;
            System.out.println(test + ": " + call + " answered " + got + ", due is " + want);
        }
    }

    static void dueHand(WidenDesk x, long form, long type, long code, long mark) {
        due("hand(0)", x.hand(0), form);
        due("hand(1)", x.hand(1), type);
        due("hand(2)", x.hand(2), code);
        due("hand(3)", x.hand(3), mark);
    }

    /** The types and codes of all elements of a slot, one after another. */
    static void dueCells(WidenDesk x, int slot, long... typesAndCodes) {
        due("thing(" + slot + ",1)", x.thing(slot, 1), typesAndCodes.length / 2);
        for (int i = 0; i + 1 < typesAndCodes.length; i += 2) {
            due("cell(" + slot + "," + i / 2 + ",0)", x.cell(slot, i / 2, 0), typesAndCodes[i]);
            due("cell(" + slot + "," + i / 2 + ",1)", x.cell(slot, i / 2, 1), typesAndCodes[i + 1]);
        }
    }

    /** The call answers so, and a desk answers whatever comes later as one on which it was not made. */
    static void stays(Setup setup, String name, Call call, long want) {
        compare(setup, name, call, x -> want, want);
    }

    /** The call answers so, and changes nothing but what the hand holds. */
    static void staysButForTheHand(Setup setup, String name, Call call, long want) {
        Call withText = x -> {
            long answer = call.on(x);
            x.text(1234);
            return answer;
        };
        compare(setup, name, withText, x -> {
            x.text(1234);
            return want;
        }, want);
    }

    /** Each look may use up a desk's 512 calls, so it has desks of its own. */
    private static void compare(Setup setup, String name, Call call, Call otherCall, long want) {
        for (int look = 0; look < 3; look++) {
            WidenDesk one = setup.made();
            WidenDesk other = setup.made();
            due(name, call.on(one), want);
            otherCall.on(other);
            List<String> names = new ArrayList<>();
            List<Long> seen = answers(one, look, names);
            List<Long> expected = answers(other, look, new ArrayList<>());
            for (int i = 0; i < expected.size(); i++) {
                due("after " + name + ", " + names.get(i), seen.get(i), expected.get(i));
            }
        }
    }

    private static List<Long> answers(WidenDesk x, int look, List<String> names) {
        Answers answers = new Answers(names);
        if (look == 0) {
            lookAround(x, answers);
        } else if (look == 1) {
            unwind(x, answers);
        } else {
            goOn(x, answers);
        }
        return answers.list;
    }

    private static final class Answers {
        final List<Long> list = new ArrayList<>();
        private final List<String> names;

        Answers(List<String> names) {
            this.names = names;
        }

        void add(String name, long answer) {
            names.add(name);
            list.add(answer);
        }
    }

    private static void lookAround(WidenDesk x, Answers answers) {
        for (int what = 0; what < 8; what++) {
            answers.add("about(" + what + ")", x.about(what));
        }
        for (int slot = 0; slot < 10; slot++) {
            answers.add("thing(" + slot + ",0)", x.thing(slot, 0));
            int length = x.thing(slot, 1);
            answers.add("thing(" + slot + ",1)", length);
            for (int place = 0; place < length; place++) {
                for (int what = 0; what < 3; what++) {
                    answers.add("cell(" + slot + "," + place + "," + what + ")", x.cell(slot, place, what));
                }
            }
            for (int other = 0; other < slot; other++) {
                answers.add("same(" + slot + "," + other + ")", x.same(slot, other));
            }
        }
        lookAtTheRest(x, answers);
    }

    private static void lookAtTheRest(WidenDesk x, Answers answers) {
        for (int what = 0; what < 4; what++) {
            answers.add("hand(" + what + ")", x.hand(what));
        }
        for (int place = 0; place < 7; place++) {
            answers.add("report(" + place + ")", x.report(place));
        }
        answers.add("fault()", x.fault());
        answers.add("which()", x.which());
    }

    private static void unwind(WidenDesk x, Answers answers) {
        for (int i = 0; i < 15; i++) {
            answers.add("undo() " + i, x.undo());
            answers.add("about(5) " + i, x.about(5));
            answers.add("hand(2) " + i, x.hand(2));
            for (int slot = 0; slot < 10; slot++) {
                answers.add("thing(" + slot + ",0) " + i, x.thing(slot, 0));
                answers.add("cell(" + slot + "," + i % 2 + ",1) " + i, x.cell(slot, i % 2, 1));
            }
        }
    }

    private static void goOn(WidenDesk x, Answers answers) {
        answers.add("lay(4,1)", x.lay(4, 1));
        answers.add("cell(4,1,2)", x.cell(4, 1, 2));
        answers.add("turn()", x.turn());
        answers.add("grow(3)", x.grow(3));
        answers.add("tell(9)", x.tell(9));
        for (int place = 0; place < 6; place++) {
            answers.add("cell(9," + place + ",1)", x.cell(9, place, 1));
        }
        answers.add("write(44)", x.write(44));
        answers.add("fault()", x.fault());
        answers.add("mark(1,7)", x.mark(1, 7));
        answers.add("see(2,4,0)", x.see(2, 4, 0));
        answers.add("which()", x.which());
        answers.add("unsee()", x.unsee());
        answers.add("wipe()", x.wipe());
        answers.add("write(98)", x.write(98));
        answers.add("tell(8)", x.tell(8));
        answers.add("undo()", x.undo());
        answers.add("undo()", x.undo());
        lookAtTheRest(x, answers);
    }

    // ---- desks

    static void spell(WidenDesk x, String text) {
        x.wipe();
        for (int i = 0; i < text.length(); i++) {
            x.write(text.charAt(i));
        }
    }

    /** From slot 0 on: an array that a text tells, a single "text", a single "mark", or nothing for "". */
    static WidenDesk desk(String... texts) {
        WidenDesk x = new WidenDesk();
        for (int slot = 0; slot < texts.length; slot++) {
            if (texts[slot].equals("text")) {
                x.make(slot, 13, 0);
            } else if (texts[slot].equals("mark")) {
                x.make(slot, 14, 0);
            } else if (!texts[slot].isEmpty()) {
                spell(x, texts[slot]);
                due("tell(" + slot + ") of " + texts[slot] + ", 1 if it is told", x.tell(slot) >= 0 ? 1 : 0, 1);
            }
        }
        return x;
    }

    /** In slot 0 an array of a type and a length. */
    static WidenDesk array(int type, int length) {
        WidenDesk x = new WidenDesk();
        x.make(0, type, length);
        return x;
    }

    /** Puts the value that is made from v into an element of a slot whose array has the type of the value. */
    static void layValue(WidenDesk x, int slot, int place, int kind, long v) {
        x.give(kind, v);
        due("lay(" + slot + "," + place + ")", x.lay(slot, place), 0);
    }

    /**
     * Slot 0 any, 1 and 5 the same int array, 2 a single text, 3 a single mark, 4 marks, 6 a byte array without
     * elements, 7 to 9 nothing; a mark in the hand, a report, observations, 12 acts, and room for more of everything.
     */
    static WidenDesk busy() {
        WidenDesk x = desk("ob5,t7,*", "", "text", "mark");
        x.make(1, 4, 2);
        x.scatter(1, 5);
        x.make(4, 8, 2);
        x.mark(1, 17);
        x.lay(4, 0);
        x.mark(0, 30);
        x.lay(4, 1);
        x.share(1, 5);
        x.grow(31);
        x.make(6, 1, 0);
        x.convert(0, 1, 2);
        x.see(0, 4, 0);
        x.see(1, 1, 0);
        return x;
    }

    /** As busy(), but the hand holds the value that is made from v. */
    static WidenDesk busyWithValue(int kind, long v) {
        WidenDesk x = busy();
        x.give(kind, v);
        return x;
    }

    /** 60 letters, 20 marks, 6 observations, 14 acts, and arrays of 6 elements in all slots. */
    static WidenDesk full() {
        WidenDesk x = new WidenDesk();
        spell(x, "oi-999999999,i-999999999,i-999999999,i-999999999,i-999999999");
        for (int slot = 0; slot < 10; slot++) {
            x.make(slot, slot < 4 ? 4 + slot : 12, 6);
        }
        for (int i = 0; i < 20; i++) {
            x.mark(i % 2, i);
        }
        for (int place = 0; place < 6; place++) {
            x.lay(4 + place, place);
            x.see(place % 3, 4, 0);
        }
        return x;
    }

    /** Slots that hold nothing, on a desk on which as many arrays as it can keep at once were filled with an element. */
    static WidenDesk worn(String letter, String element) {
        WidenDesk x = new WidenDesk();
        tellInAllSlots(x, letter, element, 30);
        for (int slot = 0; slot < 10; slot++) {
            x.make(slot, 15, 0);
        }
        return x;
    }

    /** Puts new arrays of 6 such elements into the slots, from slot 0 on and around again. */
    static void tellInAllSlots(WidenDesk x, String letter, String element, int count) {
        spell(x, letter + element + ("," + element).repeat(5));
        for (int i = 0; i < count; i++) {
            x.tell(i % 10);
        }
    }

    /** The first and the last element of all slots but one are still such. */
    static void dueOthers(WidenDesk x, int slot, long code) {
        for (int other = 0; other < 10; other++) {
            if (other != slot) {
                due("thing(" + other + ",1)", x.thing(other, 1), 6);
                due("cell(" + other + ",0,1)", x.cell(other, 0, 1), code);
                due("cell(" + other + ",5,1)", x.cell(other, 5, 1), code);
            }
        }
    }

    // ---- numbers

    /** The first values that are refused on either side of a range, and the ends of int. */
    static int[] outside(int first, int last) {
        return new int[] {first - 1, last + 1, LEAST, GREATEST};
    }

    static long bits(float f) {
        return Float.floatToIntBits(f);
    }

    static long bits(double d) {
        return Double.doubleToLongBits(d);
    }

    private static final String[] WIDER = {"0", "134567", "24567", "34567", "4567", "567", "67", "7"};

    static boolean widens(int from, int to) {
        return WIDER[from].indexOf('0' + to) >= 0;
    }

    /** The code of a value of a type, 0 to 5, cast to another one as Java does it. */
    static long cast(long number, int to) {
        return to == 6 ? bits((float) number) : to == 7 ? bits((double) number) : number;
    }

    /** The code of the value of a type that is made from v. */
    static long made(int kind, long v) {
        switch (kind) {
            case 0: return v & 1;
            case 1: return (byte) v;
            case 2: return (char) v;
            case 3: return (short) v;
            case 4: return (int) v;
            case 5: return v;
            // to divide by 8 after the rounding is the same here: nothing gets subnormal
            case 6: return bits((float) v / 8f);
            default: return bits((double) v / 8d);
        }
    }
}
