import java.io.IOException;
import java.lang.reflect.Method;
import java.nio.file.Files;
import java.nio.file.Path;
import java.util.ArrayList;
import java.util.HashMap;
import java.util.HashSet;
import java.util.List;
import java.util.Map;
import java.util.Random;
import java.util.Set;
import java.util.TreeSet;
import java.util.regex.Matcher;
import java.util.regex.Pattern;

/**
 * Reads the document itself, from its first line: the face, the headings of the promises, the examples with their
 * answers, and the errors that each promise lists are held against the class as they stand there.
 */
public final class DocumentTests {
    private static final int RUNS = 1050;
    /** More than the 512 of the document: what later calls answer is free, but they must answer. */
    private static final int CALLS = 600;
    private static final int PROMISES = 36;
    private static final long UNLISTED = Long.MIN_VALUE;
    private static int wrong = 0;

    private static void due(String what, Object got, Object want) {
        if (!got.equals(want)) {
            wrong++;
            if (wrong <= 40) {
                System.out.println(what + " is " + got + ", due is " + want);
            }
        }
    }

    private static List<String> found(String pattern, String text) {
        List<String> all = new ArrayList<>();
        Matcher matcher = Pattern.compile(pattern, Pattern.MULTILINE).matcher(text);
        while (matcher.find()) {
            all.add(matcher.group(1));
        }
        return all;
    }

    private static String between(String text, String from, String to) {
        int start = text.indexOf(from) + from.length();
        return text.substring(start, text.indexOf(to, start));
    }

    // ---- the face

    private static List<String> face(String document) {
        return found("^    public ([^;]+);", between(document, "```java", "```"));
    }

    /** The lines of the class that begin with "public" are those of the document, parameters' names and all. */
    private static void checkFace(String document, String source) {
        List<String> written = found("^ *public ([^{;]+?) ?[{;]$", source);
        due("the class's own line", written.remove(0), "final class WidenDesk");
        due("the public members in the source", written, face(document));
        due("the document's methods and constructor", face(document).size(), PROMISES + 1);
    }

    private static void checkHeadings(String document) {
        List<String> signatures = found("^`([^`]+\\))`$", document);
        List<String> members = face(document);
        members.remove(0);
        due("the promises' signatures", signatures, members);
        List<String> names = found("^## Promise [0-9]+: (.+)$", document);
        due("the promises", names.size(), PROMISES);
        due("the first promise", names.get(0), "A new object");
        for (int promise = 2; promise <= PROMISES; promise++) {
            String name = names.get(promise - 1);
            due("promise " + promise, document.contains("## Promise " + promise + ": " + name + "\n"), true);
            due("the signature of promise " + promise, signatures.get(promise - 1).contains(" " + name + "("), true);
        }
    }

    // ---- the examples

    private static void checkExamples(String document) {
        String examples = between(document, "Examples:", "The constructor and the methods follow").replaceAll("\\s+", " ");
        String[] parts = examples.split("[1-9]\\. (?=[A-Z])");
        due("examples", parts.length - 1, 3);
        int calls = 0;
        for (int example = 1; example < parts.length; example++) {
            WidenDesk desk = new WidenDesk();
            Matcher call = Pattern.compile("(\\w+)\\(([^)]*)\\) = (-?[0-9]+)").matcher(parts[example]);
            while (call.find()) {
                long answer = Calls.answer(desk, call.group(1), call.group(2));
                due("example " + example + ", " + call.group(), answer, Long.parseLong(call.group(3)));
                calls++;
            }
        }
        due("calls of the examples", calls, 48);
    }

    // ---- the errors

    /** What a promise lets its method answer below 0: the errors that it lists, and NONE if it says so. */
    private static Set<Long> listed(String promise) {
        Set<Long> codes = new TreeSet<>();
        int errors = promise.indexOf("errors");
        if (errors >= 0) {
            for (String name : found("\\b(UNKNOWN|BAD|LATE|FULL)\\b", promise.substring(errors))) {
                codes.add(Calls.number(name));
            }
        }
        if (promise.contains("NONE")) {
            codes.add(Calls.number("NONE"));
        }
        return codes;
    }

    /** The codes of numbers, which may be negative themselves. */
    private static boolean tellsCode(String name, long[] arguments) {
        return name.equals("cell") && arguments[2] == 1 || name.equals("hand") && arguments[0] == 2;
    }

    private static long argument(Random random, Class<?> type) {
        switch (random.nextInt(12)) {
            case 0: return type == int.class ? random.nextInt() : random.nextLong();
            case 1: return random.nextBoolean() ? Integer.MIN_VALUE : Integer.MAX_VALUE;
            case 2: return type == int.class ? -1 : random.nextBoolean() ? Long.MIN_VALUE : Long.MAX_VALUE;
            case 3: return "zbcsijfdtwo,*-019".charAt(random.nextInt(17));
            case 4: return random.nextInt(1100);
            case 5: return random.nextInt(18) - 2;
            case 6: return 12 + random.nextInt(4);
            default: return random.nextInt(6);
        }
    }

    /**
     * Slots are filled in all runs. Each run has a method that is called more often, and every other run removes no
     * letters and observations, so that there comes to be no room for more.
     */
    private static String chosen(List<String> names, int run, Random random) {
        String name = names.get(random.nextInt(names.size()));
        int favour = random.nextInt(6);
        if (favour == 0) {
            return "make";
        }
        boolean removes = name.equals("wipe") || name.equals("unsee");
        return favour <= 2 || removes && run % 2 == 0 ? names.get(run % names.size()) : name;
    }

    private static void checkAnswers(Map<String, Set<Long>> codes) {
        Map<String, Set<Long>> seen = new HashMap<>();
        List<String> names = new ArrayList<>(new TreeSet<>(codes.keySet()));
        for (int run = 0; run < RUNS; run++) {
            Random random = new Random(run);
            WidenDesk desk = new WidenDesk();
            for (int call = 0; call < CALLS; call++) {
                String name = chosen(names, run, random);
                long answer = checkCall(desk, name, random, codes.get(name));
                if (answer < 0) {
                    seen.computeIfAbsent(name, key -> new HashSet<>()).add(answer);
                }
            }
        }
        for (String name : names) {
            Set<Long> never = new TreeSet<>(codes.get(name));
            never.removeAll(seen.getOrDefault(name, Set.of()));
            due("what " + name + "() lists but never answered", never, Set.of());
        }
    }

    /** The answer if it is listed below 0, else a number of no meaning. */
    private static long checkCall(WidenDesk desk, String name, Random random, Set<Long> codes) {
        Method method = Calls.method(name);
        Class<?>[] types = method.getParameterTypes();
        long[] arguments = new long[types.length];
        StringBuilder call = new StringBuilder(name);
        for (int i = 0; i < arguments.length; i++) {
            arguments[i] = argument(random, types[i]);
            call.append(i == 0 ? "(" : ",").append(arguments[i]);
        }
        try {
            long answer = Calls.answer(desk, method, arguments);
            if (tellsCode(name, arguments)) {
                return 0;
            }
            due(call + "), " + answer + ", is at least 0 or listed", answer >= 0 || codes.contains(answer), true);
            return answer;
        } catch (IllegalStateException e) {
            due(call + ")", e.getMessage(), "an answer");
            return UNLISTED;
        }
    }

    private static void checkErrors(String document) {
        Map<String, Set<Long>> codes = new HashMap<>();
        String[] promises = document.substring(0, document.indexOf("## Not promised")).split("## Promise [0-9]+: ");
        for (int promise = 2; promise <= PROMISES; promise++) {
            String text = promises[promise];
            codes.put(text.substring(0, text.indexOf('\n')), listed(text));
        }
        due("methods with their errors", codes.size(), PROMISES - 1);
        checkAnswers(codes);
    }

    public static void main(String[] args) throws IOException {
        String document = Files.readString(Path.of("../shared/DOC.md"));
        String source = Files.readString(Path.of("src/main/java/WidenDesk.java"));
        checkFace(document, source);
        checkHeadings(document);
        checkExamples(document);
        checkErrors(document);
        System.out.println(wrong == 0 ? "the class is as the document says" : wrong + " things are not as due");
        if (wrong != 0) {
            System.exit(1);
        }
    }
}
