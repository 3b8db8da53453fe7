import java.io.IOException;
import java.lang.reflect.Constructor;
import java.lang.reflect.Field;
import java.lang.reflect.Method;
import java.lang.reflect.Modifier;
import java.nio.file.Files;
import java.nio.file.Path;
import java.util.Arrays;
import java.util.Set;
import java.util.TreeSet;
import java.util.regex.Matcher;
import java.util.regex.Pattern;

/** The public face is that of the document, and the source keeps to the rules that can be seen in its words. */
public final class FaceTests {
    private static final String[] METHODS = {"int write(int)", "int wipe()", "int fault()", "int tell(int)", "int about(int)",
        "int make(int,int,int)", "int share(int,int)", "int thing(int,int)", "int same(int,int)", "long cell(int,int,int)",
        "int give(int,long)", "int mark(int,int)", "int text(int)", "int turn()", "long hand(int)", "int grow(int)",
        "int take(int,int,int)", "int fetch(int,int)", "int lay(int,int)", "int scatter(int,long)", "int convert(int,int,int)",
        "int report(int)", "int chains(int,int)", "int carry(int,int,int)", "int ends(int,int,int)", "int least(int)",
        "int join(int,int,int)", "int cut(int,int,int)", "int alike(int,int)", "int unlike(int)", "int total(int,int)",
        "int see(int,int,int)", "int unsee()", "int which()", "int undo()"};
    private static final String[] CONSTANTS = {"UNKNOWN", "BAD", "LATE", "FULL", "NONE"};
    private static final String[] RULED_OUT = {"throw", "throws", "try", "catch", "synchronized", "assert", "import", "package",
        "float", "double", "var", "Object", "System"};
    private static final int MOST_CLASSES = 12;
    private static final Set<Class<?>> CONSTANT_TYPES = Set.of(int.class, long.class, boolean.class, char.class, String.class,
        int[].class, long[].class, char[].class, byte[].class);
    private static final Set<String> LIBRARY = Set.of("Math.min", "Math.max", "Long.numberOfLeadingZeros");
    private static int wrong = 0;

    private static void due(String what, Object got, Object want) {
        if (!got.equals(want)) {
            wrong++;
            System.out.println(what + " is " + got + ", due is " + want);
        }
    }

    private static String signature(Method method) {
        StringBuilder text = new StringBuilder(method.getReturnType().getName() + " " + method.getName() + "(");
        for (Class<?> type : method.getParameterTypes()) {
            text.append(text.charAt(text.length() - 1) == '(' ? "" : ",").append(type.getName());
        }
        return text.append(")").toString();
    }

    private static void members() {
        Set<String> methods = new TreeSet<>();
        Set<String> names = new TreeSet<>();
        for (Method method : WidenDesk.class.getDeclaredMethods()) {
            if (Modifier.isPublic(method.getModifiers())) {
                methods.add(signature(method));
                names.add(method.getName());
            } else {
                due("private " + method, Modifier.isPrivate(method.getModifiers()), true);
            }
        }
        due("the public methods", methods, new TreeSet<>(Arrays.asList(METHODS)));
        for (Method method : WidenDesk.class.getDeclaredMethods()) {
            boolean bears = !Modifier.isPublic(method.getModifiers()) && names.contains(method.getName());
            due("a private method with the name of a public one, " + method, bears, false);
        }
        Set<String> constants = new TreeSet<>();
        for (Field field : WidenDesk.class.getDeclaredFields()) {
            int modifiers = field.getModifiers();
            if (Modifier.isPublic(modifiers)) {
                constants.add(field.getName());
            } else {
                due("private " + field, Modifier.isPrivate(modifiers), true);
            }
            due("final, if static, " + field, !Modifier.isStatic(modifiers) || Modifier.isFinal(modifiers), true);
        }
        due("the public constants", constants, new TreeSet<>(Arrays.asList(CONSTANTS)));
    }

    private static void classes() {
        due("final", Modifier.isFinal(WidenDesk.class.getModifiers()), true);
        Constructor<?>[] constructors = WidenDesk.class.getDeclaredConstructors();
        due("constructors", constructors.length, 1);
        due("a public constructor", Modifier.isPublic(constructors[0].getModifiers()), true);
        due("parameters of the constructor", constructors[0].getParameterCount(), 0);
        for (Class<?> inside : WidenDesk.class.getDeclaredClasses()) {
            due("static " + inside, Modifier.isStatic(inside.getModifiers()), true);
            due("public " + inside, Modifier.isPublic(inside.getModifiers()), false);
        }
    }

    /** Rules 2, 5 and 11, as far as the compiled classes show them. */
    private static void sizes() {
        Class<?>[] all = WidenDesk.class.getNestMembers();
        due("at most " + MOST_CLASSES + " classes", all.length <= MOST_CLASSES, true);
        for (Class<?> each : all) {
            due("a class of the file or inside it, " + each, each == WidenDesk.class || each.isMemberClass(), true);
            for (Method method : each.getDeclaredMethods()) {
                due("at most 7 parameters, " + method, method.getParameterCount() <= 7, true);
                due("written in the source, " + method, method.isSynthetic(), false);
            }
            int fields = 0;
            for (Field field : each.getDeclaredFields()) {
                boolean constant = Modifier.isStatic(field.getModifiers());
                fields += constant ? 0 : 1;
                due("of a constant's type, " + field, !constant || CONSTANT_TYPES.contains(field.getType()), true);
                due("final, if static, " + field, !constant || Modifier.isFinal(field.getModifiers()), true);
            }
            due("at most 20 fields, " + each, fields <= 20, true);
        }
    }

    /** A method ends with the first brace that stands as far to the right as its head. */
    private static void lengths(String code) {
        Matcher method = Pattern.compile("(?ms)^( +)[^\n]*\\) \\{\n.*?^\\1\\}").matcher(code);
        int methods = 0;
        while (method.find()) {
            methods++;
            due("at most 60 lines, " + method.group().lines().findFirst().get(), method.group().lines().count() <= 60, true);
        }
        due("methods were found in the source", methods >= METHODS.length, true);
    }

    /** Rule 4: of the library's classes nothing but what the list has. */
    private static void library(String code) {
        Set<String> own = new TreeSet<>();
        for (Class<?> each : WidenDesk.class.getNestMembers()) {
            own.add(each.getSimpleName());
        }
        Matcher use = Pattern.compile("\\b([A-Z]\\w*[a-z]\\w*)\\.(\\w+)").matcher(code);
        while (use.find()) {
            due("own or in the list, " + use.group(), own.contains(use.group(1)) || LIBRARY.contains(use.group()), true);
        }
        Matcher made = Pattern.compile("\\bnew (\\w+)([(\\[])").matcher(code);
        while (made.find()) {
            boolean array = made.group(2).equals("[") && Set.of("int", "long").contains(made.group(1));
            due("an own object or a row of numbers, " + made.group(), array || own.contains(made.group(1)), true);
        }
    }

    private static void source() throws IOException {
        String source = Files.readString(Path.of("src/main/java/WidenDesk.java"));
        String code = source.replaceAll("(?s)/\\*.*?\\*/", "").replaceAll("//[^\n]*", "");
        lengths(code);
        library(code);
        for (String word : RULED_OUT) {
            due("the word " + word, Pattern.compile("\\b" + word + "\\b").matcher(code).find(), false);
        }
        due("a lambda", code.contains("->"), false);
        due("a method reference", code.contains("::"), false);
        due("signs above 127", source.chars().anyMatch(sign -> sign > 127), false);
    }

    public static void main(String[] args) throws IOException {
        members();
        classes();
        sizes();
        source();
        System.out.println(wrong == 0 ? "the face is as due" : wrong + " things are not as due");
        if (wrong != 0) {
            System.exit(1);
        }
    }
}
