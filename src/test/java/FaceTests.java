import java.io.IOException;
import java.lang.reflect.Constructor;
import java.lang.reflect.Field;
import java.lang.reflect.Method;
import java.lang.reflect.Modifier;
import java.nio.file.Files;
import java.nio.file.Path;
import java.util.Arrays;
import java.util.Set;
import java.util.TreeSet;
import java.util.regex.Pattern;

/** The public face is that of the document, and the source keeps to the rules that can be seen in its words. */
public final class FaceTests {
    private static final String[] METHODS = {"int write(int)", "int wipe()", "int fault()", "int tell(int)", "int about(int)",
        "int make(int,int,int)", "int share(int,int)", "int thing(int,int)", "int same(int,int)", "long cell(int,int,int)",
        "int give(int,long)", "int mark(int,int)", "int text(int)", "int turn()", "long hand(int)", "int grow(int)",
        "int take(int,int,int)", "int fetch(int,int)", "int lay(int,int)", "int scatter(int,long)", "int convert(int,int,int)",
        "int report(int)", "int chains(int,int)", "int carry(int,int,int)", "int ends(int,int,int)", "int least(int)",
        "int join(int,int,int)", "int cut(int,int,int)", "int alike(int,int)", "int unlike(int)", "int total(int,int)",
        "int see(int,int,int)", "int unsee()", "int which()", "int undo()"};
    private static final String[] CONSTANTS = {"UNKNOWN", "BAD", "LATE", "FULL", "NONE"};
    private static final String[] RULED_OUT = {"throw", "throws", "try", "catch", "synchronized", "assert", "import", "package",
        "float", "double", "var", "Object", "System"};
    private static int wrong = 0;

    private static void due(String what, Object got, Object want) {
        if (!got.equals(want)) {
            wrong++;
            System.out.println(what + " is " + got + ", due is " + want);
        }
    }

    private static String signature(Method method) {
        StringBuilder text = new StringBuilder(method.getReturnType().getName() + " " + method.getName() + "(");
        for (Class<?> type : method.getParameterTypes()) {
            text.append(text.charAt(text.length() - 1) == '(' ? "" : ",").append(type.getName());
        }
        return text.append(")").toString();
    }

    private static void members() {
        Set<String> methods = new TreeSet<>();
        Set<String> names = new TreeSet<>();
        for (Method method : WidenDesk.class.getDeclaredMethods()) {
            if (Modifier.isPublic(method.getModifiers())) {
                methods.add(signature(method));
                names.add(method.getName());
            } else {
                due("private " + method, Modifier.isPrivate(method.getModifiers()), true);
            }
        }
        due("the public methods", methods, new TreeSet<>(Arrays.asList(METHODS)));
        for (Method method : WidenDesk.class.getDeclaredMethods()) {
            boolean bears = !Modifier.isPublic(method.getModifiers()) && names.contains(method.getName());
            due("a private method with the name of a public one, " + method, bears, false);
        }
        Set<String> constants = new TreeSet<>();
        for (Field field : WidenDesk.class.getDeclaredFields()) {
            int modifiers = field.getModifiers();
            if (Modifier.isPublic(modifiers)) {
                constants.add(field.getName());
            } else {
                due("private " + field, Modifier.isPrivate(modifiers), true);
            }
            due("final, if static, " + field, !Modifier.isStatic(modifiers) || Modifier.isFinal(modifiers), true);
        }
        due("the public constants", constants, new TreeSet<>(Arrays.asList(CONSTANTS)));
    }

    private static void classes() {
        due("final", Modifier.isFinal(WidenDesk.class.getModifiers()), true);
        Constructor<?>[] constructors = WidenDesk.class.getDeclaredConstructors();
        due("constructors", constructors.length, 1);
        due("a public constructor", Modifier.isPublic(constructors[0].getModifiers()), true);
        due("parameters of the constructor", constructors[0].getParameterCount(), 0);
        for (Class<?> inside : WidenDesk.class.getDeclaredClasses()) {
            due("static " + inside, Modifier.isStatic(inside.getModifiers()), true);
            due("public " + inside, Modifier.isPublic(inside.getModifiers()), false);
        }
    }

    private static void source() throws IOException {
        String source = Files.readString(Path.of("src/main/java/WidenDesk.java"));
        String code = source.replaceAll("(?s)/\\*.*?\\*/", "").replaceAll("//[^\n]*", "");
        for (String word : RULED_OUT) {
            due("the word " + word, Pattern.compile("\\b" + word + "\\b").matcher(code).find(), false);
        }
        due("a lambda", code.contains("->"), false);
        due("a method reference", code.contains("::"), false);
        due("signs above 127", source.chars().anyMatch(sign -> sign > 127), false);
    }

    public static void main(String[] args) throws IOException {
        members();
        classes();
        source();
        System.out.println(wrong == 0 ? "the face is as due" : wrong + " things are not as due");
        if (wrong != 0) {
            System.exit(1);
        }
    }
}
