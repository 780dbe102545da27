import java.io.IOException;
import java.lang.reflect.Constructor;
import java.lang.reflect.Field;
import java.lang.reflect.Method;
import java.lang.reflect.Modifier;
import java.nio.file.Files;
import java.nio.file.Path;
import java.util.ArrayList;
import java.util.List;
import java.util.TreeSet;
import java.util.regex.Matcher;
import java.util.regex.Pattern;

/** The public face as the document writes it, and rules of LANGUAGE.md that can be seen in the source. */
public final class FaceTest {
    private static final String[] FACE = {
        "int append(int, int, int, int, int) throws IllegalStateException",
        "int load()",
        "int play()",
        "int errorCode()",
        "int errorPosition()",
        "int size(int) throws IllegalArgumentException",
        "int buoy(int, int) throws IndexOutOfBoundsException, IllegalArgumentException",
        "int rope(int, int) throws IndexOutOfBoundsException, IllegalArgumentException",
        "int account(int) throws IllegalArgumentException",
        "int hour(int, int) throws IndexOutOfBoundsException, IllegalArgumentException",
        "int level(int) throws IndexOutOfBoundsException, NoSuchElementException",
        "int value(int, int) throws IndexOutOfBoundsException, NoSuchElementException",
        "int why(int, int) throws IndexOutOfBoundsException",
        "int tide(int) throws IndexOutOfBoundsException, NoSuchElementException",
        "int extreme(boolean)",
        "double meanLevel()",
        "float agreement(int) throws IndexOutOfBoundsException",
        "int levelNow() throws NoSuchElementException",
        "int levelWithout(int, int) throws IndexOutOfBoundsException, NoSuchElementException",
        "int needed(int) throws IndexOutOfBoundsException",
        "int segments()",
        "int segmentOf(int) throws IndexOutOfBoundsException",
        "int weakest()",
        "int wouldBreak(int, int, int) throws IndexOutOfBoundsException, IllegalArgumentException",
        "int wouldDrift(int, int, int) throws IndexOutOfBoundsException, IllegalArgumentException",
        "int leastStorm()",
        "int lacks(int) throws IllegalArgumentException",
        "int plan(int) throws IllegalArgumentException",
        "int planLength(int) throws IllegalArgumentException",
        "int report(int, int) throws IndexOutOfBoundsException, IllegalArgumentException",
        "int endHour()",
        "int storm(int, int, int) throws IndexOutOfBoundsException, IllegalArgumentException",
        "int remake(int) throws IndexOutOfBoundsException",
        "int remakeBy(int) throws IllegalArgumentException",
        "int haul(int) throws IndexOutOfBoundsException",
        "int addStock(int) throws IllegalArgumentException",
        "int setOffset(int, int) throws IndexOutOfBoundsException, IllegalArgumentException",
        "int setHold(int, int) throws IndexOutOfBoundsException, IllegalArgumentException",
        "int setTerms(int, int, int) throws IllegalArgumentException",
        "int writeString()",
        "int writeHours()",
        "int output(int) throws IndexOutOfBoundsException",
        "int undo() throws IllegalStateException",
        "int save(int) throws IndexOutOfBoundsException",
        "int restore(int) throws IndexOutOfBoundsException, IllegalStateException",
    };

    public static void main(String[] args) throws IOException {
        members();
        nested();
        source();
        Check.end("FaceTest");
    }

    private static String names(Class<?>[] classes) {
        List<String> names = new ArrayList<>();
        for (Class<?> c : classes) {
            names.add(c.getSimpleName());
        }
        return String.join(", ", names);
    }

    private static void members() {
        Class<?> c = BuoyString.class;
        TreeSet<String> publics = new TreeSet<>();
        TreeSet<String> publicNames = new TreeSet<>();
        TreeSet<String> privates = new TreeSet<>();
        for (Method m : c.getDeclaredMethods()) {
            String thrown = names(m.getExceptionTypes());
            if (Modifier.isPublic(m.getModifiers())) {
                Check.due("modifiers of " + m.getName(), Modifier.toString(m.getModifiers()), "public");
                publics.add(m.getReturnType() + " " + m.getName() + "(" + names(m.getParameterTypes()) + ")"
                        + (thrown.isEmpty() ? "" : " throws " + thrown));
                publicNames.add(m.getName());
            } else {
                Check.due(m.getName() + " is private", Modifier.isPrivate(m.getModifiers()), true);
                privates.add(m.getName());
            }
        }
        Check.due("the public methods", publics, new TreeSet<>(List.of(FACE)));
        privates.retainAll(publicNames);
        Check.due("private methods with the name of a public one", privates, "[]");
        Check.due("the class", Modifier.toString(c.getModifiers()), "public final");
        for (Field f : c.getDeclaredFields()) {
            if (Modifier.isStatic(f.getModifiers())) {
                Check.due(f.getName() + " is final", Modifier.isFinal(f.getModifiers()), true);
            }
            String access = f.getName().equals("NONE") ? "public static final" : "private";
            Check.due(f.getName(), Modifier.toString(f.getModifiers()).startsWith(access), true);
        }
        Constructor<?>[] made = c.getDeclaredConstructors();
        Check.due("constructors", made.length + " " + made[0].getParameterCount() + " "
                + Modifier.toString(made[0].getModifiers()), "1 0 public");
    }

    private static void nested() {
        Class<?>[] all = BuoyString.class.getDeclaredClasses();
        Check.due("at most twelve classes", all.length < 12, true);
        for (Class<?> c : all) {
            Check.due(c.getSimpleName() + " is static", Modifier.isStatic(c.getModifiers()), true);
            Check.due(c.getSimpleName() + " is not public", Modifier.isPublic(c.getModifiers()), false);
            int fields = 0;
            for (Field f : c.getDeclaredFields()) {
                fields += Modifier.isStatic(f.getModifiers()) ? 0 : 1;
            }
            Check.due(c.getSimpleName() + " has at most twenty fields", fields <= 20, true);
            for (Method m : c.getDeclaredMethods()) {
                Check.due(c.getSimpleName() + "." + m.getName() + " has at most seven parameters",
                        m.getParameterCount() <= 7, true);
            }
        }
    }

    private static void source() throws IOException {
        String text = Files.readString(Path.of("src/main/java/BuoyString.java"));
        String code = text.replaceAll("(?s)/\\*.*?\\*/", "").replaceAll("//[^\n]*", "");
        String plain = code.replaceAll("'.'", "' '").replaceAll("\"[^\"]*\"", "\"\"");
        String[] ruledOut = {"->", "::", "\\btry\\b", "\\bcatch\\b", "\\bfinally\\b", "\\bassert\\b", "\\bsynchronized\\b",
            "\\brecord\\b", "\\binstanceof\\b", "Exact\\(", "\\bequals\\b", "\\bhashCode\\b", "\\btoString\\b", "\"\" *\\+",
            "\\+ *\"\"", "static *\\{", "\\bpackage\\b", "\\bObject\\b", "Math\\.(?!abs|min|max|floorDiv|floorMod)",
            "Integer\\.(?!bitCount)", "System\\.(?!arraycopy)", "\\bnative\\b", "\\bvolatile\\b", "while *\\(true"};
        for (String rule : ruledOut) {
            Check.due("the source has " + rule, Pattern.compile(rule).matcher(plain).find(), false);
        }
        Matcher imports = Pattern.compile("(?m)^import .*$").matcher(plain);
        while (imports.find()) {
            Check.due("an import", imports.group(), "import java.util.NoSuchElementException;");
        }
        Matcher thrown = Pattern.compile("throw ([^;]*);").matcher(plain);
        while (thrown.find()) {
            Check.due("throw " + thrown.group(1), thrown.group(1).matches("new (IllegalState|IllegalArgument|"
                    + "IndexOutOfBounds|NoSuchElement)(Exception)\\(\"\"\\)"), true);
        }
        for (int i = 0; i < text.length(); i++) {
            if (text.charAt(i) > 126) {
                Check.due("a sign of the source", (int) text.charAt(i), "below 127");
            }
        }
        Matcher method = Pattern.compile("(?m)^( {4}| {8})[a-z][^=;\n]*\\) *(throws [^{\n]*)?\\{\n(.*\n)*?\\1\\}$")
                .matcher(code);
        int methods = 0;
        while (method.find()) {
            methods++;
            int lines = method.group().split("\n").length;
            Check.due("short enough: " + method.group().split("\n")[0], lines <= 60, true);
        }
        Check.due("methods were found", methods > 80, true);
    }
}
