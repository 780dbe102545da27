import java.io.IOException;
import java.lang.reflect.InvocationTargetException;
import java.lang.reflect.Method;
import java.nio.file.Files;
import java.nio.file.Path;
import java.util.regex.Matcher;
import java.util.regex.Pattern;

/** Makes the calls of README.md, on one object, and compares their answers with those that stand behind them. */
public final class ReadmeTest {
    private static final Pattern CALL = Pattern.compile("x\\.(\\w+)\\(([^)]*)\\); +// (.*)");
    private static final Pattern TEXT = Pattern.compile("hand\\(x, \"([^\"]*)\"\\); +// (.*)");

    public static void main(String[] args) throws IOException {
        String page = Files.readString(Path.of("README.md"));
        BuoyString x = new BuoyString();
        int calls = 0;
        for (String line : page.split("\n")) {
            if (line.matches(".*\\); +// .*")) {
                calls++;
                call(x, line);
            }
        }
        Check.due("calls were found", calls > 40, true);
        Check.due("the string stands there", page.contains("`writeString()` writes `" + Check.string(x) + "`"), true);
        Check.due("the hours stand there", page.contains("`writeHours()` writes `" + Check.hours(x) + "`"), true);
        handIsTheSame(page);
        Check.end("ReadmeTest");
    }

    // the same lines as in README.md, so that it is shown that they do what the page says
    static int hand(BuoyString x, String text) {
        int length = 0;
        for (int p = 0; p < text.length(); p += 20) {
            int[] words = new int[5];
            for (int i = 0; i < 20; i++) {
                int sign = p + i < text.length() ? text.charAt(p + i) : 0;
                words[i / 4] = words[i / 4] << 8 | sign;
            }
            length = x.append(words[0], words[1], words[2], words[3], words[4]);
        }
        return length;
    }

    private static void handIsTheSame(String page) throws IOException {
        Matcher there = Pattern.compile("(?s)static int hand.*?\n\\}\n").matcher(page);
        Check.due("hand() stands there", there.find(), true);
        String here = Files.readString(Path.of("src/test/java/ReadmeTest.java"));
        Check.due("hand() is the same here", here.contains(there.group().replaceAll("(?m)^(?=.)", "    ")), true);
    }

    private static void call(BuoyString x, String line) {
        Matcher call = CALL.matcher(line);
        Matcher text = TEXT.matcher(line);
        if (text.matches()) {
            Check.due(line, hand(x, text.group(1)), text.group(2));
        } else if (call.matches()) {
            Check.due(line, answer(x, call.group(1), call.group(2)), call.group(3));
        } else {
            Check.due(line, "no call", "a call");
        }
    }

    private static String answer(BuoyString x, String name, String numbers) {
        String[] told = numbers.isEmpty() ? new String[0] : numbers.split(", *");
        for (Method m : BuoyString.class.getDeclaredMethods()) {
            if (m.getName().equals(name) && m.getParameterCount() == told.length) {
                return answer(x, m, told);
            }
        }
        return "no such call";
    }

    private static String answer(BuoyString x, Method m, String[] told) {
        Object[] numbers = new Object[told.length];
        for (int i = 0; i < told.length; i++) {
            numbers[i] = Integer.valueOf(told[i]);
        }
        try {
            return String.valueOf(m.invoke(x, numbers));
        } catch (InvocationTargetException e) {
            return "throws " + e.getCause().getClass().getSimpleName();
        } catch (IllegalAccessException e) {
            return "no access";
        }
    }
}
