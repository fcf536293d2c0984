import java.io.IOException;
import java.lang.reflect.Method;
import java.lang.reflect.Modifier;
import java.nio.file.Files;
import java.nio.file.Path;
import java.util.HashMap;
import java.util.Map;
import java.util.regex.Matcher;
import java.util.regex.Pattern;

/** README.md tells the truth: its code is run, each answer is as it says there, and it names every call. */
public final class ReadmeTest {
    private static final Due due = new Due("ReadmeTest");
    private static final Pattern BLOCK = Pattern.compile("(?s)```java\n(.*?)```");
    private static final Pattern CALL = Pattern.compile("basket\\.(\\w+)\\(([^)]*)\\); +// (-?\\d+)(: .*)?");
    private static final Pattern WRITE = Pattern.compile("write\\(basket, \"([^\"]*)\"\\);");
    private static final Map<String, Method> face = new HashMap<>();

    public static void main(String[] args) throws Exception {
        String readme = Files.readString(Path.of("README.md"));
        for (Method method : GladBasket.class.getDeclaredMethods()) {
            if (Modifier.isPublic(method.getModifiers())) {
                face.put(method.getName(), method);
                due.holds("README.md tells of " + method.getName(), readme.contains("`" + method.getName() + "("));
            }
        }
        int blocks = 0;
        Matcher block = BLOCK.matcher(readme);
        while (block.find()) {
            blocks++;
            if (block.group(1).startsWith("static")) {
                isHere(block.group(1));
            } else {
                runAll(block.group(1));
            }
        }
        due.holds("README.md shows an object, a refusal, a TEXT, a LAW and ORDERS", blocks >= 5);
        due.finish();
    }

    private static void runAll(String code) throws Exception {
        GladBasket basket = null;
        for (String line : code.split("\n")) {
            Matcher call = CALL.matcher(line);
            Matcher write = WRITE.matcher(line);
            if (line.equals("GladBasket basket = new GladBasket();")) {
                basket = new GladBasket();
            } else if (write.matches()) {
                write(basket, write.group(1));
            } else if (call.matches() && face.containsKey(call.group(1))) {
                due.is(0, line, answer(basket, face.get(call.group(1)), call.group(2)), Long.parseLong(call.group(3)));
            } else {
                due.holds("README.md has no line that can't be run: " + line, false);
            }
        }
    }

    private static long answer(GladBasket basket, Method method, String list) throws Exception {
        String[] words = list.isEmpty() ? new String[0] : list.split(", ");
        Object[] numbers = new Object[words.length];
        for (int i = 0; i < words.length; i++) {
            numbers[i] = Integer.valueOf(words[i]);
        }
        return ((Number) method.invoke(basket, numbers)).longValue();
    }

    /** What README.md shows for a user's own code is the code that stands below, so it has been run. */
    private static void isHere(String code) throws IOException {
        String own = Files.readString(Path.of("src/test/java/ReadmeTest.java"));
        String plain = code.replaceAll("\\s+", " ").trim();
        due.holds("what README.md shows is run here: " + code, own.replaceAll("\\s+", " ").contains(plain));
    }

    static void write(GladBasket basket, String text) {
        int[] five = new int[5];
        for (int at = 0; at < text.length(); at += 20) {
            for (int i = 0; i < 20; i++) {
                int value = at + i < text.length() ? text.charAt(at + i) & 255 : 0;
                five[i / 4] = five[i / 4] << 8 | value;
            }
            basket.feed(five[0], five[1], five[2], five[3], five[4]);
        }
        basket.end(text.length());
    }
}
