import java.io.IOException;
import java.lang.reflect.Constructor;
import java.lang.reflect.Field;
import java.lang.reflect.Method;
import java.lang.reflect.Modifier;
import java.nio.file.Files;
import java.nio.file.Path;
import java.util.Arrays;
import java.util.HashSet;
import java.util.Set;
import java.util.TreeSet;
import java.util.regex.Matcher;
import java.util.regex.Pattern;

/** What of LANGUAGE.md can be seen from outside: the face, the classes inside, words that must not stand. */
public final class RulesTest {
    private static final Due due = new Due("RulesTest");
    private static final String FACE = "good5 of2 asks2 stand2 person0 own3 terms2 feed5 end1 row0 commas0 law0 "
            + "orders0 fault0 stopped0 force1 lack1 find1 weigh2 pass0 undo0 figure2 turned2 pension0 glad2 round2 spent3 ask3 "
            + "fair2 hear1 forget0 trend1 does1 compare1 gets2 years2 drawn2 image1 back1 count1 status0";

    public static void main(String[] args) throws IOException {
        face();
        inside();
        source();
        due.finish();
    }

    private static void face() {
        Set<String> seen = new TreeSet<>();
        for (Method m : GladBasket.class.getDeclaredMethods()) {
            if (Modifier.isPrivate(m.getModifiers())) {
                continue;
            }
            due.holds(m + " is public", Modifier.isPublic(m.getModifiers()));
            due.holds(m + " is of an object", !Modifier.isStatic(m.getModifiers()));
            boolean wide = Set.of("figure", "turned", "gets").contains(m.getName());
            due.holds(m + " answers as told", m.getReturnType() == (wide ? long.class : int.class));
            for (Class<?> type : m.getParameterTypes()) {
                due.holds(m + " takes ints", type == int.class);
            }
            seen.add(m.getName() + m.getParameterCount());
        }
        due.holds("the face is " + FACE, seen.equals(new TreeSet<>(Arrays.asList(FACE.split(" ")))));
        due.holds("it is public and final", GladBasket.class.getModifiers() == (Modifier.PUBLIC | Modifier.FINAL));
        Constructor<?>[] constructors = GladBasket.class.getDeclaredConstructors();
        due.holds("one public constructor", constructors.length == 1 && constructors[0].getParameterCount() == 0
                && Modifier.isPublic(constructors[0].getModifiers()));
        Set<String> open = new HashSet<>();
        for (Field f : GladBasket.class.getDeclaredFields()) {
            if (!Modifier.isPrivate(f.getModifiers())) {
                open.add(f.getName());
            }
        }
        due.holds("NONE and NOTHING alone are open", open.equals(Set.of("NONE", "NOTHING")));
    }

    private static void inside() {
        Set<String> faceNames = new HashSet<>();
        for (String name : FACE.split(" ")) {
            faceNames.add(name.replaceAll("[0-9]", ""));
        }
        Class<?>[] classes = GladBasket.class.getDeclaredClasses();
        due.holds("some twelve classes at most", classes.length + 1 <= 12);
        for (Class<?> c : classes) {
            due.holds(c + " is static", Modifier.isStatic(c.getModifiers()));
            due.holds(c + " has no class inside", c.getDeclaredClasses().length == 0);
            judgeMembers(c, faceNames);
        }
        judgeMembers(GladBasket.class, Set.of());
    }

    private static void judgeMembers(Class<?> c, Set<String> faceNames) {
        int fields = 0;
        for (Field f : c.getDeclaredFields()) {
            boolean fixed = Modifier.isStatic(f.getModifiers());
            due.holds(f + " is final, if it is static", !fixed || Modifier.isFinal(f.getModifiers()));
            fields += fixed ? 0 : 1;
        }
        due.holds(c + " has some twenty fields at most", fields <= 20);
        for (Method m : c.getDeclaredMethods()) {
            due.holds(m + " has a name of its own", !faceNames.contains(m.getName()));
            due.holds(m + " takes seven at most", m.getParameterCount() <= 7);
            due.holds(m + " is written, not made", !m.isSynthetic());
        }
    }

    private static void source() throws IOException {
        String text = Files.readString(Path.of("src/main/java/GladBasket.java"));
        String bare = text.replaceAll("(?s)/\\*.*?\\*/", "").replaceAll("//[^\n]*", "")
                .replaceAll("\"[^\"\n]*\"", "\"\"");
        String words = "throw throws try catch synchronized assert protected package native volatile transient "
                + "\\w*Exact Thread Object hashCode toString equals double float var yield System.out";
        for (String word : words.split(" ")) {
            due.holds("no " + word, !Pattern.compile("\\b" + word + "\\b").matcher(bare).find());
        }
        due.holds("no lambda, no arrow", !bare.contains("->"));
        due.holds("no method reference", !bare.contains("::"));
        due.holds("no static block", !Pattern.compile("static\\s*\\{").matcher(bare).find());
        Matcher imports = Pattern.compile("import ([^;]+);").matcher(bare);
        while (imports.find()) {
            due.holds(imports.group(), imports.group(1).equals("java.util.Arrays"));
        }
        int length = 0;
        boolean within = false;
        int line = 0;
        for (String each : text.split("\n")) {
            line++;
            due.holds("line " + line + " is not too long", each.length() <= 120);
            if (each.matches("\\s+(public|private|[A-Za-z\\[\\]]+) .*\\) \\{")
                    && !each.matches("\\s+(if|for|while|switch|\\}).*")) {
                within = true;
                length = 0;
            }
            length++;
            if (within && (each.equals("    }") || each.equals("        }"))) {
                within = !each.equals("    }");
                due.holds("the method that ends at line " + line + " is short", length <= 60);
            }
        }
    }
}
