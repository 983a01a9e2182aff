import java.io.IOException;
import java.lang.reflect.Constructor;
import java.lang.reflect.Field;
import java.lang.reflect.Method;
import java.lang.reflect.Modifier;
import java.nio.file.Files;
import java.nio.file.Path;
import java.util.Arrays;
import java.util.Set;
import java.util.TreeSet;
import java.util.regex.Matcher;
import java.util.regex.Pattern;

/** The public face, and those rules of the language that can be seen in the source. */
public final class FaceTest {
    private static final String[] FACE = {
        "int state(int)", "int word(int)", "boolean set(int, int, int)", "int entry(int, int, int, int)",
        "boolean drop(int)", "boolean move(int, int)", "int feed(int, int, int, int, int)", "boolean end(int)",
        "int text()", "int fault(int)", "int editions(int)", "int of(int, int)", "int at(int, int)",
        "int fixes(int, int)", "int judge(int)", "int learnt(int, int)", "int order(int)", "int ring()", "int cut()",
        "int least()", "int most(int, int)", "int worn(int, int)", "int trade(int)", "int book(int, int)",
        "boolean undo()", "boolean image(boolean)", "int look(int)"};
    private static final Check CHECK = new Check();

    public static void main(String[] args) throws IOException {
        face();
        classesInside();
        source();
        everyCallEnds();
        CHECK.finish();
    }

    private static String name(Method m) {
        String types = Arrays.toString(m.getParameterTypes());
        return m.getReturnType() + " " + m.getName() + "(" + types.substring(1, types.length() - 1) + ")";
    }

    private static void face() {
        CHECK.promise("the face");
        Set<String> want = new TreeSet<>(Arrays.asList(FACE));
        Set<String> names = new TreeSet<>();
        Set<String> got = new TreeSet<>();
        for (Method m : NoWordTwice.class.getDeclaredMethods()) {
            if (!Modifier.isPrivate(m.getModifiers())) {
                got.add(name(m));
                names.add(m.getName());
                CHECK.due(m + " is plainly public", m.getModifiers(), Modifier.PUBLIC);
            }
        }
        CHECK.due("methods " + got, got.equals(want), true);
        for (Method m : NoWordTwice.class.getDeclaredMethods()) {
            boolean shared = Modifier.isPrivate(m.getModifiers()) && names.contains(m.getName());
            CHECK.due(m + " bears a public name", shared, false);
        }
        for (Field f : NoWordTwice.class.getDeclaredFields()) {
            boolean isPrivate = Modifier.isPrivate(f.getModifiers());
            CHECK.due(f + " is private", isPrivate, !f.getName().equals("NONE"));
            boolean isStatic = Modifier.isStatic(f.getModifiers());
            CHECK.due(f + " is final if static", !isStatic || Modifier.isFinal(f.getModifiers()), true);
        }
        Constructor<?>[] made = NoWordTwice.class.getDeclaredConstructors();
        CHECK.due("constructors", made.length, 1);
        CHECK.due("constructor is public", made[0].getModifiers(), Modifier.PUBLIC);
        CHECK.due("class is final", NoWordTwice.class.getModifiers(), Modifier.PUBLIC | Modifier.FINAL);
    }

    private static void classesInside() {
        CHECK.promise("classes inside");
        Class<?>[] inside = NoWordTwice.class.getDeclaredClasses();
        CHECK.due("how many are fine", inside.length <= 11, true);
        for (Class<?> c : inside) {
            CHECK.due(c + " is static", Modifier.isStatic(c.getModifiers()), true);
            int fields = 0;
            for (Field f : c.getDeclaredFields()) {
                fields += Modifier.isStatic(f.getModifiers()) ? 0 : 1;
            }
            CHECK.due(c + " has few fields", fields <= 20, true);
            for (Method m : c.getDeclaredMethods()) {
                CHECK.due(m + " takes few", m.getParameterCount() <= 7, true);
                CHECK.due(m + " bears a public name", isPublicName(m.getName()), false);
            }
        }
    }

    private static boolean isPublicName(String name) {
        for (String method : FACE) {
            if (method.contains(" " + name + "(")) {
                return true;
            }
        }
        return false;
    }

    private static void source() throws IOException {
        CHECK.promise("the source");
        String text = Files.readString(Path.of("src/main/java/NoWordTwice.java"));
        for (int i = 0; i < text.length(); i++) {
            if (text.charAt(i) > 126) {
                CHECK.due("sign at " + i, text.charAt(i), 126);
            }
        }
        String code = text.replaceAll("(?s)/\\*.*?\\*/", "").replaceAll("//[^\n]*", "");
        Matcher m = Pattern.compile("\\b(throws?|try|catch|synchronized|assert|import|package|double|float"
                + "|Object|hashCode|toString|native|volatile|transient)\\b|->|::|@").matcher(code);
        boolean found = m.find();
        CHECK.due("forbidden: " + (found ? m.group() : ""), found, false);
        methodsAreShort(text.split("\n"));
    }

    private static void methodsAreShort(String[] lines) {
        for (int i = 0; i < lines.length; i++) {
            if (!lines[i].matches("( {4}| {8})(public |private |static )*[\\w\\[\\]]+ \\w+\\(.*\\{")) {
                continue;
            }
            String close = lines[i].substring(0, lines[i].length() - lines[i].trim().length()) + "}";
            int end = i;
            while (!lines[end].equals(close)) {
                end++;
            }
            CHECK.due("lines of the method at line " + (i + 1) + " are few", end - i <= 60, true);
        }
    }

    /** All calls with numbers far off, of an empty object and of a filled one: none may throw. */
    private static void everyCallEnds() {
        CHECK.promise("every call");
        int[] odd = {Integer.MIN_VALUE, -100, -2, -1, 0, 1, 2, 3, 9, 10, 11, 16, 17, 31, 32, 33, 399, 400, 401, 1023,
            65535, 65536, Integer.MAX_VALUE};
        for (int a : odd) {
            for (int round = 0; round < 2; round++) {
                NoWordTwice x = round == 0 ? new NoWordTwice() : filled();
                for (int b : odd) {
                    callsOfTwo(x, a, b);
                }
                callsOfOne(x, a);
                CHECK.due("it came here", x.look(0) >= 0, true);
            }
        }
    }

    private static NoWordTwice filled() {
        NoWordTwice x = new NoWordTwice();
        for (int i = 0; i < 16; i++) {
            x.word(1 + i * 60);
        }
        for (int i = 0; i < 12; i++) {
            x.entry(i, i + 1, i + 2, i + 3);
        }
        x.set(1, 0, 1000);
        Check.law(x, "fix when common>lack*more/2+many-others;");
        x.editions(9);
        return x;
    }

    private static void callsOfTwo(NoWordTwice x, int a, int b) {
        x.set(a, b, b);
        x.of(a, b);
        x.at(a, b);
        x.fixes(a, b);
        x.learnt(a, b);
        x.most(a, b);
        x.worn(a, b);
        x.book(a, b);
        x.move(a, b);
        x.entry(a, b, a, b);
    }

    private static void callsOfOne(NoWordTwice x, int a) {
        x.judge(a);
        x.order(a);
        x.trade(a);
        x.look(a);
        x.fault(a);
        x.cut();
        x.least();
        x.ring();
        x.image(true);
        x.drop(a);
        x.word(a);
        x.state(a);
        x.feed(a, a, a, a, a);
        x.end(a);
        x.text();
        x.editions(a);
        x.undo();
        x.image(false);
        x.undo();
    }
}
