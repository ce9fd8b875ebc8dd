import java.io.IOException;
import java.lang.reflect.Constructor;
import java.lang.reflect.Field;
import java.lang.reflect.Method;
import java.lang.reflect.Modifier;
import java.nio.charset.StandardCharsets;
import java.nio.file.Files;
import java.nio.file.Path;
import java.util.ArrayList;
import java.util.HashSet;
import java.util.List;
import java.util.Set;
import java.util.TreeSet;
import java.util.regex.Matcher;
import java.util.regex.Pattern;

/** The public face is the document's, and the source keeps to those rules of LANGUAGE.md that can be seen in its text. */
public final class LanguageTest {
    private static final String FACE = "int feed(int,int,int,int,int) int end(int) int program() int fault(int) "
        + "int number(int,int) int gain(int) int need(int) int change(int,int,int) int worth(int,int) int want(int,int) "
        + "int allow(int) int hold(int,int) int better(int) boolean undo() boolean redo() int held(int) int holding(int) "
        + "int exchange(int,int) int strip(int,int,int) long walks(int,int) int best(int,int) int step(int,int,int) "
        + "int narrow(int) int fewest() int optimum(int) int plan(int) int plans(int) int order(int) int strays() "
        + "int sorted() int doubled(int,int,int) int relaxed(int) int fraction(int,int) int apart(int) int corners() "
        + "int drawn(int,int,int) int chance(int,int) int seen(int,int,int,int,boolean) boolean untell(int) int later(int) "
        + "int fits(int) int fit(int,int) int ask(int,int,int) int image(int) int back(int) int about(int)";

    private static final String[] NEVER = {
        "\\bthrow\\b", "\\bthrows\\b", "\\btry\\b", "\\bcatch\\b", "\\bsynchronized\\b", "\\bassert\\b", "->", "::",
        "Exact\\b", "\\bvar\\b", "\\bprotected\\b", "\\bpackage\\b", "\\bSystem\\.(?!arraycopy\\b)", "\\bThread\\b",
        "\\bstatic\\s*\\{", "\\bhashCode\\b", "\\btoString\\b", "\\bObject\\b", "\\bRandom\\b", "\\bMAX_VALUE\\b", "\\bMIN_VALUE\\b",
        "\\bArrays\\.(?!fill\\b|copyOf\\b|copyOfRange\\b)", "\\bimport (?!java\\.util\\.Arrays;)"
    };

    /** What divides: a name with what stands behind it, a number, or something in brackets. */
    private static final String OPERAND = "([A-Za-z_][\\w.]*(?:\\[[^\\]]*\\])?|\\d+|\\()";
    private static final Pattern DIVISION = Pattern.compile("[/%]=?\\s*" + OPERAND + "|Math\\.floor\\w+\\([^,]*,\\s*" + OPERAND);

    private static int wrong = 0;

    private static void say(String what) {
        wrong++;
        System.out.println(what);
    }

    private static String shape(Method m) {
        StringBuilder b = new StringBuilder(m.getReturnType() + "_" + m.getName() + "(");
        for (Class<?> p : m.getParameterTypes()) {
            b.append(b.charAt(b.length() - 1) == '(' ? "" : ",").append(p);
        }
        return b.append(')').toString();
    }

    private static void lookAtFace() {
        Set<String> due = new TreeSet<>();
        for (String one : FACE.split("\\) ?")) {
            due.add(one.replace(' ', '_') + ")");
        }
        Set<String> open = new TreeSet<>();
        Set<String> names = new HashSet<>();
        for (Method m : RowWalks.class.getDeclaredMethods()) {
            if (Modifier.isPublic(m.getModifiers())) {
                open.add(shape(m));
                names.add(m.getName());
            } else if (!Modifier.isPrivate(m.getModifiers())) {
                say("neither public nor private: " + m);
            }
        }
        if (!open.equals(due)) {
            say("the face is " + open + ", due is " + due);
        }
        List<Class<?>> all = new ArrayList<>(List.of(RowWalks.class.getDeclaredClasses()));
        all.add(RowWalks.class);
        if (all.size() > 12) {
            say("too many classes: " + all.size());
        }
        for (Class<?> one : all) {
            lookAtMembers(one, names);
            if (one != RowWalks.class && !Modifier.isStatic(one.getModifiers())) {
                say("inside and not static: " + one);
            }
        }
    }

    private static void lookAtMembers(Class<?> one, Set<String> names) {
        for (Method m : one.getDeclaredMethods()) {
            if (names.contains(m.getName()) && !(one == RowWalks.class && Modifier.isPublic(m.getModifiers()))) {
                say("bears the name of a public one: " + m);
            }
            if (m.getParameterCount() > 7) {
                say("too many parameters: " + m);
            }
        }
        int fields = 0;
        for (Field f : one.getDeclaredFields()) {
            fields += Modifier.isStatic(f.getModifiers()) ? 0 : 1;
            if (Modifier.isStatic(f.getModifiers()) && !Modifier.isFinal(f.getModifiers())) {
                say("static and not final: " + f);
            }
            boolean isFace = f.getName().equals("NONE") || f.getName().equals("STRANGE");
            if (one == RowWalks.class && Modifier.isPrivate(f.getModifiers()) == isFace) {
                say("seen from outside or not, other than is due: " + f);
            }
        }
        if (fields > 20) {
            say("too many fields: " + one);
        }
        for (Constructor<?> c : one.getDeclaredConstructors()) {
            if (one == RowWalks.class && (!Modifier.isPublic(c.getModifiers()) || c.getParameterCount() > 0)) {
                say("another constructor: " + c);
            }
        }
        if (!Modifier.isFinal(one.getModifiers())) {
            say("not final: " + one);
        }
    }

    private static String withoutComments(String source) {
        return source.replaceAll("(?s)/\\*.*?\\*/", "").replaceAll("//[^\n]*", "").replaceAll("\"[^\"]*\"", "\"\"");
    }

    /** Rule 7: a divisor that is neither a number nor a constant is compared with something before it divides. */
    private static void lookAtDivisors(String code) {
        Matcher method = Pattern.compile("(?ms)^( {4}(?: {4})?)[^ \\n][^\\n]*\\) \\{\\n.*?^\\1\\}\\n").matcher(code);
        int divisions = 0;
        while (method.find()) {
            String body = method.group();
            Matcher m = DIVISION.matcher(body);
            while (m.find()) {
                divisions++;
                String divisor = m.group(1) != null ? m.group(1) : m.group(2);
                if (!isLookedAt(divisor, body.substring(0, m.start()))) {
                    say("divides by '" + divisor + "' unseen in " + body.substring(0, body.indexOf('{')).trim());
                }
            }
        }
        Matcher m = DIVISION.matcher(code);
        while (m.find()) {
            divisions--;
        }
        if (divisions != 0) {
            say("divisions outside of the methods that were found: " + -divisions);
        }
    }

    private static boolean isLookedAt(String divisor, String before) {
        if (divisor.matches("[1-9]\\d*|[A-Z][A-Z_]*")) {
            return true;
        }
        String name = "(?<![\\w.])" + Pattern.quote(divisor);
        return Pattern.compile(name + "\\s*(?:[<>]=?|[!=]=)\\s|" + name + " = Math\\.max\\(").matcher(before).find();
    }

    private static void lookAtSource(String source) {
        for (char c : source.toCharArray()) {
            if (c > 126 || c < 32 && c != '\n') {
                say("a sign that can't be: " + (int) c);
            }
        }
        String code = withoutComments(source);
        for (String never : NEVER) {
            Matcher m = Pattern.compile(never).matcher(code);
            if (m.find()) {
                say("in the source: " + m.group());
            }
        }
        lookAtDivisors(code);
        int start = 0;
        String[] lines = source.split("\n");
        for (int i = 0; i < lines.length; i++) {
            if (lines[i].matches(" {4}( {4})?[a-z].*\\) \\{")) {
                start = i;
            }
            if (lines[i].matches(" {4}( {4})?\\}") && i - start > 60 && !lines[i].equals("    }")) {
                say("a long method that ends at line " + (i + 1));
            }
        }
    }

    public static void main(String[] args) throws IOException {
        lookAtFace();
        lookAtSource(Files.readString(Path.of("src/main/java/RowWalks.java"), StandardCharsets.UTF_8));
        System.out.println(wrong == 0 ? "the rules of the language are kept" : wrong + " rules are broken");
        if (wrong != 0) {
            System.exit(1);
        }
    }
}
