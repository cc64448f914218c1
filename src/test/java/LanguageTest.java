import java.lang.reflect.Constructor;
import java.lang.reflect.Field;
import java.lang.reflect.Method;
import java.lang.reflect.Modifier;
import java.nio.charset.StandardCharsets;
import java.nio.file.Files;
import java.nio.file.Path;
import java.util.ArrayList;
import java.util.Arrays;
import java.util.List;
import java.util.Set;
import java.util.TreeSet;
import java.util.regex.Matcher;
import java.util.regex.Pattern;

/** Those rules of LANGUAGE.md that can be seen from the text and the face of the program. */
public final class LanguageTest {
    private static final String[] FACE = {
        "int places(int)", "int say(int)", "int wipe()", "int fault(int)", "int figure(int)",
        "int goes(int,int,int)", "int set(int,int)", "int music(int,int)", "int judge()", "int dance()",
        "int home()", "int where(int,int)", "int length()", "int sign(int)", "int want(int,int)",
        "int fewest(int)", "int standings()", "int canBe()", "int sure(int)", "int caller(int,int)",
        "int forced(int,int)", "int seen(int,int,int)", "int forget()", "long rows(int)",
        "int came(int,int,int)", "int wish(int,int,int)", "int drop()", "int served(int,int)",
        "int night(int,int,int,int)", "int image(int)", "int restore(int)", "int told(int)"};
    private static final String[] CONSTANT_NAMES = {"UNKNOWN", "OUTSIDE", "STATE", "FULL", "NO", "NONE"};
    private static final int[] CONSTANT_VALUES = {-1, -2, -3, -4, -5, -6};
    private static final Set<String> CONSTANTS = new TreeSet<>(Arrays.asList(CONSTANT_NAMES));
    private static final String[] FORBIDDEN = {
        "\\b(throw|throws|try|catch|finally|synchronized|assert|import|package|protected|volatile)\\b",
        "->", "::", "\\bExact\\b", "Exact\\(", "\\bSystem\\b", "\\bRandom\\b", "\\bThread\\b", "\\bequals\\b",
        "\\bhashCode\\b", "\\btoString\\b", "\\bObject\\b"};
    private static final int MOST_LINES = 60, MOST_CLASSES = 12, MOST_FIELDS = 20, MOST_PARAMETERS = 7;

    private static int wrong = 0;
    private static int looked = 0;

    private static void must(boolean holds, String rule) {
        looked++;
        if (!holds) {
            wrong++;
            System.out.println(rule);
        }
    }

    private static String headOf(Method m) {
        StringBuilder head = new StringBuilder(m.getReturnType().getName() + " " + m.getName() + "(");
        for (int i = 0; i < m.getParameterCount(); i++) {
            head.append(i == 0 ? "" : ",").append(m.getParameterTypes()[i].getName());
        }
        return head.append(")").toString();
    }

    private static void face() {
        Class<?> c = RoundDance.class;
        must(Modifier.isPublic(c.getModifiers()) && Modifier.isFinal(c.getModifiers()), "rule 1: public final");
        Set<String> due = new TreeSet<>(Arrays.asList(FACE));
        Set<String> found = new TreeSet<>();
        Set<String> names = new TreeSet<>();
        for (Method m : c.getDeclaredMethods()) {
            if (!Modifier.isPrivate(m.getModifiers())) {
                found.add(headOf(m));
                names.add(m.getName());
            }
        }
        must(found.equals(due), "rule 1: the face is " + found);
        for (Constructor<?> k : c.getDeclaredConstructors()) {
            must(Modifier.isPublic(k.getModifiers()) && k.getParameterCount() == 0, "rule 1: constructors");
        }
        List<Class<?>> all = new ArrayList<>(Arrays.asList(c.getDeclaredClasses()));
        must(all.size() < MOST_CLASSES, "rule 11: classes");
        for (Class<?> inside : all) {
            must(Modifier.isStatic(inside.getModifiers()), "rule 2: static " + inside);
            must(!Modifier.isPublic(inside.getModifiers()), "rule 1: " + inside);
        }
        all.add(c);
        for (Class<?> one : all) {
            membersOf(one, one == c, names);
        }
    }

    private static void constants() throws IllegalAccessException, NoSuchFieldException {
        for (int i = 0; i < CONSTANT_NAMES.length; i++) {
            Field f = RoundDance.class.getField(CONSTANT_NAMES[i]);
            boolean constant = Modifier.isStatic(f.getModifiers()) && Modifier.isFinal(f.getModifiers());
            must(constant && f.getType() == int.class, "rule 1: a constant of int: " + f);
            must(f.getInt(null) == CONSTANT_VALUES[i], "the face: " + f + " is " + f.getInt(null));
        }
    }

    private static void membersOf(Class<?> c, boolean outer, Set<String> faceNames) {
        int fields = 0;
        for (Field f : c.getDeclaredFields()) {
            boolean constant = Modifier.isStatic(f.getModifiers());
            fields += constant ? 0 : 1;
            must(!constant || Modifier.isFinal(f.getModifiers()), "rule 5: " + f);
            must(Modifier.isPrivate(f.getModifiers()) || outer && CONSTANTS.contains(f.getName()), "rule 1: " + f);
        }
        must(fields <= MOST_FIELDS, "rule 11: fields of " + c);
        for (Method m : c.getDeclaredMethods()) {
            must(m.getParameterCount() <= MOST_PARAMETERS, "rule 11: parameters of " + m);
            must(!Modifier.isPrivate(m.getModifiers()) || !faceNames.contains(m.getName()), "rule 1: name of " + m);
        }
    }

    private static String withoutComments(String text) {
        return text.replaceAll("(?s)/\\*.*?\\*/", " ").replaceAll("//[^\n]*", " ");
    }

    private static void text(String source) {
        must(source.chars().allMatch(c -> c >= 1 && c <= 127), "rule 4: signs 1 to 127");
        String code = withoutComments(source);
        for (String pattern : FORBIDDEN) {
            Matcher m = Pattern.compile(pattern).matcher(code);
            must(!m.find(), "not in the part of Java that is left: " + pattern);
        }
        int open = -1;
        String[] lines = source.split("\n");
        for (int i = 0; i < lines.length; i++) {
            if (lines[i].matches(" {4,8}(private|public) [^=;]*\\) \\{")) {
                open = i;
            }
            if (open >= 0 && lines[i].matches(" {4,8}\\}")) {
                must(i - open < MOST_LINES, "rule 11: a long method at line " + (open + 1));
                open = -1;
            }
        }
    }

    public static void main(String[] args) throws Exception {
        face();
        constants();
        text(new String(Files.readAllBytes(Path.of(args[0])), StandardCharsets.ISO_8859_1));
        System.out.println("LanguageTest: " + looked + " looks, " + wrong + " wrong");
        if (wrong != 0) {
            System.exit(1);
        }
    }
}
