import java.io.IOException;
import java.lang.reflect.Field;
import java.lang.reflect.Method;
import java.lang.reflect.Modifier;
import java.nio.file.Files;
import java.nio.file.Path;
import java.util.ArrayList;
import java.util.List;
import java.util.Set;
import java.util.TreeSet;
import java.util.regex.Matcher;
import java.util.regex.Pattern;

/** Those rules of ../shared/LANGUAGE.md that can be seen from the source's words or the class's members. */
public final class LanguageTest {
    private static final Path SOURCE = Path.of("src/main/java/OwnLight.java");
    private static final String[] FACE = {
        "int row(int, int)", "int lay(int, int, int)", "int at(int, int)", "int tear(int)",
        "int copy(int, int, int, int, int)", "int mean(int)", "int text(int, int)", "int put(int, int, int)",
        "int fault(int)", "int town(int)", "int cell(int)", "int lamp(int, int)", "int mark(int, int)",
        "int shines(int)", "int light(int)", "int shade(int, int)", "int begin()", "int may()", "int act(int)",
        "int where()", "int lit()", "int undo(int)", "int judge(int)", "int keep(int)", "int on(int)",
        "int shortest(int)", "int orders()", "int first()", "int bars(int)", "int rings()", "int dark()",
        "int bright()", "int shades()", "int two(int)", "int thief(int, int)", "int saw(int, int)", "int forget(int)",
        "int fits()", "int sure(int, int)", "int dawn()", "int lots(int, int)", "int asked()", "long upper()",
        "long lower()", "int count(int)", "int finding()", "int findings(int)", "long digest()"};
    private static final Set<String> CONSTANTS = Set.of("BAD", "FULL", "FINDING", "STATE", "SPENT", "NONE");
    private static final Set<String> ARRAY_CALLS = Set.of("copyOf", "copyOfRange", "fill");

    private static int wrong = 0;

    private static void rule(int number, boolean kept, String what) {
        if (!kept) {
            wrong++;
            System.out.println("rule " + number + ": " + what);
        }
    }

    private static String shape(Method m) {
        StringBuilder s = new StringBuilder(m.getReturnType() + " " + m.getName() + "(");
        for (Class<?> type : m.getParameterTypes()) {
            s.append(s.charAt(s.length() - 1) == '(' ? "" : ", ").append(type);
        }
        return s.append(')').toString();
    }

    private static void face() {
        Class<?> main = OwnLight.class;
        rule(1, Modifier.isPublic(main.getModifiers()) && Modifier.isFinal(main.getModifiers()), "the class's modifiers");
        Set<String> missing = new TreeSet<>(List.of(FACE));
        for (Method m : main.getDeclaredMethods()) {
            if (!Modifier.isPrivate(m.getModifiers())) {
                rule(1, missing.remove(shape(m)), shape(m) + " is none of the face");
            }
        }
        rule(1, missing.isEmpty(), "missing are " + missing);
        Set<String> constants = new TreeSet<>(CONSTANTS);
        for (Field f : main.getDeclaredFields()) {
            if (!Modifier.isPrivate(f.getModifiers())) {
                rule(1, constants.remove(f.getName()), f.getName() + " is none of the face");
            }
        }
        rule(1, constants.isEmpty(), "missing are " + constants);
        rule(1, main.getDeclaredConstructors().length == 1, "constructors");
    }

    private static void members() {
        Set<String> names = new TreeSet<>();
        for (String method : FACE) {
            names.add(method.substring(method.indexOf(' ') + 1, method.indexOf('(')));
        }
        List<Class<?>> all = new ArrayList<>(List.of(OwnLight.class.getDeclaredClasses()));
        rule(11, all.size() < 12, "classes: " + all.size());
        for (Class<?> inner : all) {
            rule(2, Modifier.isStatic(inner.getModifiers()), inner + " is not static");
            rule(1, !Modifier.isPublic(inner.getModifiers()) && !Modifier.isProtected(inner.getModifiers()), inner + " is seen");
            rule(2, inner.getDeclaredClasses().length == 0, inner + " has classes inside");
        }
        all.add(OwnLight.class);
        for (Class<?> c : all) {
            int fields = 0;
            for (Field f : c.getDeclaredFields()) {
                rule(5, !Modifier.isStatic(f.getModifiers()) || Modifier.isFinal(f.getModifiers()), f + " is not final");
                fields += Modifier.isStatic(f.getModifiers()) ? 0 : 1;
            }
            rule(11, fields <= 20, c + " has " + fields + " fields");
            for (Method m : c.getDeclaredMethods()) {
                rule(11, m.getParameterCount() <= 7, m + " takes too many");
                boolean hidden = c != OwnLight.class || Modifier.isPrivate(m.getModifiers());
                rule(1, !hidden || !names.contains(m.getName()), m + " bears the name of a public one");
            }
        }
    }

    private static String withoutComments(String source) {
        return source.replaceAll("(?s)/\\*.*?\\*/", " ").replaceAll("//[^\n]*", " ");
    }

    private static void words(String code) {
        Matcher words = Pattern.compile("\\b(throw|throws|try|catch|synchronized|assert|float|double|instanceof|native|"
                + "volatile|transient|protected|interface|Object|Thread|Random|Class|Character|Byte|Short|Boolean|Exception|"
                + "Error|Scanner|File|Runtime|equals|hashCode|toString|[a-zA-Z]+Exact)\\b").matcher(code);
        while (words.find()) {
            rule(6, false, "the word " + words.group());
        }
        rule(2, !code.contains("->") && !code.contains("::"), "a lambda or a method reference");
        Matcher imports = Pattern.compile("import ([^;]+);").matcher(code);
        while (imports.find()) {
            rule(4, imports.group(1).equals("java.util.Arrays"), "imports " + imports.group(1));
        }
        rule(1, !Pattern.compile("(?m)^\\s*package\\b").matcher(code).find(), "a package");
        Matcher arrays = Pattern.compile("\\bArrays\\.(\\w+)").matcher(code);
        while (arrays.find()) {
            rule(4, ARRAY_CALLS.contains(arrays.group(1)), arrays.group());
        }
        Matcher systems = Pattern.compile("\\bSystem\\.(\\w+)").matcher(code);
        while (systems.find()) {
            rule(4, systems.group(1).equals("arraycopy"), systems.group());
        }
        rule(5, !Pattern.compile("\\bstatic\\s*\\{").matcher(code).find(), "a static block");
        for (int i = 0; i < code.length(); i++) {
            rule(3, code.charAt(i) < 127, "the sign " + (int) code.charAt(i));
        }
    }

    /** A method's head stands on one line here, and its end is the brace under its first sign. */
    private static void lengths(List<String> lines) {
        Pattern head = Pattern.compile("^( +)[a-zA-Z][\\w\\[\\]<> ]* \\w+\\([^;]*\\) \\{$");
        for (int i = 0; i < lines.size(); i++) {
            Matcher m = head.matcher(lines.get(i));
            if (m.find() && !lines.get(i).contains(" else ")) {
                int end = lines.subList(i, lines.size()).indexOf(m.group(1) + "}");
                rule(11, end > 0 && end <= 60, "long is " + lines.get(i).trim());
            }
        }
    }

    public static void main(String[] args) throws IOException {
        face();
        members();
        words(withoutComments(Files.readString(SOURCE)));
        lengths(Files.readAllLines(SOURCE));
        System.out.println(wrong == 0 ? "the rules are kept" : wrong + " rules are not kept");
        if (wrong != 0) {
            System.exit(1);
        }
    }
}
