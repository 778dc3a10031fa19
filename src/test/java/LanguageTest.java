import java.lang.reflect.Constructor;
import java.lang.reflect.Field;
import java.lang.reflect.Method;
import java.lang.reflect.Modifier;
import java.nio.file.Files;
import java.nio.file.Path;
import java.util.List;
import java.util.Set;
import java.util.TreeSet;
import java.util.regex.Matcher;
import java.util.regex.Pattern;

/** The rules of LANGUAGE.md that can be seen from the source and the class; run from the project's folder. */
public final class LanguageTest {
    private static final List<String> FACE = List.of("back(int)", "bend(int,int)", "blot(int)", "came(int,int,int,int)",
        "cell(int,int)", "change(int,int)", "clean()", "count(int)", "day()", "end(int)", "feed(int,int,int,int,int)",
        "force(int)", "game(int,int,int,int)", "hold(int,int)", "image(int)", "look(int,int)", "note(int,int,int)",
        "pen(int,int)", "pence(int,int)", "rains(int,int,int,int)", "read(int,int)", "rests(int,int,int,int)", "rule()",
        "ruled(int)", "seed(int)", "set(int,int)", "sign()", "sky()", "stay(int)", "undo()", "wrote(int,int)",
        "ahead(int,int,int)");
    private static final List<String> BANNED = List.of("throw", "throws", "try", "catch", "finally", "synchronized", "assert",
        "native", "volatile", "strictfp", "->", "::", "hashCode", "toString", "Exact", "Math\\.random", "protected",
        "static \\{", "package ", "new [A-Za-z]+\\([^)]*\\) \\{", "\\bString\\[", "Object\\b", "double|float");

    private static int wrong;

    private static void check(boolean good, String what) {
        if (!good) {
            wrong++;
            System.out.println("LanguageTest: " + what);
        }
    }

    private static String plain(String source) {
        return source.replaceAll("(?s)/\\*.*?\\*/", "").replaceAll("//[^\n]*", "").replaceAll("\"[^\"\n]*\"", "\"\"");
    }

    private static void source() throws Exception {
        String source = Files.readString(Path.of("src/main/java/SkySpire.java"));
        String plain = plain(source);
        for (String banned : BANNED) {
            String pattern = banned.matches("[a-z]+") ? "\\b" + banned + "\\b" : banned;
            Matcher m = Pattern.compile(pattern).matcher(plain);
            check(!m.find(), "the source has " + banned);
        }
        check(plain.indexOf("\" +") < 0 && plain.indexOf("+ \"") < 0, "texts joined by +");
        check(source.chars().allMatch(c -> c == '\n' || c >= 32 && c < 127), "a sign that is not plain");
        Matcher imports = Pattern.compile("import ([^;]+);").matcher(plain);
        while (imports.find()) {
            check(List.of("java.util.Arrays", "java.util.ArrayList", "java.util.List").contains(imports.group(1)),
                imports.group());
        }
        methodLengths(plain);
    }

    private static void methodLengths(String plain) {
        String[] lines = plain.split("\n");
        for (int from = 0; from < lines.length; from++) {
            String indent = lines[from].replaceAll("\\S.*", "");
            if (lines[from].matches(" +.*\\) \\{") && indent.length() <= 8 && !lines[from].contains(" for (")) {
                int to = from;
                while (to < lines.length - 1 && !lines[to].equals(indent + "}")) {
                    to++;
                }
                check(to - from < 60, "long: " + lines[from].trim());
            }
        }
    }

    private static void face() {
        Class<?> c = SkySpire.class;
        Set<String> names = new TreeSet<>();
        Set<String> found = new TreeSet<>();
        for (Method m : c.getDeclaredMethods()) {
            if (Modifier.isPublic(m.getModifiers())) {
                String sign = m.toString().replaceAll("^.*SkySpire\\.", "");
                check(m.getReturnType() == int.class && !Modifier.isStatic(m.getModifiers()), sign);
                found.add(sign);
                names.add(m.getName());
            }
        }
        check(found.equals(new TreeSet<>(FACE)), "the face is " + found);
        for (Field f : c.getDeclaredFields()) {
            int is = f.getModifiers();
            check(Modifier.isPrivate(is) || f.getName().equals("NONE") && Modifier.isPublic(is), f.getName());
        }
        for (Constructor<?> made : c.getDeclaredConstructors()) {
            check(made.getParameterCount() == 0 && Modifier.isPublic(made.getModifiers()), "constructor");
        }
        check(c.getDeclaredClasses().length <= 12, "classes");
        inside(c, names);
        for (Class<?> in : c.getDeclaredClasses()) {
            check(Modifier.isStatic(in.getModifiers()) && !Modifier.isPublic(in.getModifiers()), in.getName());
            inside(in, names);
        }
    }

    private static void inside(Class<?> c, Set<String> names) {
        int fields = 0;
        for (Field f : c.getDeclaredFields()) {
            fields += Modifier.isStatic(f.getModifiers()) ? 0 : 1;
            check(!Modifier.isStatic(f.getModifiers()) || Modifier.isFinal(f.getModifiers()), f.getName());
        }
        check(fields <= 20, "fields of " + c.getName());
        for (Method m : c.getDeclaredMethods()) {
            check(m.getParameterCount() <= 7, "parameters of " + m.getName());
            check(Modifier.isPublic(m.getModifiers()) || !names.contains(m.getName()), "the name " + m.getName());
        }
    }

    public static void main(String[] args) throws Exception {
        source();
        face();
        System.out.println("LanguageTest: " + (wrong == 0 ? "as due" : wrong + " wrong"));
        if (wrong != 0) {
            System.exit(1);
        }
    }
}
