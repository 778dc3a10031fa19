import java.nio.file.Files;
import java.nio.file.Path;
import java.util.ArrayDeque;
import java.util.Deque;
import java.util.LinkedHashMap;
import java.util.LinkedHashSet;
import java.util.Map;
import java.util.Set;
import java.util.TreeSet;
import java.util.regex.Matcher;
import java.util.regex.Pattern;

/**
 * Rules 8 and 11 of LANGUAGE.md: which methods call themselves, and how deep all others go. A call is taken to go to
 * each method of its name, so what is found here is never too little.
 */
public final class CallsTest {
    private static final int DEEPEST = 8;
    /** Those whose depth is carried as an argument: within TESTS, and the turns of a GAME. */
    private static final Set<String> RECURSIVE =
        Set.of("RuleReader.takeTest", "RuleReader.takeFact", "Match.outcomeFrom", "Match.outcomeOfGoing");
    /** Of one name with what they call, but of another class. */
    private static final Set<String> SAME_NAME = Set.of("World.copyFrom", "World.begin");

    private static final Pattern CLASS = Pattern.compile("^(?: {4}private static|public) final class (\\w+) \\{$");
    private static final Pattern METHOD =
        Pattern.compile("^( {4}| {8})(?:(?:public|private|static|final) )*(?:[\\w\\[\\]]+ )?(\\w+)\\([^()]*\\) \\{$");
    private static final Pattern CALL = Pattern.compile("\\b(\\w+)\\(");

    private final Map<String, Set<String>> calls = new LinkedHashMap<>();
    private final Set<String> faces = new TreeSet<>();
    private int wrong;

    private void check(boolean good, String what) {
        if (!good) {
            wrong++;
            System.out.println("CallsTest: " + what);
        }
    }

    private void read(String[] lines) {
        Map<String, String> bodies = new LinkedHashMap<>();
        String in = "";
        for (int from = 0; from < lines.length; from++) {
            Matcher named = CLASS.matcher(lines[from]);
            in = named.matches() ? named.group(1) : in;
            Matcher method = METHOD.matcher(lines[from]);
            if (method.matches()) {
                StringBuilder body = new StringBuilder();
                for (int i = from + 1; !lines[i].equals(method.group(1) + "}"); i++) {
                    body.append(lines[i]).append('\n');
                }
                String key = in + "." + method.group(2);
                bodies.put(key, body.toString());
                if (in.equals("SkySpire") && lines[from].contains(" public ")) {
                    faces.add(key);
                }
            }
        }
        bodies.forEach((key, body) -> calls.put(key, calledIn(body, bodies.keySet())));
    }

    private static Set<String> calledIn(String body, Set<String> all) {
        Set<String> called = new LinkedHashSet<>();
        Matcher call = CALL.matcher(body);
        while (call.find()) {
            all.stream().filter(key -> key.endsWith("." + call.group(1))).forEach(called::add);
        }
        return called;
    }

    /** The longest row of calls in which no method comes twice. */
    private Deque<String> longestFrom(String key, Deque<String> open) {
        open.addLast(key);
        Deque<String> longest = new ArrayDeque<>(open);
        for (String next : calls.get(key)) {
            if (!open.contains(next)) {
                Deque<String> row = longestFrom(next, open);
                longest = row.size() > longest.size() ? row : longest;
            }
        }
        open.removeLast();
        return longest;
    }

    private boolean reaches(String from, String to, Set<String> seen) {
        for (String next : calls.get(from)) {
            if (next.equals(to) || seen.add(next) && reaches(next, to, seen)) {
                return true;
            }
        }
        return false;
    }

    private void checkAll() {
        check(faces.size() == 33, "read " + faces.size() + " public members of 33");
        Deque<String> deepest = new ArrayDeque<>();
        for (String face : faces) {
            Deque<String> row = longestFrom(face, new ArrayDeque<>());
            check(row.size() <= DEEPEST, row.size() + " deep: " + row);
            deepest = row.size() > deepest.size() ? row : deepest;
        }
        Set<String> recursive = new TreeSet<>();
        for (String key : calls.keySet()) {
            if (reaches(key, key, new LinkedHashSet<>()) && !SAME_NAME.contains(key)) {
                recursive.add(key);
            }
        }
        check(recursive.equals(new TreeSet<>(RECURSIVE)), "recursion: " + recursive);
        System.out.println("CallsTest: " + (wrong == 0 ? "as due" : wrong + " wrong") + ", the deepest of "
            + calls.size() + " methods " + deepest.size());
    }

    public static void main(String[] args) throws Exception {
        CallsTest test = new CallsTest();
        String source = Files.readString(Path.of("src/main/java/SkySpire.java"));
        test.read(source.replaceAll("//[^\n]*", "").replaceAll("\"[^\"\n]*\"", "\"\"").split("\n"));
        test.checkAll();
        if (test.wrong != 0) {
            System.exit(1);
        }
    }
}
