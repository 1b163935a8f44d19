import java.lang.reflect.Method;
import java.lang.reflect.Modifier;
import java.nio.file.Files;
import java.nio.file.Path;
import java.util.ArrayList;
import java.util.List;
import java.util.Map;
import java.util.TreeMap;
import java.util.regex.Matcher;
import java.util.regex.Pattern;

/** README.md: its examples answer what they say; its tables tell every call and every letter. */
public final class ReadmeTest {
    private static final Pattern ASKED = Pattern.compile("x\\.(\\w+)\\(([^)]*)\\);\\s*// (-?\\d+)(?:: .*)?");
    private static final Pattern TYPED = Pattern.compile("for \\(char c : \"([^\"]*)\"\\.toCharArray\\(\\)\\) x\\.type\\((\\d), c\\);");
    private static final Pattern ROW = Pattern.compile("\\| `(\\w+)\\(([^)]*)\\)` \\|.*\\| ([^|]*) \\|");
    private static final Pattern LETTER_ROW = Pattern.compile("\\| `(\\w)` \\| (\\d) \\| (\\d+)(?: to |, )(\\d+) \\| (\\d+) \\|.*");
    private static final Pattern ANSWER_ROW = Pattern.compile("\\| (-\\d+) \\| (?:`(\\w+)`|finding (\\d), (\\w+)) \\|.*");
    private static final String LETTERS = "bsptawnoc";

    private static final Map<String, Method> FACE = new TreeMap<>();
    private static int checks = 0;
    private static int wrong = 0;

    private static void due(String what, Object got, Object want) {
        checks++;
        if (!got.equals(want)) {
            wrong++;
            System.out.println(what + ": " + got + ", due is " + want);
        }
    }

    public static void main(String[] args) throws Exception {
        for (Method m : WhoseName.class.getDeclaredMethods()) {
            if (Modifier.isPublic(m.getModifiers())) {
                FACE.put(m.getName(), m);
            }
        }
        List<String> lines = Files.readAllLines(Path.of("README.md"));
        examples(lines);
        calls(lines);
        letters(lines);
        refusals(lines);
        System.out.println(wrong == 0 ? checks + " things that README.md says are so" : wrong + " of " + checks + " are not so");
        if (wrong != 0) {
            System.exit(1);
        }
    }

    private static void examples(List<String> lines) throws Exception {
        WhoseName x = null;
        boolean isCode = false;
        int asked = 0;
        for (String line : lines) {
            if (line.startsWith("```")) {
                isCode = line.equals("```java");
            } else if (isCode && line.equals("WhoseName x = new WhoseName();")) {
                x = new WhoseName();
            } else if (isCode) {
                asked += example(x, line);
            }
        }
        due("enough examples", asked > 30, true);
    }

    private static int example(WhoseName x, String line) throws Exception {
        Matcher typed = TYPED.matcher(line);
        if (typed.matches()) {
            for (char c : typed.group(1).toCharArray()) {
                x.type(Integer.parseInt(typed.group(2)), c);
            }
            return 0;
        }
        Matcher asked = ASKED.matcher(line);
        due("an example that can be read: " + line, asked.matches(), true);
        if (asked.matches()) {
            due(line, call(x, asked.group(1), asked.group(2)), Long.parseLong(asked.group(3)));
        }
        return 1;
    }

    private static long call(WhoseName x, String name, String arguments) throws Exception {
        List<Object> values = new ArrayList<>();
        for (String a : arguments.split(", ")) {
            values.add(a.startsWith("'") ? (int) a.charAt(1) : Integer.parseInt(a));
        }
        return ((Number) FACE.get(name).invoke(x, values.toArray())).longValue();
    }

    /** Every call stands in the table, once, with the parameters of the face. */
    private static void calls(List<String> lines) throws Exception {
        String source = Files.readString(Path.of("src/main/java/WhoseName.java"));
        List<String> told = new ArrayList<>();
        for (String line : lines) {
            Matcher row = ROW.matcher(line);
            if (!row.matches()) {
                continue;
            }
            String name = row.group(1);
            told.add(name);
            String typed = row.group(2).isEmpty() ? "" : "int " + row.group(2).replace(", ", ", int ");
            due("the parameters of " + name, source.contains("    public " + (name.equals("digest") ? "long " : "int ") + name + "(" + typed + ")"), true);
            refusedWith(name, row.group(3));
        }
        due("calls told", told.stream().sorted().toList(), List.copyOf(FACE.keySet()));
    }

    /** What the row has is what the document has at the promise of that name. */
    private static void refusedWith(String name, String told) throws Exception {
        Path document = Path.of("..", "shared", "DOC.md");
        if (!Files.exists(document)) {
            return;
        }
        String text = Files.readString(document);
        Matcher promise = Pattern.compile("## Promise \\d+: " + name + "\\n\\n([^\\n]*)").matcher(text);
        due("a promise of " + name, promise.find(), true);
        String words = promise.group(1);
        for (String refusal : List.of("BAD", "NULL", "NOT", "FULL", "CAST", "STORE", "INDEX", "SIZE")) {
            due(name + " " + refusal, told.matches(".*\\b" + refusal + "\\b.*"), words.matches(".*\\b" + refusal + "\\b.*"));
        }
    }

    /** The edges and the first number of each letter, asked of the class. */
    private static void letters(List<String> lines) {
        StringBuilder told = new StringBuilder();
        for (String line : lines) {
            Matcher row = LETTER_ROW.matcher(line);
            if (!row.matches()) {
                continue;
            }
            char letter = row.group(1).charAt(0);
            int which = Integer.parseInt(row.group(2)), least = Integer.parseInt(row.group(3));
            int most = Integer.parseInt(row.group(4)), first = Integer.parseInt(row.group(5));
            told.append(letter);
            due("the number of " + letter, which, LETTERS.indexOf(letter));
            due("without " + letter, new WhoseName().law(0, which), first);
            due("the least of " + letter, typed(letter, least).law(0, which), least);
            due("the most of " + letter, typed(letter, most).law(0, which), most);
            due("beyond the most of " + letter, typed(letter, most + 1).fault(0), most == 99 ? 4 : 2);
        }
        due("letters told", told.toString(), LETTERS);
    }

    private static WhoseName typed(char letter, int number) {
        WhoseName x = new WhoseName();
        for (char c : (letter + "=" + number).toCharArray()) {
            x.type(0, c);
        }
        return x;
    }

    private static void refusals(List<String> lines) throws Exception {
        List<Integer> told = new ArrayList<>();
        for (String line : lines) {
            Matcher row = ANSWER_ROW.matcher(line);
            if (!row.matches()) {
                continue;
            }
            int answer = Integer.parseInt(row.group(1));
            told.add(answer);
            if (row.group(2) != null) {
                due(row.group(2), WhoseName.class.getField(row.group(2)).getInt(null), answer);
            } else {
                due(row.group(4), -10 - Integer.parseInt(row.group(3)), answer);
            }
        }
        due("refusals told", told, List.of(-2, -3, -4, -11, -12, -13, -14, -15));
    }
}
