import java.io.IOException;
import java.lang.reflect.Constructor;
import java.lang.reflect.Field;
import java.lang.reflect.Method;
import java.lang.reflect.Modifier;
import java.nio.file.Files;
import java.nio.file.Path;
import java.util.List;
import java.util.Map;
import java.util.Set;
import java.util.TreeMap;
import java.util.TreeSet;
import java.util.regex.Matcher;
import java.util.regex.Pattern;

/** Rules of LANGUAGE.md that show in the text or the shape of the class, and its face. */
public final class LanguageTest {
    private static final Path SOURCE = Path.of("src/main/java/LosersBooks.java");
    private static final String FACE = "int feed(int,int,int,int,int) boolean end(int) int fault(int) int text(int)"
        + " int kingdom(int,int) int field(int,int) boolean law(int) boolean intrigue(int) int year() int hold(int)"
        + " int arm(int) int teach(int) int swear(int) int burn(int) int give(int) int years(int,long) int undo()"
        + " int log(int,int) int step(int,int,int) int run(int,int) int perform(int) int force(int,int) int wins(int)"
        + " int shelf(int,int) int scheme(int,int,int) int peace() int last(int) int told(int,int,int)"
        + " int biases(int,int) int truths(int,int) int read(int) int game(int,int,int,int) int rests(int,int)"
        + " int odds(int,int,int) int shares(int,int) int all(int) int page(int,int) int wars(int,int) int image()"
        + " int back() int count(int)";

    private LanguageTest() {
    }

    public static void main(String[] args) throws IOException {
        String text = Files.readString(SOURCE);
        face();
        imports(text);
        String code = text.replaceAll("(?s)/\\*.*?\\*/", "").replaceAll("//[^\n]*", "");
        forbidden(code.replaceAll("\"[^\"\n]*\"", "\"\"").replaceAll("'[^'\n]'", "' '"));
        methods(code);
        handedOut(code);
        signs(text);
        Check.end();
    }

    private static void face() {
        Set<String> want = new TreeSet<>(List.of(FACE.split(" (?=int |boolean )")));
        Set<String> got = new TreeSet<>();
        Set<String> names = new TreeSet<>();
        for (Method m : LosersBooks.class.getDeclaredMethods()) {
            if (!Modifier.isPrivate(m.getModifiers())) {
                StringBuilder b = new StringBuilder(m.getReturnType().getName()).append(' ').append(m.getName()).append('(');
                for (Class<?> type : m.getParameterTypes()) {
                    b.append(b.charAt(b.length() - 1) == '(' ? "" : ",").append(type.getName());
                }
                got.add(b.append(')').toString());
                names.add(m.getName());
            }
        }
        same("the face", got, want);
        for (Method m : LosersBooks.class.getDeclaredMethods()) {
            Check.due("private " + m.getName() + " bears a public name",
                Modifier.isPrivate(m.getModifiers()) && names.contains(m.getName()), false);
        }
        for (Class<?> inner : LosersBooks.class.getDeclaredClasses()) {
            for (Method m : inner.getDeclaredMethods()) {
                Check.due(inner + "." + m.getName() + " bears a public name", names.contains(m.getName()), false);
            }
            Check.due(inner + " has more than twenty fields", ownFields(inner) > 20, false);
        }
        Check.due("more than twenty fields", ownFields(LosersBooks.class) > 20, false);
        for (Field f : LosersBooks.class.getDeclaredFields()) {
            boolean constant = f.getName().equals("NONE") || f.getName().equals("HIDDEN");
            Check.due("field " + f.getName() + " is private", Modifier.isPrivate(f.getModifiers()), !constant);
        }
        Constructor<?>[] made = LosersBooks.class.getDeclaredConstructors();
        Check.due("constructors", made.length, 1);
        Check.due("without parameters", made[0].getParameterCount(), 0);
        Check.due("final", Modifier.isFinal(LosersBooks.class.getModifiers()), true);
        Check.due("classes inside", LosersBooks.class.getDeclaredClasses().length <= 12, true);
        for (Class<?> inner : LosersBooks.class.getDeclaredClasses()) {
            Check.due(inner + " is private and static", inner.getModifiers() & (Modifier.PUBLIC | Modifier.STATIC),
                Modifier.STATIC);
        }
    }

    private static int ownFields(Class<?> type) {
        int fields = 0;
        for (Field f : type.getDeclaredFields()) {
            fields += Modifier.isStatic(f.getModifiers()) ? 0 : 1;
        }
        return fields;
    }

    private static void same(String what, Set<String> got, Set<String> want) {
        if (!got.equals(want)) {
            System.out.println(what + ": " + got + ", due is " + want);
        }
        Check.due(what, got.equals(want), true);
    }

    private static void imports(String text) {
        Set<String> got = new TreeSet<>();
        Matcher m = Pattern.compile("(?m)^import ([^;]+);").matcher(text);
        while (m.find()) {
            got.add(m.group(1));
        }
        Set<String> may = Set.of("java.util.ArrayList", "java.util.Arrays", "java.util.List", "java.util.NoSuchElementException");
        Check.due("imports " + got, may.containsAll(got), true);
        Check.due("package line", text.contains("\npackage ") || text.startsWith("package "), false);
    }

    private static void forbidden(String code) {
        String[] patterns = {"->", "::", "\\btry\\b", "\\bcatch\\b", "\\bfinally\\b", "\\bassert\\b", "\\bsynchronized\\b",
            "\\bvar\\b", "\\w+Exact\\b", "\\bdouble\\b", "\\bfloat\\b", "\"\"\\s*\\+", "\\+\\s*\"\"", "\\bhashCode\\b",
            "\\btoString\\b", "\\binterface\\b", "while \\(true\\)", "for \\(;;", "System\\.(?!arraycopy)",
            "Math\\.(?!max|min|floorMod)", "Integer\\.(?!bitCount)", "Arrays\\.(?!fill)", "\\[\\]\\[\\]", "\\bstatic \\{"};
        for (String pattern : patterns) {
            Matcher m = Pattern.compile(pattern).matcher(code);
            boolean there = m.find();
            Check.due("there is " + pattern + (there ? ": " + code.substring(m.start(), Math.min(code.length(), m.end() + 20)) : ""),
                there, false);
        }
        Matcher thrown = Pattern.compile("throw (?!new (NoSuchElementException)\\(\"\"\\);)").matcher(code);
        Check.due("another throw", thrown.find(), false);
    }

    /** How long methods are, and how many parameters they take. */
    private static void methods(String code) {
        Map<String, Integer> lines = new TreeMap<>();
        String[] rows = code.split("\n");
        Pattern head = Pattern.compile("^( {4}| {8})(?! )[\\w\\[\\] ]*\\b(\\w+)\\(([^)]*)\\)[^;]*\\{$");
        for (int i = 0; i < rows.length; i++) {
            Matcher m = head.matcher(rows[i]);
            if (!m.matches() || Set.of("if", "for", "while", "switch").contains(m.group(2))) {
                continue;
            }
            Check.due(m.group(2) + " takes more than seven", m.group(3).split(",").length > 7, false);
            int end = i;
            while (!rows[end].equals(m.group(1) + "}")) {
                end++;
            }
            lines.merge(m.group(2), end - i + 1, Math::max);
        }
        Check.due("methods were found", lines.size() > 60, true);
        for (Map.Entry<String, Integer> one : lines.entrySet()) {
            Check.due(one.getKey() + " has " + one.getValue() + " lines", one.getValue() > 60, false);
        }
    }

    /** Rule 12: a constructor, and what stands behind a field's =, gives no part of the new object to another one. */
    private static void handedOut(String code) {
        Matcher field = Pattern.compile("(?m)^ +(?:private |static |final )+[\\w\\[\\]]+ \\w+ = new \\w+\\([^)].*$").matcher(code);
        boolean there = field.find();
        Check.due("a field is made of another" + (there ? ": " + field.group().trim() : ""), there, false);
        Check.due("the object itself is handed out", Pattern.compile("\\bthis\\b(?!\\.)").matcher(code).find(), false);
    }

    private static void signs(String text) {
        for (char c : text.toCharArray()) {
            if (c > 126 || c < 32 && c != '\n') {
                Check.due("a sign that is none", c, ' ');
            }
        }
    }
}
