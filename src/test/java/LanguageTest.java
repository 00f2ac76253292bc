import java.io.IOException;
import java.lang.reflect.Constructor;
import java.lang.reflect.Field;
import java.lang.reflect.Method;
import java.lang.reflect.Modifier;
import java.nio.file.Files;
import java.nio.file.Path;
import java.util.Set;
import java.util.TreeSet;
import java.util.regex.Matcher;
import java.util.regex.Pattern;

/** The face of the class, and the rules of LANGUAGE.md that can be told from the source; run from the root. */
public final class LanguageTest {
    private static final Check check = new Check();
    private static final String FACE = """
            int row(int,int)|int lay(int,int,int)|int at(int,int)|int tear(int)|int copy(int,int,int,int,int)|\
            int mean(int)|int text(int,int)|int put(int,int,int)|int fault(int)|int camp(int)|int hill(int,int)|\
            int tent(int,int)|int mark(int,int)|int speak(int)|int day()|int change(int,int)|int undo(int)|\
            int keep(int)|int on(int)|int only(int,int)|int hidden()|int fewest()|int waits(int,int)|\
            int curse(int)|int spare(int)|int orders(int)|int rides(int)|int blessed()|int fees(int,int,int,int)|\
            int from(int)|int kinds(int,int)|int given(int,int,int)|int king(int)|int odds(int,int)|int mid(int)|\
            int lots(int,int)|int asked()|long upper()|long lower()|int count(int)|int finding()|\
            int findings(int)|long digest()""";

    public static void main(String[] args) throws IOException {
        face();
        names();
        String source = Files.readString(Path.of("src/main/java/HillSeer.java"));
        faceOfDocument(source);
        source(source);
        check.end();
    }

    private static void face() {
        Set<String> found = new TreeSet<>();
        for (Method method : HillSeer.class.getDeclaredMethods()) {
            if (!Modifier.isPrivate(method.getModifiers())) {
                StringBuilder types = new StringBuilder();
                for (Class<?> type : method.getParameterTypes()) {
                    types.append(types.length() == 0 ? "" : ",").append(type.getName());
                }
                found.add(method.getReturnType() + " " + method.getName() + "(" + types + ")");
                check.due(method.getName() + " is public", method.getModifiers(), Modifier.PUBLIC);
            }
        }
        check.due("the face " + found, found.equals(new TreeSet<>(Set.of(FACE.split("\\|")))) ? 1 : 0, 1);
        for (Constructor<?> constructor : HillSeer.class.getDeclaredConstructors()) {
            check.due("the constructor", constructor.getModifiers() + constructor.getParameterCount(), 1);
        }
        Set<String> constants = new TreeSet<>();
        for (Field field : HillSeer.class.getDeclaredFields()) {
            if (!Modifier.isPrivate(field.getModifiers())) {
                constants.add(field.getName());
            }
        }
        check.due("the constants " + constants,
                constants.equals(Set.of("BAD", "FULL", "FINDING", "STATE", "SPENT", "NONE")) ? 1 : 0, 1);
    }

    /** Every line of the document's face, names of numbers and all, stands in the source. */
    private static void faceOfDocument(String source) throws IOException {
        Path path = Path.of("../shared/DOC.md");
        if (!Files.exists(path)) {
            return;
        }
        String document = Files.readString(path);
        int from = document.indexOf("```java\n");
        int lines = 0;
        for (String line : document.substring(from + 8, document.indexOf("\n```", from + 8)).split("\n")) {
            boolean isCall = line.endsWith(");");
            String due = isCall ? line.replace(");", ") {") : line;
            check.due("the source says: " + due.trim(), source.contains("\n" + due + "\n") ? 1 : 0, 1);
            lines += isCall ? 1 : 0;
        }
        check.due("the constructor and the methods of the document", lines, 1 + FACE.split("\\|").length);
    }

    private static void names() {
        Set<String> open = new TreeSet<>();
        for (Method method : HillSeer.class.getMethods()) {
            open.add(method.getName());
        }
        Set<Class<?>> all = new java.util.LinkedHashSet<>();
        all.add(HillSeer.class);
        all.addAll(Set.of(HillSeer.class.getDeclaredClasses()));
        check.due("some twelve classes", all.size() <= 12 ? 1 : 0, 1);
        for (Class<?> type : all) {
            for (Method method : type.getDeclaredMethods()) {
                if (!Modifier.isPublic(method.getModifiers())) {
                    check.due(method + " bears a public name", open.contains(method.getName()) ? 1 : 0, 0);
                }
                check.due(method + " has at most seven parameters", method.getParameterCount() <= 7 ? 1 : 0, 1);
            }
            int fields = 0;
            for (Field field : type.getDeclaredFields()) {
                fields += Modifier.isStatic(field.getModifiers()) ? 0 : 1;
            }
            check.due(type + " has some twenty fields", fields <= 20 ? 1 : 0, 1);
        }
    }

    private static void source(String source) {
        String code = source.replaceAll("(?s)/\\*.*?\\*/", "").replaceAll("//[^\n]*", "");
        absent(code, "\\b(throw|throws|try|catch|synchronized|assert|import|package|native|volatile)\\b");
        absent(code, "->|::|@");
        absent(code, "\\b(hashCode|toString|equals|System\\.(?!arraycopy)\\w+|\\w+Exact)\\b");
        absent(code, "\\bstatic\\s+\\{");
        Matcher made = Pattern.compile("\\bnew\\s+\\w+").matcher(code);
        Set<String> seen = new TreeSet<>();
        while (made.find()) {
            seen.add(made.group());
        }
        seen.removeAll(Set.of("new Sheet", "new Reader", "new Land", "new Camp", "new OrderSearch", "new Hill",
                "new boolean", "new int"));
        check.due("nothing else is made: " + seen, seen.size(), 0);
        absent(code, "(?m)^(?!.*(private final \\w+(\\[\\])? \\w+|rows\\[r\\]|texts\\[t\\]|kept\\[k\\]|hills\\[h\\]|places)"
                + " = new ).*\\bnew\\b");
        library(code);
        longMethods(code);
    }

    /** What is called by a name of a class stands in rule 4, or is the source's own. */
    private static void library(String code) {
        Set<String> called = new TreeSet<>();
        Matcher call = Pattern.compile("\\b[A-Z]\\w*\\.\\w+(?=\\()").matcher(code);
        while (call.find()) {
            called.add(call.group());
        }
        called.removeAll(Set.of("Math.max", "Math.min", "Integer.bitCount", "System.arraycopy", "Hill.sumOf"));
        check.due("nothing else of the library is called: " + called, called.size(), 0);
        absent(code, "\\b(String|StringBuilder|double|float|List|ArrayList|Object|var|enum|interface|Iterator)\\b");
    }

    private static void absent(String code, String pattern) {
        Matcher matcher = Pattern.compile(pattern).matcher(code);
        check.due("the source holds no " + pattern, matcher.find() ? 1 : 0, 0);
    }

    private static void longMethods(String code) {
        int lines = 0;
        for (String line : code.split("\n")) {
            boolean isHead = line.matches("    (    )?(public|private|static|int|void|boolean|long)[^=;]*\\{");
            lines = isHead ? 0 : lines + 1;
            if (line.matches("    (    )?}")) {
                check.due("a method that ends with so many lines is short: " + lines, lines <= 60 ? 1 : 0, 1);
                lines = 0;
            }
        }
    }
}
