import java.io.IOException;
import java.lang.reflect.Constructor;
import java.lang.reflect.Field;
import java.lang.reflect.Method;
import java.lang.reflect.Modifier;
import java.nio.charset.StandardCharsets;
import java.nio.file.Files;
import java.nio.file.Path;
import java.util.ArrayList;
import java.util.List;
import java.util.Map;
import java.util.Set;
import java.util.TreeMap;
import java.util.TreeSet;
import java.util.regex.Matcher;
import java.util.regex.Pattern;

/** What LANGUAGE.md rules out is not in the class: rule by rule, as far as a machine can tell. */
public final class LanguageTest {
    private static final Check CHECK = new Check();
    private static final String OWN = "SayingsMerged";
    private static final String[] FORBIDDEN = {
        "\\bthrow\\b", "\\bthrows\\b", "\\btry\\b", "\\bcatch\\b", "\\bfinally\\b", "\\bsynchronized\\b", "\\bassert\\b",
        "->", "::", "Exact\\b", "\\bprotected\\b", "\\bpackage\\b", "\\bSystem\\.(?!arraycopy)", "\\bThread\\b", "\\bRandom\\b"
    };
    /** Rule 4. */
    private static final String[] LIBRARY = {
        "java/lang/Object\\.<init>",
        "java/lang/String\\.(length|charAt|isEmpty|equals|indexOf|substring|toCharArray|<init>)",
        "java/lang/StringBuilder\\.(<init>|append|charAt|setCharAt|setLength|deleteCharAt|reverse|length|toString)",
        "java/util/(ArrayList|List)\\.(<init>|add|get|set|remove|size|isEmpty|clear|iterator|of)",
        "java/lang/(Integer|Long|Math)\\.(?!\\w*Exact$)\\w+",
        "java/lang/System\\.arraycopy",
        "java/util/Arrays\\.(copyOf|copyOfRange|fill)",
        "\\[+[A-Z]\\.clone"
    };
    private static final Set<Class<?>> CONSTANTS = Set.of(int.class, long.class, boolean.class, char.class, String.class,
        int[].class, long[].class, char[].class, byte[].class);

    public static void main(String[] args) throws Exception {
        List<Class<?>> all = new ArrayList<>(List.of(SayingsMerged.class.getDeclaredClasses()));
        all.add(SayingsMerged.class);
        CHECK.due("classes, twelve at most: " + all, all.size() <= 12 ? 1 : 0, 1);
        for (Class<?> one : all) {
            fields(one);
            parameters(one);
        }
        List<Compiled.Routine> routines = Compiled.routinesOf(SayingsMerged.class);
        for (Compiled.Routine r : routines) operations(r);
        depth(routines);
        String code = withoutComments();
        words(code);
        lengths(code);
        CHECK.end("LanguageTest");
    }

    /** Rules 5 and 11. */
    private static void fields(Class<?> of) {
        int own = 0;
        for (Field f : of.getDeclaredFields()) {
            if (!Modifier.isStatic(f.getModifiers())) {
                own++;
                continue;
            }
            CHECK.due("final: " + f, Modifier.isFinal(f.getModifiers()) ? 1 : 0, 1);
            CHECK.due("of a type for constants: " + f, CONSTANTS.contains(f.getType()) ? 1 : 0, 1);
        }
        CHECK.due("fields, twenty at most: " + of, own <= 20 ? 1 : 0, 1);
    }

    /** Rule 11. */
    private static void parameters(Class<?> of) {
        for (Method m : of.getDeclaredMethods()) {
            CHECK.due("parameters, seven at most: " + m, m.getParameterCount() <= 7 ? 1 : 0, 1);
        }
        for (Constructor<?> c : of.getDeclaredConstructors()) {
            CHECK.due("parameters, seven at most: " + c, c.getParameterCount() <= 7 ? 1 : 0, 1);
        }
    }

    /** Rules 2, 4, 6 and 12: what is used; and calls make no objects, so that one room holds any run. */
    private static void operations(Compiled.Routine r) {
        CHECK.due("lambdas in " + r.name, r.operations.contains(Compiled.INVOKEDYNAMIC) ? 1 : 0, 0);
        CHECK.due("throws in " + r.name, r.operations.contains(Compiled.ATHROW) ? 1 : 0, 0);
        CHECK.due("locks in " + r.name, r.operations.contains(Compiled.MONITORENTER) ? 1 : 0, 0);
        boolean isMaker = r.name.endsWith(".<init>") || r.name.endsWith(".<clinit>");
        CHECK.due("objects made in " + r.name, !isMaker && r.makesObjects() ? 1 : 0, 0);
        for (String use : r.uses) {
            boolean fine = use.startsWith(OWN);
            for (String pattern : LIBRARY) fine |= use.matches(pattern);
            CHECK.due(r.name + " uses " + use, fine ? 1 : 0, 1);
        }
    }

    /** Rule 11: calls go eight deep at most, those of a recursion counted once. */
    private static void depth(List<Compiled.Routine> routines) {
        Map<String, Set<String>> calls = new TreeMap<>();
        for (Compiled.Routine r : routines) calls.computeIfAbsent(r.name, n -> new TreeSet<>()).addAll(r.uses);
        for (String from : calls.keySet()) {
            List<String> deepest = deepest(from, calls, new ArrayList<>());
            CHECK.due("deep calls: " + deepest, deepest.size() <= 8 ? 1 : 0, 1);
        }
        CHECK.due("tell() is followed to its letters", deepest(OWN + ".tell", calls, new ArrayList<>()).size() >= 6 ? 1 : 0, 1);
    }

    private static List<String> deepest(String from, Map<String, Set<String>> calls, List<String> open) {
        List<String> best = new ArrayList<>(open);
        if (!calls.containsKey(from) || open.contains(from)) return best;
        open.add(from);
        best.add(from);
        for (String to : calls.get(from)) {
            List<String> way = deepest(to, calls, open);
            if (way.size() > best.size()) best = way;
        }
        open.remove(open.size() - 1);
        return best;
    }

    private static String withoutComments() throws IOException {
        String source = Files.readString(Path.of("src/main/java/SayingsMerged.java"), StandardCharsets.ISO_8859_1);
        return source.replaceAll("(?s)/\\*.*?\\*/", " ").replaceAll("//[^\n]*", " ");
    }

    private static void words(String code) {
        for (String word : FORBIDDEN) {
            CHECK.due("the word " + word, Pattern.compile(word).matcher(code).find() ? 1 : 0, 0);
        }
        Matcher imports = Pattern.compile("import\\s+([^;]+);").matcher(code);
        while (imports.find()) {
            String name = imports.group(1).trim();
            CHECK.due("import " + name, Set.of("java.util.Arrays", "java.util.ArrayList", "java.util.List").contains(name) ? 1 : 0, 1);
        }
    }

    /** Rule 11: a method begins with a line that ends in ") {" and ends with the next "}" at the same margin. */
    private static void lengths(String code) {
        Matcher methods = Pattern.compile("(?m)^( {4}| {8})(?! )(?!if|for|while|switch|\\}).*\\) \\{$").matcher(code);
        int found = 0;
        while (methods.find()) {
            found++;
            int end = code.indexOf("\n" + methods.group(1) + "}", methods.end());
            long lines = code.substring(methods.start(), end).lines().count() + 1;
            CHECK.due("lines, sixty at most: " + methods.group().trim(), lines <= 60 ? 1 : 0, 1);
        }
        CHECK.due("methods were found", found >= 60 ? 1 : 0, 1);
    }
}
