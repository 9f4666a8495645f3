import java.io.IOException;
import java.lang.reflect.Constructor;
import java.lang.reflect.Field;
import java.lang.reflect.Method;
import java.lang.reflect.Modifier;
import java.nio.file.Files;
import java.nio.file.Path;
import java.util.HashMap;
import java.util.HashSet;
import java.util.List;
import java.util.Map;
import java.util.Set;
import java.util.TreeSet;
import java.util.regex.Matcher;
import java.util.regex.Pattern;

/** What of LANGUAGE.md a look at the source and the compiled class can tell. */
public final class Rules {
    private static int passed = 0;
    private static int failed = 0;

    private static final String FACE = "all ahead anew ask back bare best chance change clear cools count decides drawn"
        + " eats end fails fault feed fewest field foe full gain gets grows growers happiest has hates haters hide image"
        + " joy judges kinds lasts lean learn leaves liars lie lies life likely likes loves luck match may mean never on"
        + " open order paste peace plot rate rests row saints smell spoons stay surely swap taste trade trades treaties"
        + " uncle undo ways worth write";

    private static void check(String rule, boolean holds, String what) {
        if (holds) {
            passed++;
        } else {
            failed++;
            System.out.println("rule " + rule + ": " + what);
        }
    }

    private static void checkFace() {
        Set<String> face = new TreeSet<>(Set.of(FACE.split(" ")));
        Set<String> open = new TreeSet<>();
        for (Method m : SpiteField.class.getDeclaredMethods()) {
            if (Modifier.isPublic(m.getModifiers())) {
                open.add(m.getName());
                check("1", m.getReturnType() == int.class, m + " answers no int");
            } else {
                check("1", Modifier.isPrivate(m.getModifiers()), m + " is seen");
                check("1", !face.contains(m.getName()), m + " bears a public name");
            }
        }
        check("1", open.equals(face), "the face is " + open);
        for (Field f : SpiteField.class.getDeclaredFields()) {
            check("1", f.getName().equals("NONE") || Modifier.isPrivate(f.getModifiers()), f + " is seen");
        }
        for (Constructor<?> c : SpiteField.class.getDeclaredConstructors()) {
            check("1", c.getParameterCount() == 0 && Modifier.isPublic(c.getModifiers()), c + " is none of the face");
        }
    }

    private static void checkClass(Class<?> c, Set<String> face) {
        int fields = 0;
        for (Field f : c.getDeclaredFields()) {
            boolean fixed = Modifier.isStatic(f.getModifiers());
            check("5", !fixed || Modifier.isFinal(f.getModifiers()), f + " is static, not final");
            fields += fixed ? 0 : 1;
        }
        check("11", fields <= 20, c + " has " + fields + " fields");
        for (Method m : c.getDeclaredMethods()) {
            check("11", m.getParameterCount() <= 7, m + " takes too many");
            check("2", !m.isSynthetic(), m + " is a lambda's");
            check("1", c == SpiteField.class || !face.contains(m.getName()), m + " bears a public name");
        }
        check("2", c == SpiteField.class || Modifier.isStatic(c.getModifiers()), c + " is not static");
        check("2", !c.isAnonymousClass() && !c.isLocalClass(), c + " is local");
    }

    private static void checkSource(String source) {
        String bare = source.replaceAll("(?s)/\\*.*?\\*/", "").replaceAll("//[^\n]*", "")
            .replaceAll("\"[^\"\n]*\"", "\"\"").replaceAll("'[^'\n]'", "0");
        String[] forbidden = {"throw", "throws", "try", "catch", "synchronized", "assert", "Exact", "hashCode",
            "toString", "volatile", "native", "package", "float", "double", "var"};
        for (String word : forbidden) {
            check("4, 6", !Pattern.compile("\\b" + word + "\\b").matcher(bare).find(), word + " stands there");
        }
        check("2", !bare.contains("->") && !bare.contains("::"), "a lambda, or a method's name as a value");
        Matcher imports = Pattern.compile("import ([^;]+);").matcher(bare);
        while (imports.find()) {
            check("4", imports.group(1).equals("java.util.Arrays"), imports.group() + " is not listed");
        }
        for (int i = 0; i < source.length(); i++) {
            check("4", source.charAt(i) < 128, "a sign above 127 at " + i);
        }
        checkNewness(bare);
        checkLengths(source);
        checkDepth(bare);
    }

    /** Rows are made with the object, never by a call: so no run can fill the room. */
    private static void checkNewness(String bare) {
        Matcher made = Pattern.compile("(?m)^(.*)\\bnew\\b.*$").matcher(bare);
        while (made.find()) {
            boolean inField = made.group().contains("final");
            boolean inConstructor = made.group().matches("\\s*(images|slots|seasons)\\[i\\] = new \\w+\\(\\);");
            check("12", inField || inConstructor, "made by a call: " + made.group().trim());
        }
    }

    private static void checkLengths(String source) {
        String[] lines = source.split("\n");
        int start = -1;
        String indent = "";
        for (int i = 0; i < lines.length; i++) {
            Matcher head = Pattern.compile("^( +)[a-zA-Z][^=;]*\\) \\{$").matcher(lines[i]);
            boolean method = head.find() && !lines[i].matches("^ +(if|for|while|switch|else|return)\\b.*");
            if (start < 0 && method) {
                start = i;
                indent = head.group(1);
            } else if (start >= 0 && lines[i].equals(indent + "}")) {
                check("11", i - start < 60, "long: " + lines[start].trim());
                start = -1;
            }
        }
    }

    /** Methods that share a name count as one, so that the depth told is never too small. */
    private static void checkDepth(String bare) {
        Map<String, Set<String>> calls = new HashMap<>();
        String caller = null;
        for (String line : bare.split("\n")) {
            Matcher head = Pattern.compile("^(?: {4}| {8})[\\w\\[\\] ]* (\\w+)\\([^=;]*\\) \\{$").matcher(line);
            boolean begins = head.find() && !line.matches("^ +(if|for|while|switch|else|return|\\})\\b.*");
            if (begins) {
                caller = head.group(1);
                calls.computeIfAbsent(caller, name -> new TreeSet<>());
            } else if (caller != null) {
                Matcher call = Pattern.compile("(?<!new )\\b(\\w+)\\(").matcher(line);
                while (call.find()) {
                    calls.get(caller).add(call.group(1));
                }
            }
        }
        for (String name : FACE.split(" ")) {
            check("11", calls.containsKey(name), name + " was not found in the source");
            int deep = depth(name, calls, 1);
            check("8, 11", deep <= 8, name + " goes " + deep + " calls deep, or calls itself");
        }
    }

    /** The library's methods count too; a method that calls itself is found by its depth without an end. */
    private static int depth(String name, Map<String, Set<String>> calls, int level) {
        int most = level;
        if (level <= 8) {
            for (String called : calls.getOrDefault(name, Set.of())) {
                most = Math.max(most, List.of("if", "for", "while", "switch").contains(called) ? level
                    : depth(called, calls, level + 1));
            }
        }
        return most;
    }

    public static void main(String[] args) throws IOException {
        checkFace();
        Set<String> face = new HashSet<>(Set.of(FACE.split(" ")));
        checkClass(SpiteField.class, face);
        Class<?>[] inside = SpiteField.class.getDeclaredClasses();
        check("11", inside.length < 12, inside.length + " classes inside");
        for (Class<?> c : inside) {
            checkClass(c, face);
        }
        checkSource(Files.readString(Path.of("src/main/java/SpiteField.java")));
        System.out.println("Rules: " + passed + " passed, " + failed + " failed");
        System.exit(failed == 0 ? 0 : 1);
    }
}
