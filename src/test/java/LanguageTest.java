import java.io.IOException;
import java.lang.reflect.Constructor;
import java.lang.reflect.Field;
import java.lang.reflect.Method;
import java.lang.reflect.Modifier;
import java.nio.file.Files;
import java.nio.file.Path;
import java.util.ArrayList;
import java.util.Arrays;
import java.util.HashSet;
import java.util.List;
import java.util.Map;
import java.util.Set;
import java.util.TreeMap;
import java.util.TreeSet;
import java.util.regex.Matcher;
import java.util.regex.Pattern;

/** The public face of the document, and the rules of the language that the source and reflection show. */
public final class LanguageTest {
    private static final Check C = new Check("LanguageTest");
    private static final Path SOURCE = Path.of("src/main/java/WhereFrom.java");
    private static final Path DOCUMENT = Path.of("../shared/DOC.md");
    private static final List<String> WORDS = List.of("try", "catch", "finally", "synchronized", "assert", "instanceof", "double", "float",
        "System.out", "System.currentTimeMillis", "System.nanoTime", "Random", "Thread", "hashCode", "toString", "Exact", "protected", "->", "::", "throw");

    public static void main(String[] args) throws IOException {
        String source = Files.readString(SOURCE);
        face();
        members();
        words(bare(source));
        methods(source);
        depth(calledBy(bare(source)));
        C.end();
    }

    /** Every signature of the document's face, and no other. */
    private static void face() throws IOException {
        Set<String> due = new TreeSet<>();
        Matcher line = Pattern.compile("^    public (?!static)(.*);$", Pattern.MULTILINE).matcher(Files.readString(DOCUMENT));
        while (line.find()) {
            due.add(line.group(1).replaceAll("(\\w+) \\w+(?=[,)])", "$1"));
        }
        Set<String> got = new TreeSet<>();
        for (Method m : WhereFrom.class.getDeclaredMethods()) {
            if (Modifier.isPublic(m.getModifiers())) {
                got.add(m.getReturnType() + " " + m.getName() + "(" + types(m.getParameterTypes()) + ")");
            }
        }
        for (Constructor<?> c : WhereFrom.class.getDeclaredConstructors()) {
            got.add("WhereFrom(" + types(c.getParameterTypes()) + ")");
        }
        C.due("signatures in the document", due.size(), 38);
        C.holds("the face is the document's: " + due + " and " + got, due.equals(got));
        C.due("NONE", WhereFrom.NONE, -1);
        C.holds("public and final", Modifier.isFinal(WhereFrom.class.getModifiers()) && Modifier.isPublic(WhereFrom.class.getModifiers()));
    }

    private static String types(Class<?>[] types) {
        List<String> names = new ArrayList<>();
        for (Class<?> t : types) {
            names.add(t.getSimpleName());
        }
        return String.join(", ", names);
    }

    private static void members() {
        Set<String> open = new HashSet<>();
        for (Method m : WhereFrom.class.getDeclaredMethods()) {
            if (Modifier.isPublic(m.getModifiers())) {
                open.add(m.getName());
            } else {
                C.holds(m + " is private", m.isSynthetic() || Modifier.isPrivate(m.getModifiers()));
            }
        }
        for (Field f : WhereFrom.class.getDeclaredFields()) {
            C.holds(f + " is private", f.getName().equals("NONE") || Modifier.isPrivate(f.getModifiers()));
        }
        List<Class<?>> all = new ArrayList<>(Arrays.asList(WhereFrom.class.getDeclaredClasses()));
        for (Class<?> c : all) {
            C.holds(c + " is static and not public", Modifier.isStatic(c.getModifiers()) && !Modifier.isPublic(c.getModifiers()));
            for (Method m : c.getDeclaredMethods()) {
                C.holds(m + " bears no name of the face", !open.contains(m.getName()));
            }
        }
        all.add(WhereFrom.class);
        C.holds("at most twelve classes", all.size() <= 12);
        for (Class<?> c : all) {
            int fields = 0;
            for (Field f : c.getDeclaredFields()) {
                fields += Modifier.isStatic(f.getModifiers()) ? 0 : 1;
                C.holds(f + " is no static state", !Modifier.isStatic(f.getModifiers()) || Modifier.isFinal(f.getModifiers()));
            }
            C.holds(c + " has at most twenty fields", fields <= 20);
            for (Method m : c.getDeclaredMethods()) {
                C.holds(m + " has at most seven parameters", m.getParameterCount() <= 7);
            }
        }
    }

    /** The source without comments and texts. */
    private static String bare(String source) {
        return source.replaceAll("(?s)/\\*.*?\\*/", "").replaceAll("//[^\n]*", "").replaceAll("\"[^\"\n]*\"", "\"\"");
    }

    private static void words(String bare) {
        for (String word : WORDS) {
            boolean letters = Character.isLetter(word.charAt(0));
            Pattern p = Pattern.compile((letters ? "\\b" : "") + Pattern.quote(word) + (letters ? "\\b" : ""));
            C.holds("no " + word, !p.matcher(bare).find());
        }
        Matcher imports = Pattern.compile("^import (.*);$", Pattern.MULTILINE).matcher(bare);
        while (imports.find()) {
            C.holds("import " + imports.group(1), Set.of("java.util.Arrays", "java.util.ArrayList", "java.util.List").contains(imports.group(1)));
        }
        Matcher library = Pattern.compile("\\b(Math|Long|Integer|Arrays|System)\\.(\\w+)").matcher(bare);
        Set<String> allowed = Set.of("min", "max", "bitCount", "copyOf", "arraycopy", "MIN_VALUE", "MAX_VALUE");
        while (library.find()) {
            C.holds("library call " + library.group(), allowed.contains(library.group(2)));
        }
        C.holds("no package", !Pattern.compile("^package ", Pattern.MULTILINE).matcher(bare).find());
    }

    /** Methods of some sixty lines at most. */
    private static void methods(String source) {
        int start = -1;
        String indent = "";
        String[] lines = source.split("\n");
        for (int k = 0; k < lines.length; k++) {
            Matcher head = Pattern.compile("^( {4}| {8})(?=\\S)[\\w\\[\\]<> ]+\\([^;]*\\{$").matcher(lines[k]);
            if (start < 0 && head.find()) {
                start = k;
                indent = head.group(1);
            } else if (start >= 0 && lines[k].equals(indent + "}")) {
                C.holds("a short method at line " + (start + 1), k - start <= 60);
                start = -1;
            }
        }
    }

    /** By the name of each method and constructor the names that it calls, the library's too. */
    private static Map<String, Set<String>> calledBy(String bare) {
        Map<String, Set<String>> called = new TreeMap<>();
        Pattern head = Pattern.compile("^( {4}| {8})(?:(?:public|private|static|final) )*(?:[\\w\\[\\]]+ )?(\\w+)\\([^;]*\\{$");
        String method = null;
        String indent = "";
        for (String line : bare.split("\n")) {
            Matcher opens = head.matcher(line);
            if (method == null && opens.find()) {
                indent = opens.group(1);
                method = opens.group(2);
                called.putIfAbsent(method, new TreeSet<>());
            } else if (method != null && line.equals(indent + "}")) {
                method = null;
            } else if (method != null) {
                Matcher call = Pattern.compile("\\b(\\w+)\\(").matcher(line);
                while (call.find()) {
                    called.get(method).add(call.group(1));
                }
            }
        }
        return called;
    }

    /** Rule 11: "calls that are no recursion go at most eight deep". */
    private static void depth(Map<String, Set<String>> called) {
        for (Method m : WhereFrom.class.getDeclaredMethods()) {
            C.holds(m.getName() + " was found in the source", m.isSynthetic() || called.containsKey(m.getName()));
        }
        for (String method : called.keySet()) {
            List<String> deepest = deepest(called, method, new ArrayList<>());
            C.holds("calls at most eight deep: " + deepest, deepest.size() <= 8);
        }
    }

    private static List<String> deepest(Map<String, Set<String>> called, String method, List<String> open) {
        open.add(method);
        List<String> below = new ArrayList<>();
        for (String next : called.getOrDefault(method, Set.of())) {
            boolean isCall = !Set.of("if", "for", "while", "switch").contains(next) && !open.contains(next);
            List<String> path = isCall ? deepest(called, next, open) : List.of();
            below = path.size() > below.size() ? new ArrayList<>(path) : below;
        }
        open.remove(open.size() - 1);
        below.add(0, method);
        return below;
    }
}
