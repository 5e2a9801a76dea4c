import java.lang.reflect.Constructor;
import java.lang.reflect.Field;
import java.lang.reflect.Member;
import java.lang.reflect.Method;
import java.lang.reflect.Modifier;
import java.nio.file.Files;
import java.nio.file.Path;
import java.util.Arrays;
import java.util.HashSet;
import java.util.List;
import java.util.Set;
import java.util.TreeSet;
import java.util.regex.Matcher;
import java.util.regex.Pattern;

/** The face of the document, and what of LANGUAGE.md can be seen in the class and its text. */
public final class LanguageTest {
    private static final String[] FACE = {
        "int feed(int,int,int,int,int)", "int race(int)", "int fault()", "int told(int)", "int shop(int,int)",
        "long worth(int,int,int,int)", "int doing(int,int,int,int)", "long gain(int,int,int)", "int unrest()",
        "int rule(int,int,int,int)", "int follow()", "long judged(int)", "int breaks()", "long alone(int,int,int)",
        "int best(int,int,int)", "long answer(int,int)", "long first(int)", "long late()", "long waste()", "int harder()",
        "int behind()", "int leavers(int)", "long joined(int,int)", "long sold(int,int)", "int offer(int)", "int king(int)",
        "int entry(int)", "int edge()", "int run(int,int)", "int image()", "int restore()", "int count(int)"};

    private static final String[] NOT_IN_TEXT = {"->", "::", "Exact(", "finally", "synchronized", "assert ", "catch", "double", "float",
        "Object", "getClass", "System.out", "Random", "Thread", "nanoTime", "hashCode", "toString", "\" +", "+ \"", "static {"};

    private static int wrong;

    private static void check(boolean right, String text) {
        if (!right) {
            wrong++;
            System.out.println(text);
        }
    }

    public static void main(String[] args) throws Exception {
        String file = args.length > 0 ? args[0] : "src/main/java/PatentRaces.java";
        String text = Files.readString(Path.of(file));
        face();
        classes();
        words(text);
        methods(text);
        room();
        System.out.println(wrong == 0 ? "the rules are kept" : wrong + " rules are not kept");
        if (wrong > 0) {
            System.exit(1);
        }
    }

    private static void face() {
        Class<?> c = PatentRaces.class;
        check(Modifier.isFinal(c.getModifiers()) && Modifier.isPublic(c.getModifiers()), "rule 1: public and final");
        Set<String> due = new TreeSet<>(Arrays.asList(FACE));
        Set<String> publics = new TreeSet<>();
        Set<String> names = new HashSet<>();
        for (Method m : c.getDeclaredMethods()) {
            if (Modifier.isPublic(m.getModifiers())) {
                StringBuilder s = new StringBuilder(m.getReturnType().getName()).append(' ').append(m.getName()).append('(');
                for (int i = 0; i < m.getParameterCount(); i++) {
                    s.append(i > 0 ? "," : "").append(m.getParameterTypes()[i].getName());
                }
                publics.add(s.append(')').toString());
                names.add(m.getName());
            } else {
                mustBePrivate(m);
            }
        }
        check(publics.equals(due), "rule 1: the face is " + publics);
        for (Field f : c.getDeclaredFields()) {
            if (!f.getName().equals("NONE")) {
                mustBePrivate(f);
            }
        }
        for (Class<?> one : all()) {
            for (Method m : one.getDeclaredMethods()) {
                boolean own = Modifier.isPublic(m.getModifiers()) && one == c;
                check(own || !names.contains(m.getName()), "rule 1: a name of the face: " + m);
            }
        }
    }

    private static void mustBePrivate(Member m) {
        check(Modifier.isPrivate(m.getModifiers()), "rule 1: " + m + " is not private");
    }

    private static List<Class<?>> all() {
        List<Class<?>> all = new java.util.ArrayList<>(List.of(PatentRaces.class.getDeclaredClasses()));
        all.add(PatentRaces.class);
        return all;
    }

    private static void classes() {
        check(all().size() <= 12, "rule 11: too many classes");
        for (Class<?> c : all()) {
            check(c == PatentRaces.class || Modifier.isStatic(c.getModifiers()), "rule 2: " + c + " is not static");
            int fields = 0;
            for (Field f : c.getDeclaredFields()) {
                if (Modifier.isStatic(f.getModifiers())) {
                    check(Modifier.isFinal(f.getModifiers()), "rule 5: " + f);
                    check(Set.of("int", "long", "boolean", "char", "java.lang.String", "[I", "[J", "[C", "[B")
                            .contains(f.getType().getName()), "rule 5: " + f);
                } else {
                    fields++;
                }
            }
            check(fields <= 20, "rule 11: " + c + " has " + fields + " fields");
            for (Method m : c.getDeclaredMethods()) {
                check(m.getParameterCount() <= 7, "rule 11: " + m);
            }
            for (Constructor<?> k : c.getDeclaredConstructors()) {
                check(k.getParameterCount() <= 7, "rule 11: " + k);
            }
        }
    }

    private static void words(String text) {
        check(text.chars().allMatch(x -> x == '\n' || x >= 32 && x < 127), "rule 4: another sign than 1 to 127");
        String code = text.replaceAll("(?s)/\\*.*?\\*/", "").replaceAll("//.*", "");
        for (String word : NOT_IN_TEXT) {
            check(!code.contains(word), "rules 2 to 6, 10 and 13: " + word);
        }
        Matcher imports = Pattern.compile("import (.*);").matcher(code);
        while (imports.find()) {
            check(imports.group(1).equals("java.util.NoSuchElementException"), "rule 4: " + imports.group());
        }
        // What a call makes stays in the room: objects and arrays are made for fields alone.
        for (String line : code.split("\n")) {
            boolean field = line.matches(" +(private )?final .* = new .*;");
            boolean inConstructor = line.contains("images[i] = new Desk()") || line.contains("this.week = new Week(race)");
            check(!line.contains("new ") || field || inConstructor || line.contains("throw new "), "rule 12: " + line.trim());
        }
    }

    /** All that an object holds: calls make no more, so this is what one takes of the room. */
    private static void room() throws IllegalAccessException {
        Set<Object> seen = java.util.Collections.newSetFromMap(new java.util.IdentityHashMap<>());
        long elements = measure(new PatentRaces(), seen);
        check(seen.size() < 200 && elements < 30_000, "the room: " + seen.size() + " objects, " + elements + " elements");
    }

    private static long measure(Object o, Set<Object> seen) throws IllegalAccessException {
        if (o == null || !seen.add(o)) {
            return 0;
        }
        long elements = 0;
        if (o.getClass().isArray()) {
            elements += java.lang.reflect.Array.getLength(o);
            for (int i = 0; i < elements && o instanceof Object[] row && i < row.length; i++) {
                elements += measure(row[i], seen);
            }
            return elements;
        }
        for (Field f : o.getClass().getDeclaredFields()) {
            if (!Modifier.isStatic(f.getModifiers())) {
                elements++;
                f.setAccessible(true);
                elements += f.getType().isPrimitive() ? 0 : measure(f.get(o), seen);
            }
        }
        return elements;
    }

    private static void methods(String text) {
        String[] lines = text.split("\n");
        String head = null;
        int from = 0;
        for (int i = 0; i < lines.length; i++) {
            if (head == null && lines[i].matches("( {4}| {8})[a-zA-Z].*[({].*") && lines[i].matches(".*\\) *(throws .*)?\\{")
                    && !lines[i].matches(".*\\b(class|if|for|while|switch)\\b.*")) {
                head = lines[i];
                from = i;
            } else if (head != null && lines[i].equals(head.replaceAll("\\S.*", "") + "}")) {
                check(i - from < 60, "rule 11: " + (i - from) + " lines: " + head.trim());
                head = null;
            }
        }
    }
}
