import java.io.IOException;
import java.lang.reflect.Field;
import java.lang.reflect.Method;
import java.lang.reflect.Modifier;
import java.nio.file.Files;
import java.nio.file.Path;
import java.util.Map;
import java.util.Set;
import java.util.TreeMap;
import java.util.TreeSet;
import java.util.regex.Matcher;
import java.util.regex.Pattern;

/** The face of the class, and those rules of LANGUAGE.md that can be seen from names and words. */
public final class LanguageTest {
    private static final String FACE = "draws/5 rubs/5 moves/3 means/3 pins/3 forgets/0 at/3 node/3 count/1 gateAt/2"
        + " gate/2 wire/2 ways/0 matched/1 net/1 device/2 pin/2 hangs/1 type/1 clear/0 does/0 back/0 told/1 digest/0";
    private static final Due due = new Due("language");

    public static void main(String[] args) throws IOException {
        face();
        classesInside();
        words(Files.readString(Path.of("src/main/java/DrawnGates.java")));
        due.end();
    }

    private static void face() {
        Set<String> want = new TreeSet<>(Set.of(FACE.split(" ")));
        Set<String> got = new TreeSet<>();
        Set<String> publicNames = new TreeSet<>();
        for (Method m : DrawnGates.class.getDeclaredMethods()) {
            if (Modifier.isPublic(m.getModifiers())) {
                got.add(m.getName() + "/" + m.getParameterCount());
                publicNames.add(m.getName());
                Class<?> type = m.getName().equals("digest") ? long.class : int.class;
                due.is(m.getName() + " answers its type", m.getReturnType() == type ? 1 : 0, 1);
            } else {
                due.is(m.getName() + " is private", Modifier.isPrivate(m.getModifiers()) ? 1 : 0, 1);
            }
        }
        due.is("the methods " + got, got.equals(want) ? 1 : 0, 1);
        for (Class<?> c : DrawnGates.class.getDeclaredClasses()) {
            for (Method m : c.getDeclaredMethods()) {
                due.is(m.getName() + " is no public name", publicNames.contains(m.getName()) ? 1 : 0, 0);
            }
        }
        for (Method m : DrawnGates.class.getDeclaredMethods()) {
            if (!Modifier.isPublic(m.getModifiers())) {
                due.is(m.getName() + " is no public name", publicNames.contains(m.getName()) ? 1 : 0, 0);
            }
        }
        due.is("constructors", DrawnGates.class.getConstructors().length, 1);
        due.is("the class is final", Modifier.isFinal(DrawnGates.class.getModifiers()) ? 1 : 0, 1);
        due.is("NONE", DrawnGates.NONE, -1);
        due.is("BAD", DrawnGates.BAD, -2);
        due.is("NO", DrawnGates.NO, -3);
        due.is("FULL", DrawnGates.FULL, -4);
    }

    private static void classesInside() {
        fields(DrawnGates.class);
        Class<?>[] inside = DrawnGates.class.getDeclaredClasses();
        due.is("at most twelve classes", inside.length < 12 ? 1 : 0, 1);
        for (Class<?> c : inside) {
            due.is(c.getName() + " is static", Modifier.isStatic(c.getModifiers()) ? 1 : 0, 1);
            due.is(c.getName() + " is not public", Modifier.isPublic(c.getModifiers()) ? 1 : 0, 0);
            fields(c);
            for (Method m : c.getDeclaredMethods()) {
                due.is(m.getName() + " has seven parameters at most", m.getParameterCount() <= 7 ? 1 : 0, 1);
            }
        }
    }

    private static void fields(Class<?> c) {
        int own = 0;
        for (Field f : c.getDeclaredFields()) {
            int is = f.getModifiers();
            if (Modifier.isStatic(is)) {
                due.is(f.getName() + " is final", Modifier.isFinal(is) ? 1 : 0, 1);
            } else {
                own++;
            }
            boolean constant = Modifier.isPublic(is) && f.getType() == int.class && "NONE BAD NO FULL".contains(f.getName());
            due.is(f.getName() + " is not of the face", constant || !Modifier.isPublic(is) ? 1 : 0, 1);
            if (c == DrawnGates.class && !constant) {
                due.is(f.getName() + " is private", Modifier.isPrivate(is) ? 1 : 0, 1);
            }
        }
        due.is(c.getName() + " has some twenty fields at most", own <= 20 ? 1 : 0, 1);
    }

    private static void words(String source) {
        String code = source.replaceAll("(?s)/\\*.*?\\*/", "").replaceAll("//[^\n]*", "");
        String[] forbidden = {
            "throw", "throws", "try", "catch", "finally", "synchronized", "assert", "package", "volatile", "native",
            "->", "::", "System\\.(?!arraycopy)", "Exact\\(", "Thread", "Random", "Object", "equals", "hashCode", "toString",
            "while"
        };
        for (String word : forbidden) {
            String pattern = word.matches("\\w+") ? "\\b" + word + "\\b" : word;
            Matcher m = Pattern.compile(pattern).matcher(code);
            due.is("the word " + word, m.find() ? 1 : 0, 0);
        }
        Matcher imports = Pattern.compile("import ([\\w.]+);").matcher(code);
        while (imports.find()) {
            String name = imports.group(1);
            due.is("import " + name, Set.of("java.util.Arrays", "java.util.List", "java.util.ArrayList").contains(name) ? 1 : 0, 1);
        }
        due.is("signs are ASCII", source.chars().allMatch(c -> c < 128) ? 1 : 0, 1);
        madeOnce(code);
        Map<String, String> bodies = methodBodies(code);
        for (String name : bodies.keySet()) {
            due.is(name + " is short", bodies.get(name).split("\n").length < 60 ? 1 : 0, 1);
            int depth = depthOf(name, bodies, new TreeSet<>());
            due.is(name + " goes eight deep at most, not " + depth, depth <= 8 ? 1 : 0, 1);
        }
    }

    /** One room holds all calls of a run: so only fields and the constructor make objects. */
    private static void madeOnce(String code) {
        for (String line : code.split("\n")) {
            if (line.matches(".*\\bnew\\b.*")) {
                boolean once = line.matches(" *(private )?final .* = new .*") || line.contains("states[i] = new Plan()");
                due.is("made once: " + line.trim(), once ? 1 : 0, 1);
                boolean handsNothingOn = line.matches(".* = new \\w+(\\(\\)|(\\[[^\\]]+\\])+);");
                due.is("hands nothing on: " + line.trim(), handsNothingOn ? 1 : 0, 1);
            }
        }
    }

    /** A method begins with a line that ends in ") {" and ends with a brace of the same indent; one name, one body. */
    private static Map<String, String> methodBodies(String code) {
        Map<String, String> bodies = new TreeMap<>();
        String[] lines = code.split("\n");
        Pattern head = Pattern.compile("( *)(?:public |private |static |final )*[\\w\\[\\]]+ (\\w+)\\([^)]*\\) \\{");
        for (int i = 0; i < lines.length; i++) {
            Matcher m = head.matcher(lines[i]);
            if (!m.matches()) {
                continue;
            }
            StringBuilder body = new StringBuilder();
            for (int k = i + 1; k < lines.length && !lines[k].equals(m.group(1) + "}"); k++) {
                body.append(lines[k]).append('\n');
            }
            bodies.merge(m.group(2), body.toString(), String::concat);
        }
        return bodies;
    }

    /** The calls that stand open at once, the library's too, each method once, as recursion is no matter here. */
    private static int depthOf(String name, Map<String, String> bodies, Set<String> open) {
        if (!bodies.containsKey(name)) {
            return 1;
        }
        if (!open.add(name)) {
            return 0;
        }
        int deepest = 0;
        Matcher calls = Pattern.compile("\\b(\\w+)\\(").matcher(bodies.get(name));
        while (calls.find()) {
            deepest = Math.max(deepest, depthOf(calls.group(1), bodies, open));
        }
        open.remove(name);
        return deepest + 1;
    }
}
