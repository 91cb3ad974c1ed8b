import java.io.IOException;
import java.lang.reflect.Constructor;
import java.lang.reflect.Field;
import java.lang.reflect.Method;
import java.lang.reflect.Modifier;
import java.nio.file.Files;
import java.nio.file.Path;
import java.util.ArrayList;
import java.util.List;
import java.util.Map;
import java.util.Set;
import java.util.TreeMap;
import java.util.TreeSet;
import java.util.regex.Matcher;
import java.util.regex.Pattern;

/** The rules of LANGUAGE.md that can be looked at from outside, and the document's face. */
final class LanguageTest {
    private static final Due DUE = new Due();
    private static final String[] FACE = {"int feed(int,int,int,int,int)", "boolean end(int)", "int net()",
        "int fault(int)", "int has(int)", "int letter(int,int,int)", "int reach(int,int)", "int place(int,int)",
        "int rank(int,int,int)", "int goes(int,int,int)", "int stem(int,int,int)", "int stems(int,int)",
        "int beyond(int,int)", "int springs(int)", "int ways(int,int)", "int far(int,int,int)", "int waters(int,int)",
        "int braid(int)", "int streams(int,int)", "int river(int,int)", "int canTurn(int)", "int would(int,int)",
        "int loss(int)", "int starves(int)", "int fewest(int)", "int wave(int,int)", "int changed(int)", "int see()",
        "int fits()", "int tells(int)", "int add(int,int,int,int)", "boolean drop(int)", "int cut(int,int)",
        "boolean turn(int)", "boolean gives(int,int)", "boolean call(int,int)", "int chance(int)", "boolean undo()",
        "boolean seed(int)", "int image()", "int octet(int)", "boolean on()", "int status(int)"};

    public static void main(String[] args) throws IOException {
        face();
        classes();
        source(Files.readString(Path.of("src/main/java/RiverRanks.java")));
        DUE.close("LanguageTest");
    }

    private static String told(Method m) {
        StringBuilder text = new StringBuilder(m.getReturnType() + " " + m.getName() + "(");
        for (int i = 0; i < m.getParameterCount(); i++) {
            text.append(i == 0 ? "" : ",").append(m.getParameterTypes()[i]);
        }
        return text.append(')').toString();
    }

    private static void face() {
        Set<String> due = new TreeSet<>(List.of(FACE));
        Set<String> got = new TreeSet<>();
        Set<String> names = new TreeSet<>();
        for (Method m : RiverRanks.class.getDeclaredMethods()) {
            if (Modifier.isPublic(m.getModifiers())) {
                got.add(told(m));
                names.add(m.getName());
            } else {
                DUE.due("private: " + m, Modifier.isPrivate(m.getModifiers()), true);
            }
        }
        DUE.due("the face is " + got, got.equals(due), true);
        for (Class<?> c : RiverRanks.class.getDeclaredClasses()) {
            for (Method m : c.getDeclaredMethods()) {
                DUE.due("a name of the face: " + m, names.contains(m.getName()), false);
            }
        }
        for (Method m : RiverRanks.class.getDeclaredMethods()) {
            boolean own = Modifier.isPrivate(m.getModifiers()) && names.contains(m.getName());
            DUE.due("a name of the face: " + m, own, false);
        }
        for (Field f : RiverRanks.class.getDeclaredFields()) {
            boolean none = f.getName().equals("NONE");
            DUE.due("field " + f, none == Modifier.isPublic(f.getModifiers()), true);
            DUE.due("field " + f, none || Modifier.isPrivate(f.getModifiers()), true);
        }
        Constructor<?>[] made = RiverRanks.class.getDeclaredConstructors();
        DUE.due("one constructor", made.length == 1 && made[0].getParameterCount() == 0, true);
        DUE.due("public and final", Modifier.isPublic(RiverRanks.class.getModifiers())
            && Modifier.isFinal(RiverRanks.class.getModifiers()), true);
    }

    private static void classes() {
        List<Class<?>> all = new ArrayList<>(List.of(RiverRanks.class.getDeclaredClasses()));
        for (Class<?> c : all) {
            DUE.due("static: " + c, Modifier.isStatic(c.getModifiers()), true);
            DUE.due("none inside: " + c, c.getDeclaredClasses().length, 0);
        }
        all.add(RiverRanks.class);
        DUE.due("at most twelve classes: " + all.size(), all.size() <= 12, true);
        for (Class<?> c : all) {
            int fields = 0;
            for (Field f : c.getDeclaredFields()) {
                boolean fixed = Modifier.isStatic(f.getModifiers());
                fields += fixed ? 0 : 1;
                DUE.due("static fields are final: " + f, !fixed || Modifier.isFinal(f.getModifiers()), true);
                DUE.due("static fields are numbers: " + f, !fixed || f.getType() == int.class, true);
                DUE.due("the type of " + f, isOfLanguage(f.getType(), all), true);
            }
            DUE.due("at most twenty fields: " + c + " " + fields, fields <= 20, true);
            for (Method m : c.getDeclaredMethods()) {
                DUE.due("at most seven parameters: " + m, m.getParameterCount() <= 7, true);
            }
        }
    }

    /** Numbers, rows of numbers, own classes, rows of these. */
    private static boolean isOfLanguage(Class<?> type, List<Class<?>> own) {
        Class<?> part = type.isArray() ? type.getComponentType() : type;
        return part.isPrimitive() || own.contains(part);
    }

    private static void source(String text) {
        String bare = text.replaceAll("(?s)/\\*.*?\\*/", " ").replaceAll("//[^\\n]*", " ")
            .replaceAll("\"[^\"\\n]*\"", "\"\"");
        String[] banned = {"\\bthrow\\b", "\\btry\\b", "\\bcatch\\b", "\\bsynchronized\\b", "\\bassert\\b", "->", "::",
            "\\bpackage\\b", "Exact\\b", "\\bRuntimeException\\b", "\\bObject\\b", "\\bhashCode\\b", "\\btoString\\b",
            "\\bInteger\\.(?!bitCount\\b)", "\\bMath\\.(?!min\\b|max\\b)", "\\bprotected\\b", "\\bString\\b",
            "\\bSystem\\.(?!arraycopy\\b)", "\\bArrays\\.(?!fill\\b)", "\\bdouble\\b", "\\bfloat\\b", "\\bstatic\\s*\\{",
            "\\bnew \\w+\\([^)]*\\)\\s*\\{", "\\bwhile \\(true\\)", "\\bfor \\([^;]*; *;"};
        for (String word : banned) {
            DUE.due("found " + word, Pattern.compile(word).matcher(bare).find(), false);
        }
        Matcher imports = Pattern.compile("import ([^;]*);").matcher(bare);
        while (imports.find()) {
            DUE.due("import " + imports.group(1), imports.group(1).equals("java.util.Arrays"), true);
        }
        for (int i = 0; i < text.length(); i++) {
            DUE.due("sign at " + i, text.charAt(i) < 128, true);
        }
        longMethods(text);
        objectsAreMadeAtFirst(bare);
        callsAreShallow(bare);
    }

    /** All that is made stands in a field's own line, so that no call but the constructor makes it. */
    private static void objectsAreMadeAtFirst(String bare) {
        for (String line : bare.split("\n")) {
            boolean field = line.matches(" +(private )?final [\\w\\[\\]]+ \\w+ = .*;");
            DUE.due("made in: " + line.trim(), field || !line.matches(".*\\bnew\\b.*"), true);
        }
    }

    /**
     * Methods are told apart by class and name. A call without a name ahead of it stays in its class; one
     * with a name may go to each other class that has such a method, so that none is overlooked.
     */
    private static void callsAreShallow(String bare) {
        Map<String, StringBuilder> bodies = bodies(bare);
        DUE.due("methods found: " + bodies.keySet(), bodies.size() > 100, true);
        for (Method m : RiverRanks.class.getDeclaredMethods()) {
            DUE.due("found " + m.getName(), bodies.containsKey("RiverRanks." + m.getName()), true);
        }
        for (String name : bodies.keySet()) {
            int deepest = depth(name, bodies, 1);
            DUE.due("calls open at once from " + name + " " + deepest, deepest <= 8, true);
        }
    }

    private static Map<String, StringBuilder> bodies(String bare) {
        Map<String, StringBuilder> bodies = new TreeMap<>();
        StringBuilder body = new StringBuilder();
        String owner = "";
        for (String line : bare.split("\n")) {
            Matcher type = Pattern.compile("\\bclass (\\w+) \\{$").matcher(line);
            Matcher m = Pattern.compile("^(?: {4}| {8})[a-z][^=]*?(\\w+)\\([^()]*\\) \\{$").matcher(line);
            if (type.find()) {
                owner = type.group(1);
            } else if (m.find() && !m.group(1).matches("if|for|while|switch")) {
                body = bodies.computeIfAbsent(owner + "." + m.group(1), k -> new StringBuilder());
            } else {
                body.append(line).append('\n');
            }
        }
        return bodies;
    }

    /** How many calls stand open at once; what calls itself is deeper than any bound. */
    private static int depth(String name, Map<String, StringBuilder> bodies, int open) {
        int deepest = open;
        String owner = name.substring(0, name.indexOf('.'));
        Matcher calls = Pattern.compile("(\\.?)\\b(\\w+)\\(").matcher(bodies.get(name));
        while (open <= 20 && calls.find()) {
            boolean elsewhere = !calls.group(1).isEmpty();
            for (String other : bodies.keySet()) {
                boolean same = other.startsWith(owner + ".");
                if (other.endsWith("." + calls.group(2)) && elsewhere != same) {
                    deepest = Math.max(deepest, depth(other, bodies, open + 1));
                }
            }
        }
        return deepest;
    }

    /** A method begins with a line that ends in "{" at depth 4 or 8 and ends with its "}". */
    private static void longMethods(String text) {
        String[] lines = text.split("\n");
        for (int from = 0; from < lines.length; from++) {
            Matcher m = Pattern.compile("^( {4}| {8})[a-z].*\\(.*\\{$").matcher(lines[from]);
            if (!m.find() || lines[from].contains(" class ")) {
                continue;
            }
            int to = from;
            while (to < lines.length && !lines[to].equals(m.group(1) + "}")) {
                to++;
            }
            DUE.due("lines of " + lines[from].trim() + " " + (to - from), to - from <= 60, true);
        }
    }
}
