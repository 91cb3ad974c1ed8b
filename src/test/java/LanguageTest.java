import java.io.IOException;
import java.lang.reflect.Constructor;
import java.lang.reflect.Field;
import java.lang.reflect.Method;
import java.lang.reflect.Modifier;
import java.nio.file.Files;
import java.nio.file.Path;
import java.util.ArrayList;
import java.util.List;
import java.util.Set;
import java.util.TreeSet;
import java.util.regex.Matcher;
import java.util.regex.Pattern;

/** The rules of LANGUAGE.md that can be looked at from outside, and the document's face. */
final class LanguageTest {
    private static final Due DUE = new Due();
    private static final String[] FACE = {"int feed(int,int,int,int,int)", "boolean end(int)", "int net()",
        "int fault(int)", "int has(int)", "int letter(int,int,int)", "int reach(int,int)", "int place(int,int)",
        "int rank(int,int,int)", "int goes(int,int,int)", "int stem(int,int,int)", "int stems(int,int)",
        "int beyond(int,int)", "int springs(int)", "int ways(int,int)", "int far(int,int,int)", "int waters(int,int)",
        "int braid(int)", "int streams(int,int)", "int river(int,int)", "int canTurn(int)", "int would(int,int)",
        "int loss(int)", "int starves(int)", "int fewest(int)", "int wave(int,int)", "int changed(int)", "int see()",
        "int fits()", "int tells(int)", "int add(int,int,int,int)", "boolean drop(int)", "int cut(int,int)",
        "boolean turn(int)", "boolean gives(int,int)", "boolean call(int,int)", "int chance(int)", "boolean undo()",
        "boolean seed(int)", "int image()", "int octet(int)", "boolean on()", "int status(int)"};

    public static void main(String[] args) throws IOException {
        face();
        classes();
        source(Files.readString(Path.of("src/main/java/RiverRanks.java")));
        DUE.close("LanguageTest");
    }

    private static String told(Method m) {
        StringBuilder text = new StringBuilder(m.getReturnType() + " " + m.getName() + "(");
        for (int i = 0; i < m.getParameterCount(); i++) {
            text.append(i == 0 ? "" : ",").append(m.getParameterTypes()[i]);
        }
        return text.append(')').toString();
    }

    private static void face() {
        Set<String> due = new TreeSet<>(List.of(FACE));
        Set<String> got = new TreeSet<>();
        Set<String> names = new TreeSet<>();
        for (Method m : RiverRanks.class.getDeclaredMethods()) {
            if (Modifier.isPublic(m.getModifiers())) {
                got.add(told(m));
                names.add(m.getName());
            } else {
                DUE.due("private: " + m, Modifier.isPrivate(m.getModifiers()), true);
            }
        }
        DUE.due("the face is " + got, got.equals(due), true);
        for (Class<?> c : RiverRanks.class.getDeclaredClasses()) {
            for (Method m : c.getDeclaredMethods()) {
                DUE.due("a name of the face: " + m, names.contains(m.getName()), false);
            }
        }
        for (Method m : RiverRanks.class.getDeclaredMethods()) {
            boolean own = Modifier.isPrivate(m.getModifiers()) && names.contains(m.getName());
            DUE.due("a name of the face: " + m, own, false);
        }
        for (Field f : RiverRanks.class.getDeclaredFields()) {
            boolean none = f.getName().equals("NONE");
            DUE.due("field " + f, none == Modifier.isPublic(f.getModifiers()), true);
            DUE.due("field " + f, none || Modifier.isPrivate(f.getModifiers()), true);
        }
        Constructor<?>[] made = RiverRanks.class.getDeclaredConstructors();
        DUE.due("one constructor", made.length == 1 && made[0].getParameterCount() == 0, true);
        DUE.due("public and final", Modifier.isPublic(RiverRanks.class.getModifiers())
            && Modifier.isFinal(RiverRanks.class.getModifiers()), true);
    }

    private static void classes() {
        List<Class<?>> all = new ArrayList<>(List.of(RiverRanks.class.getDeclaredClasses()));
        for (Class<?> c : all) {
            DUE.due("static: " + c, Modifier.isStatic(c.getModifiers()), true);
            DUE.due("none inside: " + c, c.getDeclaredClasses().length, 0);
        }
        all.add(RiverRanks.class);
        DUE.due("at most twelve classes: " + all.size(), all.size() <= 12, true);
        for (Class<?> c : all) {
            int fields = 0;
            for (Field f : c.getDeclaredFields()) {
                boolean fixed = Modifier.isStatic(f.getModifiers());
                fields += fixed ? 0 : 1;
                DUE.due("static fields are final: " + f, !fixed || Modifier.isFinal(f.getModifiers()), true);
            }
            DUE.due("at most twenty fields: " + c + " " + fields, fields <= 20, true);
            for (Method m : c.getDeclaredMethods()) {
                DUE.due("at most seven parameters: " + m, m.getParameterCount() <= 7, true);
            }
        }
    }

    private static void source(String text) {
        String bare = text.replaceAll("(?s)/\\*.*?\\*/", " ").replaceAll("//[^\\n]*", " ")
            .replaceAll("\"[^\"\\n]*\"", "\"\"");
        String[] banned = {"\\bthrow\\b", "\\btry\\b", "\\bcatch\\b", "\\bsynchronized\\b", "\\bassert\\b", "->", "::",
            "\\bpackage\\b", "Exact\\b", "\\bRuntimeException\\b", "\\bObject\\b", "\\bhashCode\\b", "\\btoString\\b",
            "\\bInteger\\.(?!bitCount\\b)", "\\bMath\\.(?!min\\b|max\\b)", "\\bprotected\\b", "\\bString\\b"};
        for (String word : banned) {
            DUE.due("found " + word, Pattern.compile(word).matcher(bare).find(), false);
        }
        Matcher imports = Pattern.compile("import ([^;]*);").matcher(bare);
        while (imports.find()) {
            DUE.due("import " + imports.group(1), imports.group(1).equals("java.util.Arrays"), true);
        }
        for (int i = 0; i < text.length(); i++) {
            DUE.due("sign at " + i, text.charAt(i) < 128, true);
        }
        longMethods(text);
    }

    /** A method begins with a line that ends in "{" at depth 4 or 8 and ends with its "}". */
    private static void longMethods(String text) {
        String[] lines = text.split("\n");
        for (int from = 0; from < lines.length; from++) {
            Matcher m = Pattern.compile("^( {4}| {8})[a-z].*\\(.*\\{$").matcher(lines[from]);
            if (!m.find() || lines[from].contains(" class ")) {
                continue;
            }
            int to = from;
            while (to < lines.length && !lines[to].equals(m.group(1) + "}")) {
                to++;
            }
            DUE.due("lines of " + lines[from].trim() + " " + (to - from), to - from <= 60, true);
        }
    }
}
