import java.lang.reflect.Constructor;
import java.lang.reflect.Field;
import java.lang.reflect.Method;
import java.lang.reflect.Modifier;
import java.nio.file.Files;
import java.nio.file.Path;
import java.util.Arrays;
import java.util.List;
import java.util.Set;
import java.util.TreeSet;

/** The public face is the document's and nothing more, and the file keeps to what of LANGUAGE.md can be looked up. */
public final class FaceTest {
    private static final String[] FACE = {
        "int sign(int)", "boolean end(int)", "int source()", "int rule()", "int drop(int)", "int node(int,int)",
        "int name(int,int)", "int comment(int,int)", "int letter(int)", "int alike(int,int)", "int twins(int,int)",
        "int told(int,int)", "int ways(int,int)", "int held(int,int,int,int)", "int found(int,int)",
        "int rulesOf(int)", "int tests(int)", "int asked(int)", "int edit(int,int,int)", "int comes(int,int,int)",
        "int conflicts(int,int)", "int would(int,int)", "int apply(int)", "int rounds(int,int)",
        "int after(int,int,int)", "int undo()", "boolean keep(int)", "boolean again(int)", "int count(int)"};

    public static void main(String[] args) throws Exception {
        Desk.promise = "the face";
        int modifiers = SyntaxRules.class.getModifiers();
        Desk.due("public final", Modifier.isPublic(modifiers) && Modifier.isFinal(modifiers), true);
        members();
        inside();
        file();
        Desk.close("FaceTest");
    }

    private static String told(Method m) {
        StringBuilder s = new StringBuilder(m.getReturnType() + " " + m.getName() + "(");
        for (int i = 0; i < m.getParameterCount(); i++) {
            s.append(i == 0 ? "" : ",").append(m.getParameterTypes()[i]);
        }
        return s.append(")").toString();
    }

    private static void members() {
        Set<String> open = new TreeSet<>();
        for (Method m : SyntaxRules.class.getDeclaredMethods()) {
            if (!Modifier.isPrivate(m.getModifiers())) {
                open.add(told(m));
                Desk.due(m + " is public", Modifier.isPublic(m.getModifiers()), true);
            }
        }
        Desk.due("methods", open, new TreeSet<>(Arrays.asList(FACE)));
        for (Field f : SyntaxRules.class.getDeclaredFields()) {
            boolean isPrivate = Modifier.isPrivate(f.getModifiers());
            Desk.due(f + " is private", isPrivate, !f.getName().equals("NONE"));
        }
        Constructor<?>[] made = SyntaxRules.class.getDeclaredConstructors();
        Desk.due("constructors", made.length, 1);
        Desk.due("constructor", Modifier.isPublic(made[0].getModifiers()) && made[0].getParameterCount() == 0, true);
    }

    private static void inside() {
        Set<String> faceNames = new TreeSet<>();
        for (String m : FACE) {
            faceNames.add(m.substring(m.indexOf(' ') + 1, m.indexOf('(')));
        }
        Class<?>[] classes = SyntaxRules.class.getDeclaredClasses();
        Desk.due("some twelve classes", classes.length <= 12, true);
        for (Class<?> c : classes) {
            Desk.due(c + " is static", Modifier.isStatic(c.getModifiers()), true);
            Desk.due(c + " is not public", Modifier.isPublic(c.getModifiers()), false);
            int fields = 0;
            for (Field f : c.getDeclaredFields()) {
                boolean isStatic = Modifier.isStatic(f.getModifiers());
                Desk.due(f + " is final, if static", !isStatic || Modifier.isFinal(f.getModifiers()), true);
                fields += isStatic ? 0 : 1;
            }
            Desk.due(c + " has some twenty fields", fields <= 20, true);
            for (Method m : c.getDeclaredMethods()) {
                Desk.due(m + " bears a name of the face", faceNames.contains(m.getName()), false);
                Desk.due(m + " has seven parameters at most", m.getParameterCount() <= 7, true);
            }
        }
    }

    private static void file() throws Exception {
        List<String> lines = Files.readAllLines(Path.of("src/main/java/SyntaxRules.java"));
        int methodBegin = -1;
        int methodIndent = 0;
        for (int i = 0; i < lines.size(); i++) {
            String line = lines.get(i);
            String code = line.replaceAll("//.*", "");
            boolean isText = line.trim().startsWith("*") || line.trim().startsWith("/**");
            Desk.due("line " + (i + 1) + " in ASCII", line.chars().allMatch(c -> c >= 32 && c < 127), true);
            Desk.due("import in line " + (i + 1), code.startsWith("import ") && !code.contains("java.util.NoSuchElementException"), false);
            String[] barred = {"->", "::", "finally", "synchronized", "assert ", "try ", "catch ", "instanceof", "package "};
            for (String b : barred) {
                Desk.due(b + " in line " + (i + 1), !isText && code.contains(b), false);
            }
            int indent = line.length() - line.stripLeading().length();
            if (methodBegin < 0 && (indent == 4 || indent == 8) && code.matches(".*\\) (throws \\w+ )?\\{") && !code.contains("class ")) {
                methodBegin = i;
                methodIndent = indent;
            } else if (methodBegin >= 0 && indent == methodIndent && line.trim().equals("}")) {
                Desk.due("method at line " + (methodBegin + 1) + " is short", i - methodBegin < 60, true);
                methodBegin = -1;
            }
        }
    }
}
