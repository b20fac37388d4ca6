import java.nio.file.Files;
import java.nio.file.Path;
import java.util.regex.Matcher;
import java.util.regex.Pattern;

/** The example of README.md: its calls answer what the words behind them say. */
public final class ReadmeTest {
    private static final Path README = Path.of("README.md");

    public static void main(String[] args) throws Exception {
        Desk.promise = "README.md";
        SyntaxRules x = new SyntaxRules();
        int[] answers = new int[11];
        answers[1] = x.sign('(' << 24 | 'f' << 16 | ' ' << 8 | 'a');
        answers[2] = x.sign(')' << 24);
        answers[3] = x.end(5) ? 1 : 0;
        answers[4] = x.source();
        answers[5] = x.sign('a' << 24 | ' ' << 16 | '=' << 8 | ' ');
        answers[6] = x.sign('b' << 24 | ' ' << 16 | ' ' << 8 | ' ');
        answers[7] = x.rule();
        answers[8] = x.rulesOf(1);
        answers[9] = x.apply(0);
        Desk.due("applied", textOf(x), "(f b)");
        answers[10] = x.undo();
        Desk.due("undone", textOf(x), "(f a)");
        checkExample(Files.readString(README), answers);
        everyCallIsNamed(Files.readString(README));
        Desk.close("ReadmeTest");
    }

    private static String textOf(SyntaxRules x) {
        StringBuilder s = new StringBuilder();
        for (int i = 0; i < x.count(1); i++) {
            s.append((char) x.letter(i));
        }
        return s.toString();
    }

    /** A number that a line's words begin with is what its call answers. */
    private static void checkExample(String readme, int[] answers) {
        int begin = readme.indexOf("```java\n") + "```java\n".length();
        String[] lines = readme.substring(begin, readme.indexOf("```", begin)).split("\n");
        Desk.due("lines", lines.length, answers.length);
        int told = 0;
        for (int i = 0; i < lines.length; i++) {
            Matcher m = Pattern.compile("// (\\d+)").matcher(lines[i]);
            if (m.find()) {
                told++;
                Desk.due(lines[i], Integer.parseInt(m.group(1)), answers[i]);
            }
        }
        Desk.due("answers told", told, 5);
    }

    private static void everyCallIsNamed(String readme) {
        for (java.lang.reflect.Method m : SyntaxRules.class.getMethods()) {
            if (m.getDeclaringClass() == SyntaxRules.class) {
                Desk.due(m.getName() + " is named", readme.contains("`" + m.getName() + "`"), true);
            }
        }
    }
}
