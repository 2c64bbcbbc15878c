import java.io.IOException;
import java.lang.reflect.Field;
import java.lang.reflect.Modifier;
import java.nio.charset.StandardCharsets;
import java.nio.file.Files;
import java.nio.file.Path;
import java.util.List;
import java.util.regex.Matcher;
import java.util.regex.Pattern;

/** Rules of LANGUAGE.md that can be seen in the source: words that may not stand there, and what is counted. */
public final class RulesTest {
    private static final Path SOURCE = Path.of("src/main/java/ThreePhases.java");
    private static final Pattern METHOD =
        Pattern.compile("^( {4}(?: {4})?)(?! |return|else|if|for|while|switch)[\\w\\[\\] ]*\\b\\w+\\((.*)\\) \\{$");
    private static final String[] RULED_OUT = {"throw", "throws", "try", "catch", "finally", "synchronized", "assert",
        "volatile", "transient", "native", "strictfp", "protected", "package", "System\\.(?!arraycopy)\\w+", "Random", "Thread",
        "java\\.(?!util\\.Arrays;)\\w+", "Math\\.\\w+Exact", "->", "::", "instanceof", "record", "hashCode", "toString"};

    public static void main(String[] args) throws IOException {
        String source = Files.readString(SOURCE, StandardCharsets.US_ASCII);
        String code = source.replaceAll("(?s)/\\*.*?\\*/", "").replaceAll("//.*", "").replaceAll("\"[^\"]*\"", "\"\"");
        ruledOut(code);
        counted(code);
        methods(source.replaceAll("(?s)/\\*\\*.*?\\*/", "").lines().toList());
        Kit.finish("RulesTest");
    }

    private static void ruledOut(String code) {
        for (String words : RULED_OUT) {
            boolean sign = !Character.isLetter(words.charAt(0));
            Matcher m = Pattern.compile(sign ? words : "(?<![\\w.])" + words + "(?!\\w)").matcher(code);
            Kit.due("rules 2, 4, 6, 13: " + (m.find() ? m.group() : ""), m.reset().find(), false);
        }
        Kit.due("rule 4: imports", count(code, "(?m)^import "), 1);
        Kit.due("rule 5: static fields are final", count(code, "static (?!final )[\\w\\[\\]]+ \\w+( =|;)"), 0);
        Kit.due("rule 1: public members", count(code, "(?m)^ {4,}public "), 31);
        Kit.due("rule 3: no array of more than two dimensions", count(code, "\\[\\]\\[\\]\\["), 0);
    }

    private static void counted(String code) {
        Kit.due("rule 11: classes", count(code, "\\bclass \\w+") <= 12, true);
        Kit.due("rule 2: classes inside are static", count(code, "(?m)^ {4}(private )?(?!.*static).*class "), 0);
        fields(ThreePhases.class);
        for (Class<?> inside : ThreePhases.class.getDeclaredClasses()) {
            fields(inside);
        }
    }

    private static void fields(Class<?> one) {
        int fields = 0;
        for (Field f : one.getDeclaredFields()) {
            fields += Modifier.isStatic(f.getModifiers()) ? 0 : 1;
        }
        Kit.due("rule 11: fields of " + one.getName() + ", " + fields, fields <= 20, true);
    }

    private static int count(String text, String regex) {
        return (int) Pattern.compile(regex).matcher(text).results().count();
    }

    /** A method begins with a line that opens a block with parameters, and ends where its indent comes back. */
    private static void methods(List<String> lines) {
        for (int k = 0; k < lines.size(); k++) {
            Matcher m = METHOD.matcher(lines.get(k));
            if (!m.matches()) {
                continue;
            }
            int end = lines.subList(k, lines.size()).indexOf(m.group(1) + "}");
            Kit.due("rule 11: lines of " + lines.get(k).trim(), end > 0 && end <= 60, true);
            int parameters = m.group(2).isEmpty() ? 0 : m.group(2).split(",").length;
            Kit.due("rule 11: parameters of " + lines.get(k).trim(), parameters <= 7, true);
        }
    }
}
