import java.io.IOException;
import java.nio.charset.StandardCharsets;
import java.nio.file.Files;
import java.nio.file.Path;
import java.util.LinkedHashMap;
import java.util.Map;
import java.util.regex.Matcher;
import java.util.regex.Pattern;

/**
 * The document's own words. A test says which sentence it stands for, as the document has it; a sentence
 * that is not in the document, has no check, or that no test stands for, is a failure.
 */
final class Doc {
    private static final Path PATH = Path.of("../shared/DOC.md");
    private static final Map<String, String> TEXTS = new LinkedHashMap<>();
    private static final Map<String, boolean[]> TESTED = new LinkedHashMap<>();
    private static String section = "";
    private static String sentence = "";
    private static int checksBefore = 0;

    private Doc() {
    }

    /** Reads the document: the promises, the terms one by one, and what is said ahead of them. */
    static void open() throws IOException {
        String all = Files.readString(PATH, StandardCharsets.UTF_8);
        for (String part : all.split("(?m)^## ")) {
            int line = part.indexOf('\n');
            String title = line < 0 ? part : part.substring(0, line).trim();
            String body = line < 0 ? "" : part.substring(line + 1);
            if (title.startsWith("Promise ")) {
                // The call ahead of a promise is held against the face, not here.
                put(title.substring(0, title.indexOf(':')), body.trim().replaceFirst("^`[^`]*`: ", ""));
            } else if (title.equals("Terms")) {
                putTerms(body);
            } else if (title.equals("What it is")) {
                put("What it is", body.substring(body.indexOf("An object is used")));
            } else if (title.equals("The public face")) {
                put("The public face", body.replaceAll("```[a-z]*", ""));
            }
        }
    }

    private static void putTerms(String body) {
        int constants = body.indexOf("The constants:");
        put("Constants", body.substring(constants));
        Matcher m = Pattern.compile("(?ms)^(\\d)\\. (.*?)(?=^\\d\\. |\\z)").matcher(body.substring(0, constants));
        while (m.find()) {
            put("Term " + m.group(1), m.group(2).replaceAll("```[a-z]*", ""));
        }
    }

    private static void put(String name, String text) {
        TEXTS.put(name, plain(text));
        TESTED.put(name, new boolean[plain(text).length()]);
    }

    private static String plain(String text) {
        return text.replaceAll("\\s+", " ").trim();
    }

    static String textOf(String name) {
        return TEXTS.getOrDefault(name, "");
    }

    /** What follows is about a promise ("Promise 2"), a term ("Term 1") or another part of the document. */
    static void about(String name) {
        endSentence();
        section = name;
        Kit.due("the document has " + name, TEXTS.containsKey(name), true);
    }

    /** The checks that follow stand for these words of the document. */
    static void says(String words) {
        endSentence();
        String text = textOf(section);
        int at = text.indexOf(words);
        Kit.standFor("");
        Kit.due(section + " says: " + words, at >= 0, true);
        while (at >= 0 && isTested(at) && text.indexOf(words, at + 1) >= 0) {
            at = text.indexOf(words, at + 1);
        }
        for (int k = Math.max(at, 0); at >= 0 && k < at + words.length(); k++) {
            TESTED.get(section)[k] = true;
        }
        sentence = words;
        checksBefore = Kit.checks();
        Kit.standFor(section + ", \"" + words + "\": ");
    }

    private static boolean isTested(int at) {
        return TESTED.get(section)[at];
    }

    private static void endSentence() {
        Kit.standFor("");
        if (!sentence.isEmpty()) {
            Kit.due(section + ", a check of: " + sentence, Kit.checks() > checksBefore, true);
        }
        sentence = "";
    }

    /** Every word of the document that is not said to be free stands in a sentence with a test. */
    static void close() {
        endSentence();
        for (String name : TEXTS.keySet()) {
            String text = TEXTS.get(name);
            boolean[] tested = TESTED.get(name);
            for (int k = 0; k < text.length(); k++) {
                if (!tested[k] && Character.isLetterOrDigit(text.charAt(k))) {
                    int to = k;
                    while (to < text.length() && !tested[to]) {
                        to++;
                    }
                    Kit.due(name + " is tested at: " + text.substring(k, to), false, true);
                    k = to;
                }
            }
        }
    }
}
