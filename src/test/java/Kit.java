import java.nio.charset.StandardCharsets;

/** What all tests share: texts fed to a tape, and answers that are due. */
final class Kit {
    private static int checks = 0;
    private static int wrong = 0;
    private static String stoodFor = "";

    private Kit() {
    }

    static void due(String call, long got, long want) {
        checks++;
        if (got != want) {
            wrong++;
            System.out.println(stoodFor + call + " answered " + got + ", due is " + want);
        }
    }

    static void due(String call, boolean got, boolean want) {
        due(call, got ? 1 : 0, want ? 1 : 0);
    }

    static int checks() {
        return checks;
    }

    /** Names what the checks that follow stand for, where one of them is wrong. */
    static void standFor(String words) {
        stoodFor = words;
    }

    /** Feeds a text whole, and ends the tape behind its last byte. */
    static int feed(ThreePhases x, String text) {
        byte[] bytes = text.getBytes(StandardCharsets.ISO_8859_1);
        int[] row = new int[5];
        for (int from = 0; from < bytes.length; from += 20) {
            for (int k = 0; k < 5; k++) {
                row[k] = 0;
                for (int b = 0; b < 4; b++) {
                    int at = from + 4 * k + b;
                    row[k] = row[k] << 8 | (at < bytes.length ? bytes[at] & 255 : 0);
                }
            }
            x.feed(row[0], row[1], row[2], row[3], row[4]);
        }
        return x.end(bytes.length);
    }

    static int tell(ThreePhases x, int sort, int at, String text) {
        feed(x, text);
        return x.text(sort, at);
    }

    static ThreePhases with(String council) {
        ThreePhases x = new ThreePhases();
        tell(x, 0, ThreePhases.NONE, council);
        return x;
    }

    static ThreePhases with(String council, String run) {
        ThreePhases x = with(council);
        tell(x, 1, ThreePhases.NONE, run);
        return x;
    }

    static ThreePhases withReplies(String council, String replies) {
        ThreePhases x = with(council);
        tell(x, 2, ThreePhases.NONE, replies);
        return x;
    }

    /** The FAULT of a text and its place, as one number: FAULT times 1000, and the place (0 without). */
    static int faultOf(int sort, String text) {
        ThreePhases x = new ThreePhases();
        tell(x, sort, ThreePhases.NONE, text);
        return x.fault(0) == 0 ? 0 : 1000 * x.fault(0) + x.fault(1);
    }

    static void finish(String name) {
        System.out.println(name + ": " + checks + " checks, " + wrong + " wrong");
        if (wrong != 0) {
            System.exit(1);
        }
    }
}
