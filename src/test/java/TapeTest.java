import java.util.ArrayList;
import java.util.HashMap;
import java.util.List;
import java.util.Map;
import java.util.Random;
import java.util.regex.Matcher;
import java.util.regex.Pattern;

/**
 * Promises 1 to 7, 16, 28 to 30 by random calls: the tape, texts of all sorts, FAULTS and images are
 * held against a second writing of their rules with texts, lists and maps.
 */
public final class TapeTest {
    private static final int NONE = ThreePhases.NONE;
    private static final int RUNS = 250;
    private static final int CALLS = 60;

    /** Of each word its sort, and the least and the greatest of each of its NUMBERS. */
    private static final Map<String, int[]> LINES = new HashMap<>();
    private static final List<String> DEEDS = List.of(
        "propose", "prepare", "commit", "run", "mark", "fetch", "doubt", "view", "enter");
    private static final List<String> COUPLES = List.of("delay", "prepare", "commit", "mark", "fetch");
    private static final String[] WORDS = {
        "faults", "window", "step", "liar", "account", "order", "delay", "propose", "prepare", "commit",
        "run", "mark", "fetch", "doubt", "view", "enter", "reply"};
    private static final String[] ODD = {
        "x", ";", "7", "123", "007", "!", "Step", "step", "runs", "1;", "\t", "\u00e9", ";;", "or der"};

    static {
        LINES.put("faults", new int[] {0, 0, 2});
        LINES.put("window", new int[] {0, 1, 9});
        LINES.put("step", new int[] {0, 1, 4});
        LINES.put("liar", new int[] {0, 0, 6});
        LINES.put("account", new int[] {0, 0, 7, 0, 99});
        LINES.put("order", new int[] {0, 0, 7, 0, 99});
        LINES.put("delay", new int[] {0, 0, 6, 0, 6, 1, 9});
        LINES.put("propose", new int[] {1, 0, 6, 1, 12, 0, 9});
        LINES.put("prepare", new int[] {1, 0, 6, 0, 6, 1, 12});
        LINES.put("commit", new int[] {1, 0, 6, 0, 6, 1, 12});
        LINES.put("mark", new int[] {1, 0, 6, 0, 6});
        LINES.put("fetch", new int[] {1, 0, 6, 0, 6});
        for (String word : List.of("run", "doubt", "view", "enter")) {
            LINES.put(word, new int[] {1, 0, 6});
        }
        LINES.put("reply", new int[] {2, 0, 6, 0, 9, 0, 99});
    }

    /** All that is told: the tape, the FAULT, and of each sort the texts that stand, as rows of answers. */
    private static final class Shadow {
        String tape = "";
        int fault = 0;
        int place = NONE;
        final List<List<Map<Integer, Integer>>> texts = new ArrayList<>();

        Shadow() {
            for (int sort = 0; sort < 3; sort++) {
                texts.add(new ArrayList<>());
            }
        }

        Shadow copy() {
            Shadow other = new Shadow();
            other.tape = tape;
            other.fault = fault;
            other.place = place;
            for (int sort = 0; sort < 3; sort++) {
                other.texts.get(sort).addAll(texts.get(sort));
            }
            return other;
        }

        int text(int sort, int at) {
            String taken = tape;
            tape = "";
            fault = 0;
            place = NONE;
            if (sort < 0 || sort > 2) {
                return -2;
            }
            List<Map<Integer, Integer>> row = texts.get(sort);
            if (at == NONE ? row.size() == 2 : at < 0 || at >= row.size()) {
                return -2;
            }
            List<List<String>> lines = new ArrayList<>();
            List<int[]> places = new ArrayList<>();
            split(taken, sort, lines, places);
            if (fault == 0) {
                weigh(taken.length(), sort, lines, places);
            }
            if (fault != 0) {
                return NONE;
            }
            Map<Integer, Integer> answers = sort == 0 ? council(lines) : rows(sort, lines);
            if (at == NONE) {
                row.add(answers);
                return row.size() - 1;
            }
            row.set(at, answers);
            return at;
        }

        /** FAULT 1: the tape as lines, or the first byte or token with which no text goes on. */
        private void split(String taken, int sort, List<List<String>> lines, List<int[]> places) {
            Matcher token = Pattern.compile("[a-z]+|[0-9]+|[^ \n]", Pattern.DOTALL).matcher(taken);
            List<String> line = new ArrayList<>();
            List<Integer> at = new ArrayList<>();
            while (token.find()) {
                if (!goesOn(line, token.group(), sort)) {
                    fault = 1;
                    place = token.start();
                    return;
                }
                line.add(token.group());
                at.add(token.start());
                if (token.group().equals(";")) {
                    lines.add(line);
                    places.add(at.stream().mapToInt(Integer::intValue).toArray());
                    line = new ArrayList<>();
                    at = new ArrayList<>();
                }
            }
            if (!line.isEmpty()) {
                fault = 1;
                place = taken.length();
            }
        }

        private static boolean goesOn(List<String> line, String token, int sort) {
            if (line.isEmpty()) {
                return LINES.containsKey(token) && LINES.get(token)[0] == sort;
            }
            if (line.size() - 1 == LINES.get(line.get(0)).length / 2) {
                return token.equals(";");
            }
            return token.matches("[0-9]{1,2}");
        }

        /** FAULTS 2, 3, the first by place, then 4. */
        private void weigh(int end, int sort, List<List<String>> lines, List<int[]> places) {
            int counted = 0;
            int greatest = NONE;
            int faults = 1;
            int best = Integer.MAX_VALUE;
            for (int k = 0; k < lines.size(); k++) {
                String word = lines.get(k).get(0);
                int[] numbers = numbersOf(lines.get(k));
                for (int i = 0; i < numbers.length; i++) {
                    if (!mayBe(word, numbers, i)) {
                        best = Math.min(best, 10 * places.get(k)[i + 1] + 2);
                    }
                }
                if (sort > 0 || word.equals("order")) {
                    counted++;
                    if (counted == new int[] {11, 41, 13}[sort]) {
                        best = Math.min(best, 10 * places.get(k)[0] + 3);
                    }
                }
                if (word.equals("faults")) {
                    faults = numbers[0];
                }
                if (word.equals("liar") || word.equals("delay")) {
                    greatest = Math.max(greatest, numbers[0]);
                    greatest = Math.max(greatest, word.equals("delay") ? numbers[1] : NONE);
                }
            }
            if (best == Integer.MAX_VALUE && greatest > 3 * faults) {
                best = 10 * end + 4;
            }
            if (best != Integer.MAX_VALUE) {
                fault = best % 10;
                place = best / 10;
            }
        }

        private static int[] numbersOf(List<String> line) {
            int[] numbers = new int[line.size() - 2];
            for (int i = 0; i < numbers.length; i++) {
                numbers[i] = Integer.parseInt(line.get(i + 1));
            }
            return numbers;
        }

        private static boolean mayBe(String word, int[] numbers, int i) {
            int[] bounds = LINES.get(word);
            if (numbers[i] < bounds[2 * i + 1] || numbers[i] > bounds[2 * i + 2]) {
                return false;
            }
            return i != 1 || numbers[0] != numbers[1] || !COUPLES.contains(word);
        }

        /** What council() answers, by what. */
        private static Map<Integer, Integer> council(List<List<String>> lines) {
            int[] plain = {1, 4, 2, 0};
            Map<Integer, Integer> answers = new HashMap<>();
            Map<Integer, Integer> delays = new HashMap<>();
            int orders = 0;
            for (int a = 0; a < 8; a++) {
                answers.put(10 + a, 0);
            }
            for (List<String> line : lines) {
                int[] numbers = numbersOf(line);
                switch (line.get(0)) {
                    case "faults" -> plain[0] = numbers[0];
                    case "window" -> plain[1] = numbers[0];
                    case "step" -> plain[2] = numbers[0];
                    case "liar" -> plain[3] |= 1 << numbers[0];
                    case "account" -> answers.put(10 + numbers[0], numbers[1]);
                    case "order" -> {
                        answers.put(20 + orders, numbers[0]);
                        answers.put(30 + orders, numbers[1]);
                        orders++;
                    }
                    default -> {
                        delays.put(100 + 10 * numbers[0] + numbers[1], numbers[2]);
                        delays.put(100 + 10 * numbers[1] + numbers[0], numbers[2]);
                    }
                }
            }
            for (int what = 0; what < 4; what++) {
                answers.put(what, plain[what]);
            }
            answers.put(4, orders);
            for (int a = 0; a <= 3 * plain[0]; a++) {
                for (int b = 0; b <= 3 * plain[0]; b++) {
                    if (a != b) {
                        answers.put(100 + 10 * a + b, delays.getOrDefault(100 + 10 * a + b, 1));
                    }
                }
            }
            return answers;
        }

        /** What deed(), reply() answer, by 10 k + what; how many by NONE. */
        private static Map<Integer, Integer> rows(int sort, List<List<String>> lines) {
            Map<Integer, Integer> answers = new HashMap<>();
            answers.put(NONE, lines.size());
            for (int k = 0; k < lines.size(); k++) {
                int[] numbers = numbersOf(lines.get(k));
                if (sort == 1) {
                    answers.put(10 * k, DEEDS.indexOf(lines.get(k).get(0)));
                }
                for (int i = 0; i < 3; i++) {
                    answers.put(10 * k + i + (sort == 1 ? 1 : 0), i < numbers.length ? numbers[i] : NONE);
                }
            }
            return answers;
        }
    }

    public static void main(String[] args) {
        Random random = new Random(20261118);
        for (int run = 0; run < RUNS; run++) {
            play(random);
        }
        Kit.finish("TapeTest");
    }

    private static void play(Random random) {
        ThreePhases x = new ThreePhases();
        Shadow shadow = new Shadow();
        Shadow[] images = new Shadow[3];
        for (int call = 0; call < CALLS; call++) {
            int k = random.nextInt(5) - 1;
            switch (random.nextInt(8)) {
                case 0 -> feedRaw(random, x, shadow);
                case 1 -> end(random, x, shadow);
                case 2 -> {
                    Kit.due("image(" + k + ")", x.image(k), k >= 0 && k < 3);
                    if (k >= 0 && k < 3) {
                        images[k] = shadow.copy();
                    }
                }
                case 3 -> {
                    boolean there = k >= 0 && k < 3 && images[k] != null;
                    Kit.due("again(" + k + ")", x.again(k), there);
                    shadow = there ? images[k].copy() : shadow;
                    look(x, shadow);
                }
                default -> tell(random, x, shadow);
            }
            Kit.due("fault(0)", x.fault(0), shadow.fault);
            Kit.due("fault(1)", x.fault(1), shadow.place);
            Kit.due("fault(2)", x.fault(2), NONE);
            Kit.due("no longer tape", x.end(shadow.tape.length() + 1), NONE);
            Kit.due("no shorter tape", x.end(shadow.tape.length()), shadow.tape.length());
        }
        look(x, shadow);
    }

    private static void feedRaw(Random random, ThreePhases x, Shadow shadow) {
        int[] row = random.ints(5).toArray();
        if (random.nextInt(4) == 0) {
            fill(x, shadow);
        }
        StringBuilder come = new StringBuilder(shadow.tape);
        for (int number : row) {
            for (int shift = 24; shift >= 0; shift -= 8) {
                come.append((char) (number >>> shift & 255));
            }
        }
        boolean room = come.length() <= 600;
        shadow.tape = room ? come.toString() : shadow.tape;
        Kit.due("feed", x.feed(row[0], row[1], row[2], row[3], row[4]), room ? come.length() : NONE);
    }

    /** Blanks, up to just so many bytes that no twenty more, or just twenty more, have room. */
    private static void fill(ThreePhases x, Shadow shadow) {
        int full = shadow.tape.length() % 2 == 0 ? 580 : 581;
        if (shadow.tape.length() < full) {
            shadow.tape = shadow.tape + " ".repeat(full - shadow.tape.length());
            x.end(0);
            Kit.feed(x, shadow.tape);
        }
    }

    private static void end(Random random, ThreePhases x, Shadow shadow) {
        int n = random.nextInt(3) == 0 ? 0 : random.nextInt(shadow.tape.length() + 4) - 2;
        boolean there = n >= 0 && n <= shadow.tape.length();
        Kit.due("end(" + n + ")", x.end(n), there ? n : NONE);
        shadow.tape = there ? shadow.tape.substring(0, n) : shadow.tape;
    }

    /** Mostly onto a tape that is made empty first, so that there are texts without FAULT. */
    private static void tell(Random random, ThreePhases x, Shadow shadow) {
        if (random.nextInt(8) != 0) {
            x.end(0);
            shadow.tape = "";
        }
        int sort = random.nextInt(12) == 0 ? random.nextInt(7) - 2 : random.nextInt(3);
        int there = sort < 0 || sort > 2 ? 0 : shadow.texts.get(sort).size();
        int at = random.nextInt(6) == 0 ? random.nextInt(6) - 2 : random.nextInt(there + 1) - 1;
        if (shadow.tape.isEmpty()) {
            String text = randomText(random, sort);
            Kit.feed(x, text);
            shadow.tape = text;
        }
        if (random.nextInt(6) == 0) {
            return;
        }
        String call = "text(" + sort + ", " + at + ") of '" + shadow.tape + "'";
        int due = shadow.text(sort, at);
        Kit.due(call, x.text(sort, at), due);
        look(x, shadow);
    }

    private static String randomText(Random random, int sort) {
        StringBuilder text = new StringBuilder();
        int odds = random.nextInt(3) == 0 ? 30 : 1000000;
        int lines = random.nextInt(6) == 0 ? random.nextInt(46) : random.nextInt(14);
        boolean small = random.nextBoolean();
        boolean ordersAlone = sort == 0 && random.nextInt(8) == 0;
        for (int k = 0; k < lines && text.length() < 560; k++) {
            String word = ordersAlone ? "order" : WORDS[random.nextInt(WORDS.length)];
            for (int tries = 0; tries < 200 && LINES.get(word)[0] != sort; tries++) {
                word = WORDS[random.nextInt(WORDS.length)];
            }
            blanks(random, text, odds).append(word);
            int[] bounds = LINES.get(word);
            int before = NONE;
            for (int i = 1; i < bounds.length; i += 2) {
                int most = bounds[i + 1] == 6 && small ? 3 : bounds[i + 1];
                int number = bounds[i] + random.nextInt(most - bounds[i] + 1);
                number = number == before && random.nextInt(odds) > 3 ? (number + 1) % 4 : number;
                number = random.nextInt(odds) == 0 ? random.nextInt(100) : number;
                before = COUPLES.contains(word) && i == 1 ? number : NONE;
                text.append(' ');
                blanks(random, text, odds).append(random.nextInt(9) == 0 && number < 10 ? "0" : "").append(number);
            }
            blanks(random, text, odds).append(';');
        }
        blanks(random, text, odds);
        if (odds == 30 && random.nextInt(3) == 0) {
            text.setLength(random.nextInt(text.length() + 1));
        }
        text.setLength(Math.min(text.length(), 600));
        return text.toString();
    }

    private static StringBuilder blanks(Random random, StringBuilder text, int odds) {
        if (random.nextInt(6) == 0) {
            text.append(random.nextBoolean() ? " " : "\n");
        }
        if (random.nextInt(odds) == 0) {
            text.append(ODD[random.nextInt(ODD.length)]);
        }
        return text;
    }

    private static void look(ThreePhases x, Shadow shadow) {
        for (int sort = -1; sort < 4; sort++) {
            int due = sort < 0 || sort > 2 ? -2 : shadow.texts.get(sort).size();
            Kit.due("count(" + sort + ")", x.count(sort), due);
        }
        for (int k = -1; k < 3; k++) {
            for (int what = -1; what < 210; what++) {
                Kit.due("council(" + k + ", " + what + ")", x.council(k, what), answer(shadow, 0, k, what, NONE));
            }
            for (int row = -2; row < 42; row++) {
                for (int what = -1; what < 5; what++) {
                    String call = "(" + k + ", " + row + ", " + what + ")";
                    Kit.due("deed" + call, x.deed(k, row, what), rowAnswer(shadow, 1, k, row, what));
                    Kit.due("reply" + call, x.reply(k, row, what), rowAnswer(shadow, 2, k, row, what));
                }
            }
        }
    }

    private static int rowAnswer(Shadow shadow, int sort, int k, int row, int what) {
        if (row == NONE) {
            return what == 0 ? answer(shadow, sort, k, NONE, -2) : -2;
        }
        return row < 0 || what < 0 ? -2 : answer(shadow, sort, k, 10 * row + what, -2);
    }

    private static int answer(Shadow shadow, int sort, int k, int key, int without) {
        List<Map<Integer, Integer>> row = shadow.texts.get(sort);
        return k < 0 || k >= row.size() ? without : row.get(k).getOrDefault(key, without);
    }
}
