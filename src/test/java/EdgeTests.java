import java.lang.reflect.Method;
import java.nio.file.Files;
import java.nio.file.Path;
import java.util.ArrayList;
import java.util.HashMap;
import java.util.List;
import java.util.Map;
import java.util.Set;
import java.util.regex.Matcher;
import java.util.regex.Pattern;

/**
 * Each sentence of the document that names a boundary case (too small, too large, empty, full, a
 * wrap-around, a refused call), quoted, with a run of calls of its own.
 *
 * <p>A row of a run is "call(numbers) = the answer due", "call(numbers) x times", or "&lt;letters&gt;"
 * (typed; with "= answer" told by house() then). Behind every row that must change nothing (a
 * question, or a call that is refused) two new objects are led through the run, one with that call
 * and one without it: all that can be seen of both must be the same.
 */
public final class EdgeTests {
    /** Of the 512 calls of an object some 250 are left for the look at all that can be seen of it. */
    private static final int MOST_CALLS = 250;
    private static final String REFUSED =
            "Refused, and nothing changes, the first of these: BAD (a number is not as told, or there is no such thing),"
            + " STATE (as told), FULL.";
    /** Four WORDS, four MOTIONS, four BABIES; BABY 3 is awake, BABY 0 is soon HUNGRY. */
    private static final String HOUSE =
            "<w2 1;w0 3;w5 0;w1 0;m30 0 1 2;m20 3 3 0;m50 2 1;m10 1;b6 1 5;b3 2 40;b9 1 9;b0 1 9;> = 12";
    private static final Pattern CALL = Pattern.compile("(\\w+)\\(([^)]*)\\)(?: = (-?\\d+)| x (\\d+))");
    private static final Pattern LETTERS = Pattern.compile("<(.*)>(?: = (-?\\d+))?", Pattern.DOTALL);
    private static final Set<String> QUESTIONS = Set.of("word", "motion", "said", "baby", "now", "would", "deep",
            "rockings", "wording", "noise", "odds", "match", "agenda", "which", "count", "trace");
    private static final Map<String, Method> METHODS = new HashMap<>();

    private static int wrong = 0;
    private static int edges = 0;
    private static int asked = 0;
    private static String document = null;

    public static void main(String[] args) throws Exception {
        for (Method method : CradleBills.class.getMethods()) {
            METHODS.put(method.getName(), method);
        }
        Path doc = Path.of("../shared/DOC.md");
        if (Files.isReadable(doc)) {
            document = Files.readString(doc).replaceAll("\\s+", " ");
        } else {
            System.out.println("the quotes are not looked up: there is no " + doc);
        }
        theText();
        howManyItems();
        numbersOfItems();
        wordsOfMotions();
        faultsOfTokens();
        textsThatEndTooEarly();
        toldAnew();
        whatIsTold();
        howItIsNow();
        hunger();
        wordsByBabies();
        everyWordByEveryBaby();
        motionsRead();
        rockedAndFed();
        undone();
        lastMinute();
        would();
        deep();
        rockings();
        wording();
        noise();
        odds();
        match();
        agenda();
        heard();
        rates();
        images();
        refusals();
        System.out.println(wrong == 0 ? edges + " edges, " + asked + " answers are as due" : wrong + " are not as due");
        if (wrong != 0) {
            System.exit(1);
        }
    }

    // ---- how a run is led

    private record Call(String name, int... numbers) {
        @Override
        public String toString() {
            StringBuilder text = new StringBuilder(name + "(");
            for (int i = 0; i < numbers.length; i++) {
                text.append(i == 0 ? "" : ", ").append(numbers[i]);
            }
            return text.append(")").toString();
        }

        long on(CradleBills x) {
            Object[] all = new Object[numbers.length];
            for (int i = 0; i < all.length; i++) {
                all[i] = numbers[i];
            }
            try {
                return ((Number) METHODS.get(name).invoke(x, all)).longValue();
            } catch (ReflectiveOperationException thrown) {
                throw new IllegalStateException(this + " has thrown", thrown);
            }
        }
    }

    private static final class Run {
        private final CradleBills x = new CradleBills();
        private final List<Call> calls = new ArrayList<>();
        private final String name;

        Run(String name) {
            this.name = name;
        }

        long call(Call one) {
            if (calls.size() >= MOST_CALLS) {
                throw new IllegalStateException(name + " is too long");
            }
            long answer = one.on(x);
            if (changesNothing(one, answer)) {
                same(seen(replayed(calls)), seenBehind(one), one);
            }
            calls.add(one);
            return answer;
        }

        void due(Call one, long want) {
            long got = call(one);
            asked++;
            if (got != want) {
                wrong++;
                System.out.println(name + ": " + one + " answered " + got + ", due is " + want);
            }
        }

        void row(String row) {
            Matcher letters = LETTERS.matcher(row);
            Matcher call = CALL.matcher(row);
            if (letters.matches()) {
                for (char letter : letters.group(1).toCharArray()) {
                    call(new Call("type", letter));
                }
                if (letters.group(2) != null) {
                    due(new Call("house"), Long.parseLong(letters.group(2)));
                }
            } else if (call.matches()) {
                Call one = new Call(call.group(1), numbers(call.group(2)));
                for (int i = 0; call.group(4) != null && i < Integer.parseInt(call.group(4)); i++) {
                    call(one);
                }
                if (call.group(3) != null) {
                    due(one, Long.parseLong(call.group(3)));
                }
            } else {
                throw new IllegalStateException("no row: " + row);
            }
        }

        private List<Long> seenBehind(Call one) {
            CradleBills other = replayed(calls);
            one.on(other);
            return seen(other);
        }

        private void same(List<Long> without, List<Long> with, Call one) {
            asked++;
            if (!without.equals(with)) {
                wrong++;
                System.out.println(name + ": " + one + " has changed something:\n  " + without + "\n  " + with);
            }
        }
    }

    private static int[] numbers(String text) {
        String[] parts = text.isEmpty() ? new String[0] : text.split(", ");
        int[] numbers = new int[parts.length];
        for (int i = 0; i < parts.length; i++) {
            numbers[i] = parts[i].equals("LOW") ? Integer.MIN_VALUE
                    : parts[i].equals("HIGH") ? Integer.MAX_VALUE : Integer.parseInt(parts[i]);
        }
        return numbers;
    }

    private static boolean changesNothing(Call one, long answer) {
        return QUESTIONS.contains(one.name()) || one.name().equals("rate") && answer == CradleBills.NO
                || !one.name().equals("rate") && answer < 0 && answer != -5;
    }

    private static CradleBills replayed(List<Call> calls) {
        CradleBills x = new CradleBills();
        calls.forEach(one -> one.on(x));
        return x;
    }

    /** All that can be seen of an object; what may be undone, the images and the text are used up. */
    private static List<Long> seen(CradleBills x) {
        List<Long> all = new ArrayList<>();
        int babies = x.count(2);
        seenOfHouse(x, babies, all);
        seenNow(x, babies, all);
        all.add((long) x.which());
        all.add(x.trace());
        for (int times = 0; times <= 10; times++) {
            all.add((long) x.undo());
            seenNow(x, babies, all);
        }
        for (int image = 0; image <= 1; image++) {
            all.add((long) x.back(image));
            seenNow(x, babies, all);
        }
        all.add((long) x.house());
        all.add((long) x.count(0));
        return all;
    }

    private static void seenOfHouse(CradleBills x, int babies, List<Long> all) {
        int words = x.count(0);
        int motions = x.count(1);
        all.add(words * 100L + motions * 10L + babies);
        all.add(x.count(3) * 1000L + x.count(4));
        for (int w = 0; w < words; w++) {
            all.add(x.word(w, 0) * 10L + x.word(w, 1));
        }
        for (int m = 0; m < motions; m++) {
            int length = x.motion(m, 1);
            all.add(x.motion(m, 0) * 10L + length);
            for (int k = 0; k < length; k++) {
                all.add((long) x.said(m, k));
            }
        }
        for (int b = 0; b < babies; b++) {
            all.add(x.baby(b, 1) * 100L + x.baby(b, 2));
        }
    }

    private static void seenNow(CradleBills x, int babies, List<Long> all) {
        all.add((long) x.now(0));
        all.add((long) x.now(1));
        all.add((long) x.now(2));
        for (int b = 0; b < babies; b++) {
            all.add((long) x.baby(b, 0));
            all.add((long) x.baby(b, 3));
        }
    }

    private static void edge(int promise, String quote, String... rows) {
        edges++;
        if (document != null && !document.contains(quote)) {
            wrong++;
            System.out.println("the document does not say: " + quote);
        }
        Run run = new Run("promise " + promise + ", \"" + quote + "\"");
        for (String row : rows) {
            run.row(row);
        }
    }

    /** A fault at a place, in a house in which something has been done, heard and kept. */
    private static void fault(String quote, String text, int place) {
        edge(4, quote, "<w1 1;m7 0;b5 1 9;> = 3", "rocks(0) = 8", "hears(0, 6) = 1", "keep(1) = 2", "reads(0, 0) = -5",
                "rate(1, 0) = 9", "<" + text + "> = " + (-10 - place), "count(4) = " + text.length(),
                "word(0, 0) = 1", "now(1) = 1", "count(3) = 1", "back(1) = 2", "clear() = " + text.length());
    }

    private static String times(int times, String text) {
        return text.repeat(times);
    }

    // ---- the house

    private static void theText() {
        String letters = "A letter (0 .. 255) comes to THE TEXT: how many it has. BAD; FULL.";
        edge(2, letters, "type(0) = 1", "type(255) = 2", "count(4) = 2", "clear() = 2");
        edge(2, letters, "type(65) = 1", "type(-1) = -1", "type(256) = -1", "type(LOW) = -1", "type(HIGH) = -1",
                "count(4) = 1", "type(66) = 2");
        edge(2, "They are a text (200 letters at most)", "type(32) x 198", "type(32) = 199", "type(32) = 200",
                "type(32) = -3", "type(119) = -3", "count(4) = 200", "house() = 0", "type(32) = 1");
        edge(2, "They are a text (200 letters at most)", "<w1 2;" + times(187, " ") + "b4 1 33;> = 2", "word(0, 1) = 2",
                "baby(0, 2) = 33", "count(4) = 0", "type(32) = 1");
        edge(2, REFUSED, "type(32) x 200", "type(256) = -1", "type(-1) = -1", "type(255) = -3", "count(4) = 200");
        String clear = "THE TEXT is empty: how many letters it had.";
        edge(3, clear, "clear() = 0", "count(4) = 0", "type(119) = 1", "clear() = 1", "clear() = 0", "type(119) = 1");
        edge(3, clear, "type(119) x 200", "clear() = 200", "count(4) = 0", "type(32) = 1", "house() = 0");
        edge(3, clear, "<w1 1;b5 1 9;> = 2", "clear() = 0", "<w2 2;>", "clear() = 5", "word(0, 0) = 1", "baby(0, 0) = 5");
        edge(3, clear, "<x> = -10", "clear() = 1", "house() = 0");
    }

    private static void howManyItems() {
        String items = "THE TEXT tells all anew, and is empty then: how many ITEMS.";
        edge(4, items, "house() = 0", "count(0) = 0", "count(1) = 0", "count(2) = 0");
        edge(4, items, "<     > = 0", "count(4) = 0");
        edge(4, items, "<b1 1 1;w0 0;b2 2 2;m1 0;w1 1;> = 5", "count(4) = 0", "count(0) = 2", "count(1) = 1", "count(2) = 2");
        edge(4, items, "<" + times(6, "w0 0;") + times(5, "m1 5;") + times(4, "b1 1 1;") + "> = 15",
                "count(0) = 6", "count(1) = 5", "count(2) = 4");
        edge(4, "(6 at most): LOUD", "<" + times(5, "w0 0;") + "w9 5;> = 6", "count(0) = 6", "word(5, 0) = 9", "word(6, 0) = -1");
        edge(4, "MOTIONS 0 .. (5 at most)", "<w0 0;" + times(4, "m1 0;") + "m7 0;> = 6", "count(1) = 5", "motion(4, 0) = 7",
                "motion(5, 0) = -1");
        edge(4, "BABIES 0 .. (4 at most)", "<" + times(3, "b1 1 1;") + "b7 1 1;> = 4", "count(2) = 4", "baby(3, 0) = 7",
                "baby(4, 0) = -1");
        fault("a seventh w", times(7, "w0 0;"), 30);
        fault("a seventh w", times(6, "w0 0;") + "  w", 32);
        fault("a seventh w", times(6, "w0 0;") + "m1 0;b1 1 1;w0 0;", 42);
        fault("a sixth m", "w0 0;" + times(6, "m1 0;"), 30);
        fault("a sixth m", "w0 0;" + times(5, "m1 0;") + "b1 1 1; m", 38);
        fault("a fifth b", times(5, "b1 1 1;"), 28);
        fault("a fifth b", times(4, "b1 1 1;") + "w0 0; b", 34);
    }

    private static void numbersOfItems() {
        edge(5, "LOUD (0 .. 9)", "<w0 1;w9 1;> = 2", "word(0, 0) = 0", "word(1, 0) = 9");
        fault("LOUD (0 .. 9)", "w10 0;", 1);
        fault("LOUD (0 .. 9)", "w99 0;", 1);
        edge(5, "LULL (0 .. 5)", "<w1 0;w1 5;> = 2", "word(0, 1) = 0", "word(1, 1) = 5");
        fault("LULL (0 .. 5)", "w0 6;", 3);
        fault("LULL (0 .. 5)", "w0 10;", 3);
        edge(6, "WORTH (0 .. 99)", "<w0 0;m0 0;m99 0;> = 3", "motion(0, 0) = 0", "motion(1, 0) = 99");
        fault("WORTH (0 .. 99)", "w0 0;m100 0;", 6);
        edge(8, "DEPTH (0 .. 9; 0: awake)", "<b0 1 9;b9 1 9;b1 1 9;> = 3", "baby(0, 0) = 0", "baby(1, 0) = 9",
                "baby(2, 0) = 1", "now(4) = 6");
        fault("DEPTH (0 .. 9; 0: awake)", "b10 1 1;", 1);
        edge(8, "EARS (0 .. 3)", "<b1 0 9;b1 3 9;> = 2", "baby(0, 1) = 0", "baby(1, 1) = 3");
        fault("EARS (0 .. 3)", "b1 4 1;", 3);
        fault("EARS (0 .. 3)", "b1 10 1;", 3);
        edge(8, "HUNGER (1 .. 99 minutes)", "<b1 1 1;b1 1 99;> = 2", "baby(0, 2) = 1", "baby(1, 2) = 99");
        fault("HUNGER (1 .. 99 minutes)", "b1 1 0;", 5);
        fault("HUNGER (1 .. 99 minutes)", "b1 1 100;", 5);
        fault("a NUMBER beyond what it may be, too", "w0 0; w 0 6;", 10);
    }

    private static void wordsOfMotions() {
        String words = "m W and 1 to 6 WORDS told ahead (a MOTION)";
        edge(4, words, "<w0 0;m1 0;> = 2", "motion(0, 1) = 1", "said(0, 0) = 0", "said(0, 1) = -1");
        edge(4, words, "<w0 0;w1 1;m1 0 1 0 1 0 1;> = 3", "motion(0, 1) = 6", "said(0, 5) = 1", "said(0, 6) = -1");
        fault(words, "w0 0;m1;", 7);
        fault(words, "w0 0;m;", 6);
        edge(4, words, "<w0 0;m1 0;w3 3;m2 1;> = 4", "said(1, 0) = 1", "word(1, 0) = 3");
        fault(words, "w0 0;m1 1;w0 0;", 8);
        fault("a seventh WORD of a MOTION", "w0 0;m1 0 0 0 0 0 0 0;", 20);
        fault("a seventh WORD of a MOTION", "w0 0;m1 0 0 0 0 0 0 9;", 20);
        fault("a WORD that there is not", "w0 0;m1 1;", 8);
        fault("a WORD that there is not", "w0 0;w0 0;m1 1 0 2;", 17);
        fault("a WORD that there is not", times(6, "w0 0;") + "m1 5 6;", 35);
        fault("a WORD that there is not", "w0 0;m1 0 99;", 10);
        // WORD 0 of the house as it is does not count: the text tells all anew.
        fault("a WORD that there is not", "m7 0;", 3);
    }

    private static void faultsOfTokens() {
        String first = "FAULT: the place of the first letter of the first TOKEN that can't stand there";
        String[] texts = {"5", ";", " ;", "w;", "w1;", "w1 1 1;", "w w", "w1 m", "w1 1 w", "w0 0;m1 0 w", "w0 0;m m", "w0 0;m1 b",
            "b;", "b1;", "b1 1;", "b1 1 1 1;", "b1 1 b", "w1 1;;", "w1 1;1", "w0 0;m1 0;0", "w 55 x", "w1 x;m100", "b1 9 x 100"};
        int[] places = {0, 0, 1, 1, 2, 5, 2, 3, 5, 10, 7, 8, 1, 2, 4, 7, 5, 5, 5, 10, 2, 3, 3};
        for (int i = 0; i < texts.length; i++) {
            fault(first, texts[i], places[i]);
        }
        String large = "a NUMBER above 99 or with a 0 ahead of others, that TOKEN's";
        edge(4, large, "<w0 0;m99 0;m10 0;m90 0;m0 0;> = 5", "motion(1, 0) = 10", "motion(3, 0) = 0");
        fault(large, "w0 0;m100 0;", 6);
        fault(large, "w0 0;m999 0;", 6);
        fault(large, "w0 0;m " + times(150, "9") + " 0;", 7);
        // Numbers that a wrap-around at 2^32 or 2^64 would take for 5, 1 or 0.
        fault(large, "w4294967301 1;", 1);
        fault(large, "w1 18446744073709551617;", 3);
        fault(large, "w0 0;m1 4294967296;", 8);
        for (String zeros : new String[] {"00", "01", "09", "000", "007", "0100"}) {
            fault(large, "w" + zeros + " 0;", 1);
            fault(large, "w0 " + zeros + ";", 3);
            fault(large, "w0 0;m" + zeros + " 0;", 6);
            fault(large, "w0 0;m1 " + zeros + ";", 8);
            fault(large, "b1 1 " + zeros + ";", 5);
        }
        String blanks = "told letter by letter, blanks (32) between TOKENS";
        edge(4, blanks, "<w1 1;m2 0 0;b3 1 4;> = 3", "said(0, 1) = 0");
        edge(4, blanks, "<   w   1   1   ;   m  2  0  0  ;  b  3  1  4  ;   > = 3", "said(0, 1) = 0", "baby(0, 2) = 4");
        fault(blanks, "w1\t1;", 2);
        fault(blanks, "w1 1;\n", 5);
        everyLetter();
    }

    /** Every letter as the first of all, between two numbers, and behind the last number. */
    private static void everyLetter() {
        String other = "of any other letter, a NUMBER above 99";
        for (int letter = 0; letter <= 255; letter++) {
            char sign = (char) letter;
            boolean begins = sign == 'w' || sign == 'm' || sign == 'b';
            boolean digit = sign >= '0' && sign <= '9';
            edge(4, other, "<" + sign + "> = " + (sign == ' ' ? 0 : begins ? -11 : -10));
            edge(4, other, "<w1" + sign + "1;> = " + (sign == ' ' ? 1 : digit ? -11 : -12));
            edge(4, other, "<w1 1" + sign + "> = " + (sign == ';' ? 1 : sign == ' ' ? -15 : digit ? -13 : -14));
        }
    }

    private static void textsThatEndTooEarly() {
        String early = "the text's length, if it ends too early.";
        String[] texts = {"w", "w1", "w1 ", "w1 1", "w1 1    ", "w0 0;m", "w0 0;m1", "w0 0;m1 0", "w0 0;m1 0 0 0 0 0 0", "b", "b1", "b1 1",
            "b1 1 1", "b1 1 99", "w1 1;w", "w0 0;m1 0;m "};
        for (String text : texts) {
            fault(early, text, text.length());
        }
        edge(4, early, "<w" + times(199, " ") + "> = -210", "count(4) = 200", "type(59) = -3", "clear() = 200");
        edge(4, "-10 less FAULT: nothing changes.", "<" + times(199, " ") + "x> = -209", "count(4) = 200", "clear() = 200");
        // The text stays behind a FAULT, so it may be told to its end.
        edge(4, "-10 less FAULT: nothing changes.", "<w1 > = -13", "<2> = -14", "<;> = 1", "word(0, 1) = 2", "count(4) = 0");
        edge(4, "-10 less FAULT: nothing changes.", "<;> = -10", "house() = -10", "count(4) = 1");
        // What stood behind the text's end before it was emptied is no part of it.
        edge(4, early, "<w1 12;> = -13", "clear() = 6", "<w1 1> = -14", "<;> = 1", "<b1 1 100;> = -15", "clear() = 9", "<b1 1 10> = -17");
    }

    private static void toldAnew() {
        String anew = "(Read anew: as told, MINUTE 0, nothing CARRIED, HEARD, IMAGES are gone.)";
        edge(4, anew, HOUSE, "rocks(3) = 3", "reads(3, 2) = -5", "reads(0, 1) = 0", "feeds(0) = 7", "hears(0, 6) = 1",
                "keep(0) = 7", "keep(1) = 7", "rate(0, 2) = 9", "<w1 1;m7 0;b5 1 9;b0 1 9;> = 4",
                "now(0) = 0", "now(1) = 0", "now(2) = 0", "now(3) = 0", "now(4) = 1", "now(5) = 0", "undo() = -2",
                "count(3) = 0", "back(0) = -2", "back(1) = -2", "baby(0, 0) = 5", "baby(0, 3) = 0", "baby(0, 4) = 0",
                "motion(0, 2) = 0", "word(1, 0) = -1", "motion(1, 0) = -1", "baby(2, 0) = -1", "trace() = 1");
        edge(4, anew, HOUSE, "rocks(3) = 3", "house() = 0", "count(0) = 0", "count(1) = 0", "count(2) = 0", "now(0) = 0",
                "now(4) = 0", "undo() = -2", "match(-1) = 0", "which() = 0", "reads(0, 0) = -1", "rocks(0) = -1");
        edge(4, anew, "<w9 5;m99 0 0 0;b9 3 99;b8 3 1;> = 4", "feeds(1) = 3", "<w1 1;> = 1", "<w2 2;b2 2 2;m3 0;b0 1 9;> = 4",
                "motion(0, 1) = 1", "baby(1, 0) = 0", "baby(1, 3) = 0", "baby(1, 4) = 0", "now(4) = 1", "count(2) = 2");
        edge(4, anew, "<w0 0;m5 0;m9 0;b9 1 9;b9 1 9;> = 5", "match(-1) = 14", "<w0 0;m5 0;b9 1 9;> = 3", "match(-1) = 5", "agenda(0, -1) = 5",
                "agenda(0, 1) = -5", "which() = 1", "now(4) = 1", "would(1, 0) = -1", "would(0, 1) = -1", "match(1) = -1");
        edge(1, "As told; no WORDS, nobody.", "count(0) = 0", "count(1) = 0", "count(2) = 0", "count(3) = 0", "count(4) = 0",
                "word(0, 0) = -1", "motion(0, 0) = -1", "said(0, 0) = -1", "baby(0, 0) = -1", "reads(0, 0) = -1",
                "rocks(0) = -1", "feeds(0) = -1", "undo() = -2", "would(0, 0) = -1", "deep(0, 0) = -1", "rockings(0, 0) = -1",
                "wording(0, 0, 0) = -1", "noise(0, 0, 0) = -1", "odds(0, 0, 0, 0) = -1", "match(-1) = 0", "match(0) = -1",
                "agenda(0, -1) = -1", "hears(0, 0) = -1", "forget() = 0", "which() = 0", "rate(0, 0) = -1000000",
                "back(0) = -2", "back(1) = -2", "keep(0) = 0", "back(0) = 0", "back(1) = -2", "clear() = 0", "trace() = 0");
        edge(1, "THE MINUTE is 0 at first (99999 at most), nothing is CARRIED or LOST, nobody has been fed (FED: THE MINUTE 0).",
                "now(0) = 0", "now(1) = 0", "now(2) = 0", "now(3) = 0", "now(4) = 0", "now(5) = 0", "<w0 0;m1 0;b5 1 1;> = 3",
                "now(0) = 0", "now(1) = 0", "now(2) = 0", "now(3) = 0", "motion(0, 2) = 0", "baby(0, 3) = 0", "baby(0, 4) = 0");
    }

    private static void whatIsTold() {
        edge(5, "Of a WORD: 0 LOUD, 1 LULL. BAD.", HOUSE, "word(0, 0) = 2", "word(0, 1) = 1", "word(3, 0) = 1", "word(3, 1) = 0",
                "word(4, 0) = -1", "word(6, 0) = -1", "word(-1, 0) = -1", "word(0, 2) = -1", "word(0, -1) = -1",
                "word(LOW, 0) = -1", "word(HIGH, 1) = -1", "word(0, LOW) = -1", "word(0, HIGH) = -1");
        edge(6, "Of a MOTION: 0 WORTH, 1 how many WORDS, 2 how it is (0 as told, 1 CARRIED, 2 LOST). BAD.", HOUSE,
                "motion(0, 0) = 30", "motion(0, 1) = 3", "motion(0, 2) = 0", "reads(0, 0) = -5", "motion(0, 2) = 1",
                "reads(2, 1) = 0", "motion(2, 2) = 2", "motion(3, 2) = 0", "motion(4, 0) = -1", "motion(5, 2) = -1",
                "motion(-1, 0) = -1", "motion(0, 3) = -1", "motion(0, -1) = -1", "motion(LOW, 0) = -1", "motion(HIGH, 2) = -1",
                "motion(0, LOW) = -1", "motion(0, HIGH) = -1", "undo() = 1", "motion(2, 2) = 0", "undo() = 0", "motion(0, 2) = 0");
        edge(7, "The k-th WORD of a MOTION. BAD.", HOUSE, "said(0, 0) = 0", "said(0, 2) = 2", "said(0, 3) = -1", "said(0, -1) = -1",
                "said(3, 0) = 1", "said(3, 1) = -1", "said(4, 0) = -1", "said(-1, 0) = -1", "said(0, 6) = -1", "said(0, LOW) = -1",
                "said(0, HIGH) = -1", "said(LOW, 0) = -1", "said(HIGH, 0) = -1");
        edge(8, "0 DEPTH, 1 EARS, 2 HUNGER, 3 THE MINUTE at which it was FED, 4 whether HUNGRY (1, 0). BAD.", HOUSE,
                "baby(0, 0) = 6", "baby(0, 1) = 1", "baby(0, 2) = 5", "baby(0, 3) = 0", "baby(0, 4) = 0", "baby(0, 5) = -1",
                "baby(0, -1) = -1", "baby(4, 0) = -1", "baby(-1, 0) = -1", "baby(LOW, 4) = -1", "baby(HIGH, 4) = -1",
                "baby(0, LOW) = -1", "baby(0, HIGH) = -1", "rocks(3) x 3", "baby(0, 4) = 1", "baby(1, 4) = 0");
        edge(28, "0 WORDS, 1 MOTIONS, 2 BABIES, 3 HEARD, 4 letters of THE TEXT. BAD.", HOUSE, "count(0) = 4", "count(1) = 4",
                "count(2) = 4", "count(3) = 0", "count(4) = 0", "count(5) = -1", "count(-1) = -1", "count(LOW) = -1",
                "count(HIGH) = -1", "hears(0, 0) x 6", "count(3) = 6", "hears(0, 0) = -3", "count(3) = 6", "type(32) x 3", "count(4) = 3");
    }

    private static void howItIsNow() {
        String now = "0 THE MINUTE, 1 CARRIED (bits), 2 LOST (bits), 3 EARNED, 4 who sleeps (bits), 5 how many may be UNDONE. BAD.";
        edge(9, now, HOUSE, "now(4) = 7", "rocks(3) = 3", "now(4) = 15", "now(5) = 1", "now(0) = 2", "now(6) = -1", "now(-1) = -1",
                "now(LOW) = -1", "now(HIGH) = -1");
        edge(9, now, "<w9 0;m1 0;m1 0;m1 0;m1 0;m1 0;b9 1 99;> = 7", "reads(0, 0) = 0", "now(4) = 0", "rocks(0) = 3", "reads(1, 0) = 0",
                "rocks(0) = 3", "reads(2, 0) = 0", "rocks(0) = 3", "reads(3, 0) = 0", "rocks(0) = 3", "reads(4, 0) = 0",
                "now(2) = 31", "now(1) = 0", "now(3) = 0", "now(0) = 13", "now(5) = 9");
        edge(9, "EARNED: WORTH of all that is CARRIED, together.", "<w0 0;m99 0;m99 0;m99 0;m99 0;m99 0;b1 3 99;> = 7", "now(3) = 0",
                "reads(4, 0) = -5", "now(3) = 99", "reads(0, 0) = -5", "reads(1, 0) = -5", "reads(2, 0) = -5", "reads(3, 0) = -5",
                "now(3) = 495", "now(1) = 31", "now(2) = 0", "undo() = 4", "now(3) = 396");
    }

    // ---- what is done

    private static void hunger() {
        String hungry = "A BABY is HUNGRY, if THE MINUTE is HUNGER minutes or more behind the one at which it was FED.";
        for (int hunger = 1; hunger <= 99; hunger++) {
            for (int fed = 0; fed <= 3; fed += 3) {
                List<String> rows = new ArrayList<>();
                rows.add("<w0 0;m1 0;m1 0;m1 0;b5 1 " + hunger + ";b9 1 99;> = 6");
                rows.add(fed == 0 ? "now(0) = 0" : "feeds(0) = 3");
                rows.add("baby(0, 4) = 0");
                rows.add((hunger - 1) % 2 == 1 ? "reads(0, 1) = -5" : "now(5) = " + fed / 3);
                rows.add("rocks(1) x " + (hunger - 1) / 2);
                rows.addAll(List.of("now(0) = " + (fed + hunger - 1), "baby(0, 4) = 0", "reads(1, 1) = -5", "baby(0, 4) = 1",
                        "reads(2, 1) = -5", "baby(0, 4) = 1", "feeds(0) = " + (fed + hunger + 4), "baby(0, 4) = 0"));
                edge(8, hungry, rows.toArray(new String[0]));
            }
        }
    }

    private static void wordsByBabies() {
        String bounds = "0 to 9 (what is beyond is not counted). At 0 it is awake.";
        edge(10, bounds, "<w4 0;m1 0;b4 1 99;> = 3", "reads(0, 0) = 0", "baby(0, 0) = 0", "now(4) = 0", "motion(0, 2) = 2");
        edge(10, bounds, "<w4 0;m1 0;b5 1 99;> = 3", "reads(0, 0) = -5", "baby(0, 0) = 1", "now(4) = 1", "motion(0, 2) = 1");
        edge(10, bounds, "<w9 0;m1 0;b1 3 99;> = 3", "reads(0, 0) = 0", "baby(0, 0) = 0", "rocks(0) = 3");
        edge(10, bounds, "<w0 5;w9 0;m1 0 0;m2 1;b9 1 99;> = 5", "reads(0, 0) = -5", "baby(0, 0) = 9", "reads(1, 0) = 0");
        edge(10, bounds, "<w0 5;m1 0;b4 1 99;b5 1 99;> = 4", "reads(0, 0) = -5", "baby(0, 0) = 9", "undo() = 0", "reads(0, 1) = -5",
                "baby(1, 0) = 9");
        // LULL and LOUD come together: 9 and 5 more, 6 less is 8, not 3.
        edge(10, "its DEPTH is LULL more, and LOUD times EARS less", "<w6 5;m1 0;b9 1 99;> = 3", "reads(0, 0) = -5", "baby(0, 0) = 8");
        edge(10, "its DEPTH is LULL more, and LOUD times EARS less", "<w9 0;m1 0;b1 0 99;> = 3", "reads(0, 0) = -5", "baby(0, 0) = 1");
        // 1 and 5 less 2 times 3 is 0; less 1 times 3 is 3.
        edge(10, "its DEPTH is LULL more, and LOUD times EARS less", "<w2 5;w1 5;m1 0;m1 1;b1 3 99;> = 5", "would(0, 0) = 0",
                "reads(1, 0) = -5", "baby(0, 0) = 3");
        String twice = "(twice EARS, if it is HUNGRY as the MOTION begins)";
        edge(10, twice, "<w1 0;m1 0 0 0 0 0 0;b9 1 2;> = 3", "baby(0, 4) = 0", "reads(0, 0) = -5", "baby(0, 0) = 3", "baby(0, 4) = 1");
        edge(10, twice, "<w1 0;m1 0 0 0 0 0 0;b9 1 2;b0 1 9;> = 4", "rocks(1) = 3", "baby(0, 4) = 1", "reads(0, 0) = 4",
                "baby(0, 0) = 0", "now(0) = 7");
        edge(10, twice, "<w1 0;m1 0 0 0 0 0 0;b9 1 3;b0 1 9;> = 4", "rocks(1) = 3", "baby(0, 4) = 0", "reads(0, 0) = -5",
                "baby(0, 0) = 3");
        edge(10, twice, "<w1 0;m1 0;m1 0;b9 3 1;b0 1 9;> = 5", "rocks(1) = 3", "reads(0, 0) = -5", "baby(0, 0) = 3", "reads(1, 0) = 0");
        edge(10, twice, "<w9 0;m1 0;b1 0 1;b0 1 9;> = 4", "rocks(1) = 3", "baby(0, 4) = 1", "reads(0, 0) = -5", "baby(0, 0) = 1");
    }

    /** LOUD, LULL, DEPTH, EARS, HUNGRY or not: all that a WORD can do to a BABY that sleeps. */
    private static void everyWordByEveryBaby() {
        for (int loud = 0; loud <= 9; loud++) {
            for (int lull = 0; lull <= 5; lull++) {
                for (int depth = 1; depth <= 9; depth++) {
                    for (int ears = 0; ears <= 3; ears++) {
                        oneWordByOneBaby(loud, lull, depth, ears, 1);
                        oneWordByOneBaby(loud, lull, depth, ears, 2);
                    }
                }
            }
        }
    }

    private static void oneWordByOneBaby(int loud, int lull, int depth, int ears, int times) {
        String text = "w" + loud + " " + lull + ";m1 0;b" + depth + " " + ears + " " + (times == 2 ? 2 : 3) + ";b0 0 99;";
        CradleBills x = new CradleBills();
        for (char letter : text.toCharArray()) {
            x.type(letter);
        }
        x.house();
        x.rocks(1);
        int after = Math.max(0, Math.min(9, depth + lull - loud * ears * times));
        int would = x.would(0, 0);
        int reads = x.reads(0, 0);
        asked++;
        if (would != (after == 0 ? 0 : -5) || reads != would || x.baby(0, 0) != after || x.now(0) != 3
                || x.motion(0, 2) != (after == 0 ? 2 : 1)) {
            wrong++;
            System.out.println("promise 10: '" + text + "': would() " + would + ", reads() " + reads + ", DEPTH " + x.baby(0, 0));
        }
    }

    private static void motionsRead() {
        edge(10, "READ: at which place it was WOKEN, -5: CARRIED.", HOUSE, "reads(1, 1) = 1", "reads(0, 0) = -5", "now(1) = 1", "now(2) = 2");
        String read = "as soon as the BABY is awake (WOKEN at that WORD) it ends, and is LOST; if it sleeps to the end, it is CARRIED.";
        String text = "<w1 0;m1 0 0 0 0 0 0;m2 0 0 0 0 0 0;m3 0;b6 1 99;b7 1 99;> = 6";
        edge(10, read, text, "reads(0, 0) = 5", "now(0) = 6", "now(2) = 1", "now(1) = 0", "baby(0, 0) = 0");
        edge(10, read, text, "reads(1, 1) = -5", "now(0) = 6", "now(1) = 2", "now(2) = 0", "baby(1, 0) = 1", "reads(2, 1) = 0",
                "now(0) = 7", "now(2) = 4", "baby(1, 0) = 0");
        edge(10, read, "<w9 0;w0 5;m1 0 1 1 1 1 1;b9 1 99;> = 4", "reads(0, 0) = 0", "now(0) = 1", "baby(0, 0) = 0");
        edge(10, "A MOTION is READ by a BABY: WORD by WORD, a minute each", "<w0 0;m1 0;m1 0 0 0 0 0 0;b1 1 99;> = 4",
                "reads(0, 0) = -5", "now(0) = 1", "reads(1, 0) = -5", "now(0) = 7", "now(5) = 2");
        String state = "BAD; STATE: it is CARRIED, LOST, the BABY is awake, it would be beyond THE MINUTE 99999.";
        edge(10, state, HOUSE, "reads(3, 2) = -5", "reads(3, 2) = -2", "reads(3, 0) = -2", "now(0) = 1");
        edge(10, state, HOUSE, "reads(2, 1) = 0", "reads(2, 2) = -2", "reads(2, 0) = -2", "now(0) = 1");
        edge(10, state, HOUSE, "reads(0, 3) = -2", "reads(2, 1) = 0", "reads(0, 1) = -2", "feeds(2) = 4", "reads(0, 2) = -2", "now(5) = 2");
        edge(10, state, HOUSE, "reads(4, 0) = -1", "reads(-1, 0) = -1", "reads(0, 4) = -1", "reads(0, -1) = -1", "reads(LOW, 0) = -1",
                "reads(HIGH, 0) = -1", "reads(0, LOW) = -1", "reads(0, HIGH) = -1", "now(0) = 0", "now(5) = 0");
        edge(10, state, HOUSE, "reads(2, 1) = 0", "undo() = 0", "reads(2, 2) = -5", "undo() = 0", "reads(2, 1) = 0");
    }

    private static void rockedAndFed() {
        String rocked = "ROCKED: a BABY's DEPTH is 3 more (9 at most; an awake one sleeps then): 2 minutes.";
        for (int depth = 0; depth <= 9; depth++) {
            edge(11, rocked, "<b" + depth + " 1 9;b1 1 9;> = 2", "rocks(0) = " + Math.min(9, depth + 3), "now(0) = 2", "now(4) = 3",
                    "baby(1, 0) = 1", "baby(0, 3) = 0");
        }
        edge(11, rocked, "<b0 1 9;> = 1", "now(4) = 0", "rocks(0) = 3", "rocks(0) = 6", "rocks(0) = 9", "rocks(0) = 9", "now(0) = 8");
        edge(11, "ROCKED: its DEPTH. BAD; STATE: beyond THE MINUTE 99999.", HOUSE, "rocks(4) = -1", "rocks(-1) = -1", "rocks(LOW) = -1",
                "rocks(HIGH) = -1", "now(0) = 0", "now(5) = 0");
        String fed = "FED: a BABY is FED at THE MINUTE as it is then: 3 minutes; it is awake then.";
        edge(12, fed, "<b9 1 3;b0 1 9;> = 2", "feeds(0) = 3", "baby(0, 0) = 0", "baby(0, 3) = 3", "baby(0, 4) = 0", "now(0) = 3",
                "now(4) = 0", "feeds(1) = 6", "baby(1, 0) = 0", "baby(1, 3) = 6", "baby(0, 3) = 3", "baby(0, 4) = 1", "feeds(0) = 9",
                "baby(0, 3) = 9", "baby(0, 4) = 0");
        edge(12, fed, "<w0 0;w9 0;m1 0;m2 1;b9 1 9;b9 1 9;b9 1 9;b9 1 9;> = 8", "reads(0, 3) = -5", "reads(1, 2) = 0", "feeds(0) = 5",
                "feeds(1) = 8", "feeds(2) = 11", "feeds(3) = 14", "baby(0, 3) = 5", "baby(1, 3) = 8", "baby(2, 3) = 11", "baby(3, 3) = 14",
                "now(0) = 14", "now(1) = 1", "now(2) = 2", "now(4) = 0", "undo() = 5", "baby(3, 3) = 0", "baby(3, 0) = 9", "baby(2, 3) = 11");
        edge(12, fed, "<b9 1 1;> = 1", "feeds(0) = 3", "baby(0, 4) = 0", "rocks(0) = 3", "baby(0, 4) = 1");
        edge(12, "FED: THE MINUTE as it is then. BAD; STATE: beyond THE MINUTE 99999.", HOUSE, "feeds(4) = -1", "feeds(-1) = -1",
                "feeds(LOW) = -1", "feeds(HIGH) = -1", "now(0) = 0", "now(5) = 0");
    }

    private static void undone() {
        String known = "UNDONE: the latest reads(), rocks(), feeds() that was not refused (10 are known, older ones are lost).";
        String text = "<w0 0;w9 0;m1 0;m2 1 0;b0 1 99;b9 1 99;> = 6";
        edge(13, known, text, "rocks(0) x 9", "now(5) = 9", "rocks(0) = 9", "now(5) = 10", "undo() = 9", "undo() x 8", "undo() = 0",
                "undo() = -2", "now(0) = 0", "baby(0, 0) = 0");
        edge(13, known, text, "rocks(0) x 11", "now(5) = 10", "undo() x 9", "now(0) = 4", "undo() = 0", "undo() = -2", "now(0) = 2",
                "baby(0, 0) = 3");
        // Round and round: 23 of them, all known undone, and some again.
        edge(13, known, text, "rocks(0) x 23", "now(0) = 46", "undo() x 9", "undo() = 0", "now(0) = 26", "undo() = -2", "rocks(0) = 9",
                "now(0) = 28", "now(5) = 1", "undo() = 0", "now(0) = 26", "undo() = -2");
        edge(13, known, text, "rocks(0) x 12", "undo() x 3", "undo() = 6", "now(0) = 16", "feeds(0) = 19", "rocks(0) = 3", "rocks(0) = 6",
                "now(5) = 9", "undo() = 8", "now(0) = 21", "baby(0, 0) = 3", "undo() = 7", "now(0) = 19", "baby(0, 0) = 0",
                "baby(0, 3) = 19", "undo() = 6", "now(0) = 16", "baby(0, 0) = 9", "baby(0, 3) = 0", "rocks(1) x 6", "now(5) = 10",
                "undo() x 10", "now(0) = 8", "undo() = -2");
        edge(13, known, text, "rocks(1) = 9", "rocks(2) = -1", "feeds(-1) = -1", "reads(0, 0) = -2", "reads(9, 1) = -1", "now(5) = 1",
                "undo() = 0", "now(0) = 0");
        edge(13, known, text, "reads(1, 1) = 0", "undo() = 0", "now(2) = 0", "baby(1, 0) = 9", "now(0) = 0", "reads(0, 1) = -5",
                "undo() = 0", "now(1) = 0", "now(3) = 0");
        edge(13, known, text, "rocks(1) = 9", "type(119) = 1", "hears(1, 6) = 1", "rate(0, 1) = 9", "keep(0) = 2", "would(0, 1) = -5",
                "undo() = 0", "count(4) = 1", "count(3) = 1", "trace() = 1", "back(0) = 2", "now(0) = 2");
        edge(13, "UNDONE: how many more may be. STATE: none.", text, "undo() = -2", "rocks(0) = 3", "undo() = 0", "undo() = -2", "now(0) = 0");
    }

    private static void minute(String what, long got, long want) {
        asked++;
        if (got != want) {
            wrong++;
            System.out.println("THE MINUTE 99999: " + what + " answered " + got + ", due is " + want);
        }
    }

    /** Within 512 calls nobody comes near it; that the refusal stands is seen by many more calls. */
    private static void lastMinute() {
        CradleBills x = new CradleBills();
        for (char letter : "w0 0;w9 0;m1 0 0;m1 0;m1 1 0;b9 0 99;b9 0 99;b9 3 99;".toCharArray()) {
            x.type(letter);
        }
        minute("house()", x.house(), 8);
        for (int i = 1; i <= 33332; i++) {
            x.feeds(0);
        }
        minute("now(0)", x.now(0), 99996);
        minute("feeds(0) to the last", x.feeds(0), 99999);
        minute("undo()", x.undo(), 9);
        minute("reads(1, 1) to 99997", x.reads(1, 1), -5);
        minute("feeds(0) beyond", x.feeds(0), -2);
        minute("rocks(1) to the last", x.rocks(1), 9);
        minute("undo()", x.undo(), 9);
        minute("reads(0, 1) to the last", x.reads(0, 1), -5);
        minute("now(0)", x.now(0), 99999);
        minute("undo()", x.undo(), 9);
        minute("undo()", x.undo(), 8);
        minute("rocks(1) to 99998", x.rocks(1), 9);
        minute("rocks(1) beyond", x.rocks(1), -2);
        minute("feeds(1) beyond", x.feeds(1), -2);
        minute("reads(0, 1) of two WORDS beyond", x.reads(0, 1), -2);
        minute("nothing changed: THE MINUTE", x.now(0), 99998);
        minute("nothing changed: what may be UNDONE", x.now(5), 9);
        minute("reads(2, 2), WOKEN at the first of two WORDS", x.reads(2, 2), 0);
        minute("now(0)", x.now(0), 99999);
        minute("undo()", x.undo(), 9);
        minute("reads(1, 1) to the last", x.reads(1, 1), -5);
        minute("reads(0, 1) at the last", x.reads(0, 1), -2);
        minute("rocks(1) at the last", x.rocks(1), -2);
        minute("feeds(1) at the last", x.feeds(1), -2);
        minute("BAD ahead of STATE: reads(0, 3)", x.reads(0, 3), -1);
        minute("BAD ahead of STATE: rocks(3)", x.rocks(3), -1);
        minute("BAD ahead of STATE: feeds(-1)", x.feeds(-1), -1);
        minute("no minutes go by: would(0, 1)", x.would(0, 1), -5);
        minute("no minutes go by: rockings(0, 0)", x.rockings(0, 0), 1);
        minute("keep(0)", x.keep(0), 99999);
        minute("now(0)", x.now(0), 99999);
    }

    // ---- what would be

    private static void would() {
        String would = "WOULD: at which place (0 ..) of a MOTION a BABY would be WOKEN; -5: it would be CARRIED; NONE: it is awake.";
        String text = "<w1 0;m1 0 0 0 0 0 0;m2 0;b6 1 99;b7 1 99;b1 1 99;b0 1 99;> = 7";
        edge(14, would, text, "would(0, 0) = 5", "would(0, 1) = -5", "would(0, 2) = 0", "would(0, 3) = -9", "would(1, 3) = -9",
                "rocks(3) = 3", "would(0, 3) = 2", "would(1, 3) = -5");
        edge(14, "WOULD. BAD.", text, "would(2, 0) = -1", "would(-1, 0) = -1", "would(0, 4) = -1", "would(0, -1) = -1",
                "would(LOW, 0) = -1", "would(HIGH, 0) = -1", "would(0, LOW) = -1", "would(0, HIGH) = -1");
        edge(14, would, text, "reads(1, 2) = 0", "would(1, 0) = -5", "reads(0, 1) = -5", "would(0, 0) = 5", "would(0, 1) = 0");
        edge(14, "(As things are NOW; nothing is changed; no minutes go by, but HUNGER is as NOW.)", "<w1 0;m1 0 0 0 0 0 0;b9 1 2;> = 3",
                "would(0, 0) = -5", "rocks(0) = 9", "would(0, 0) = 4", "now(0) = 2");
    }

    private static void deep() {
        String deep = "DEEP of a MOTION, a BABY: the least DEPTH (1 .. 9) at which it WOULD be CARRIED; NONE.";
        for (int loud = 0; loud <= 9; loud++) {
            edge(15, deep, "<w" + loud + " 0;m1 0;b5 1 99;b0 1 99;> = 4", "deep(0, 0) = " + (loud == 9 ? -9 : loud + 1),
                    "deep(0, 1) = " + (loud == 9 ? -9 : loud + 1));
        }
        edge(15, deep, "<w9 5;w9 0;m1 0;m1 1;b9 3 99;b9 0 99;b1 1 99;> = 7", "deep(0, 0) = -9", "deep(1, 1) = 1", "deep(0, 2) = 5");
        edge(15, deep, "<w4 0;m1 0 0;b1 1 2;b9 1 99;> = 4", "deep(0, 0) = 9", "rocks(1) = 9", "deep(0, 0) = -9", "deep(0, 1) = 9");
        edge(15, "DEEP; NONE. BAD.", HOUSE, "deep(4, 0) = -1", "deep(-1, 0) = -1", "deep(0, 4) = -1", "deep(0, -1) = -1",
                "deep(LOW, 0) = -1", "deep(HIGH, 0) = -1", "deep(0, LOW) = -1", "deep(0, HIGH) = -1");
    }

    private static void rockings() {
        String rockings = "how often it must be ROCKED at least (0 .. 4) so that the MOTION WOULD be CARRIED then; NONE.";
        for (int loud = 0; loud <= 9; loud++) {
            for (int depth = 0; depth <= 9; depth++) {
                int least = 0;
                while (least <= 4 && Math.min(9, depth + 3 * least) <= loud) {
                    least++;
                }
                edge(16, rockings, "<w" + loud + " 0;m1 0;b" + depth + " 1 1;> = 3", "rockings(0, 0) = " + (least > 4 ? -9 : least));
            }
        }
        edge(16, rockings, "<w8 0;m1 0;b0 1 2;b9 1 99;> = 4", "rockings(0, 0) = 3", "rocks(1) = 9", "rockings(0, 0) = -9");
        edge(16, "ROCKINGS; NONE. BAD.", HOUSE, "rockings(4, 0) = -1", "rockings(-1, 0) = -1", "rockings(0, 4) = -1",
                "rockings(0, -1) = -1", "rockings(LOW, 0) = -1", "rockings(HIGH, 0) = -1", "rockings(0, LOW) = -1", "rockings(0, HIGH) = -1");
    }

    private static void wording() {
        String wording = "the k-th WORD (-5: not so many); NONE (by none, it is awake).";
        edge(17, wording, "<w0 0;w1 0;w0 1;m1 2 1 0 2 1 0;m2 1;b9 1 99;b0 1 99;> = 7", "wording(0, 0, 0) = 0", "wording(0, 0, 1) = 0",
                "wording(0, 0, 2) = 1", "wording(0, 0, 3) = 1", "wording(0, 0, 4) = 2", "wording(0, 0, 5) = 2", "wording(0, 0, 6) = -5",
                "wording(0, 0, HIGH) = -5", "wording(1, 0, 0) = 1", "wording(1, 0, 1) = -5", "wording(0, 1, 0) = -9", "said(0, 0) = 2");
        edge(17, wording, "<w1 0;m1 0 0 0 0 0 0;b6 1 99;b7 1 99;> = 4", "wording(0, 0, 0) = -9", "wording(0, 0, 5) = -9",
                "wording(0, 0, 6) = -9", "wording(0, 1, 5) = 0", "wording(0, 1, 6) = -5");
        // At DEPTH 1 only "1 0" stays asleep; at 9 the lull ahead would be lost, and "0 1" is first.
        edge(17, "of all orders of its WORDS by which it WOULD be CARRIED the first (by the numbers of WORDS, one by one)",
                "<w5 0;w0 5;m1 0 1;b1 1 99;b9 1 99;> = 5", "wording(0, 0, 0) = 1", "wording(0, 0, 1) = 0", "wording(0, 1, 0) = 0",
                "wording(0, 1, 1) = 1", "would(0, 0) = 0");
        // "0 1 1" begins lower, but its lull is lost beyond 9: it must go back to "1 0 1".
        edge(17, "of all orders of its WORDS by which it WOULD be CARRIED the first (by the numbers of WORDS, one by one)",
                "<w0 5;w5 0;m1 0 1 1;b9 1 99;> = 4", "wording(0, 0, 0) = 1", "wording(0, 0, 1) = 0", "wording(0, 0, 2) = 1");
        // What was asked in vain leaves nothing behind.
        edge(17, wording, "<w0 0;w0 0;w1 1;m1 0 0;m1 2 1;b9 1 99;b0 1 99;> = 7", "wording(0, 1, 0) = -9", "wording(1, 0, 0) = 1",
                "wording(1, 0, 1) = 2", "wording(0, 1, 0) = -9", "wording(1, 0, 1) = 2", "wording(1, 0, 2) = -5");
        edge(17, "(As things are NOW; nothing is changed; no minutes go by, but HUNGER is as NOW.)",
                "<w2 0;w0 1;m1 0 0 1;b5 1 2;b9 1 99;> = 5", "wording(0, 0, 0) = 0", "rocks(1) = 9", "wording(0, 0, 0) = -9");
        edge(17, "WORDING: the k-th WORD; NONE. BAD (k below 0).", HOUSE, "wording(0, 0, -1) = -1", "wording(0, 0, LOW) = -1",
                "wording(0, 3, -1) = -1", "wording(4, 0, 0) = -1", "wording(-1, 0, 0) = -1", "wording(0, 4, 0) = -1",
                "wording(0, -1, 0) = -1", "wording(HIGH, 0, 0) = -1", "wording(LOW, 0, 0) = -1", "wording(0, HIGH, 0) = -1",
                "wording(0, LOW, 0) = -1", "wording(4, 4, 9) = -1");
    }

    private static void noise() {
        String noise = "if one WORD of a MOTION were n (1 .. 9) louder, it WOULD not be CARRIED: the least n;";
        for (int depth = 1; depth <= 9; depth++) {
            edge(18, noise, "<w0 0;m1 0;b" + depth + " 1 99;> = 3", "noise(0, 0, 0) = " + depth, "noise(0, 0, 1) = 0");
        }
        edge(18, noise, "<w0 1;m1 0;b8 1 99;b9 1 99;> = 4", "noise(0, 0, 0) = 9", "noise(0, 0, 1) = 0", "noise(0, 1, 0) = -9",
                "noise(0, 1, 1) = -9");
        // 9 and 9 louder is 18: LOUD has no upper end here.
        edge(18, noise, "<w9 5;m1 0;b9 1 99;> = 3", "noise(0, 0, 0) = 5");
        edge(18, noise, "<w0 0;m1 0;b9 3 2;b9 0 9;> = 4", "noise(0, 0, 0) = 3", "rocks(1) = 9", "noise(0, 0, 0) = 2", "noise(0, 1, 0) = -9");
        String place = "the place of that WORD, of several the first; NONE (it WOULD not be CARRIED anyhow, or by no n).";
        edge(18, place, "<w0 0;m1 0 0 0 0 0 0;b3 1 99;> = 3", "noise(0, 0, 0) = 3", "noise(0, 0, 1) = 0");
        edge(18, place, "<w0 5;w4 0;m1 0 1;b5 1 99;> = 4", "noise(0, 0, 0) = 5", "noise(0, 0, 1) = 1");
        edge(18, place, "<w0 1;w0 0;m1 0 0 0 0 0 1;b9 1 99;> = 4", "noise(0, 0, 0) = 9", "noise(0, 0, 1) = 5");
        edge(18, place, "<w5 0;m1 0;b5 1 99;b0 1 99;b9 0 99;> = 5", "noise(0, 0, 0) = -9", "noise(0, 0, 1) = -9", "noise(0, 1, 0) = -9",
                "noise(0, 1, 1) = -9", "noise(0, 2, 0) = -9", "noise(0, 2, 1) = -9");
        edge(18, "NOISE: the least (what = 0), the place (1); NONE. BAD.", HOUSE, "noise(0, 0, 2) = -1", "noise(0, 0, -1) = -1",
                "noise(0, 0, LOW) = -1", "noise(0, 0, HIGH) = -1", "noise(4, 0, 0) = -1", "noise(-1, 0, 0) = -1", "noise(0, 4, 0) = -1",
                "noise(0, -1, 0) = -1", "noise(0, 3, 2) = -1", "noise(HIGH, 0, 0) = -1", "noise(0, LOW, 0) = -1");
    }

    private static void odds() {
        String odds = "ODDS of a MOTION, a BABY by x (0 .. 10): each WORD is 1 louder by x of 10, for itself";
        String text = "<w0 0;m1 0 0 0 0 0 0;m1 0;b6 1 99;b1 1 99;b0 1 99;b1 0 99;> = 7";
        edge(19, odds, text, "odds(0, 0, 0, 0) = 1", "odds(0, 0, 0, 1) = 1", "odds(0, 0, 10, 0) = 0", "odds(0, 0, 10, 1) = 1",
                "odds(0, 0, -1, 0) = -1", "odds(0, 0, 11, 0) = -1", "odds(0, 0, LOW, 0) = -1", "odds(0, 0, HIGH, 1) = -1");
        edge(19, odds, text, "odds(0, 0, 1, 0) = 999999", "odds(0, 0, 1, 1) = 1000000", "odds(0, 0, 9, 0) = 468559",
                "odds(0, 0, 9, 1) = 1000000", "odds(0, 1, 9, 0) = 1", "odds(0, 1, 9, 1) = 1000000");
        edge(19, "a fraction (0 by 1: it is awake).", text, "odds(0, 2, 5, 0) = 0", "odds(0, 2, 5, 1) = 1", "odds(0, 2, 0, 0) = 0",
                "odds(0, 2, 0, 1) = 1");
        edge(19, "ODDS: upper (what = 0), lower number (1), in least terms. BAD.", text, "odds(1, 1, 5, 0) = 1", "odds(1, 1, 5, 1) = 2",
                "odds(1, 1, 2, 0) = 4", "odds(1, 1, 2, 1) = 5", "odds(0, 3, 5, 0) = 1", "odds(0, 3, 5, 1) = 1", "odds(1, 1, 3, 0) = 7",
                "odds(1, 1, 3, 1) = 10");
        edge(19, "ODDS: upper (what = 0), lower number (1), in least terms. BAD.", text, "odds(0, 0, 5, 2) = -1", "odds(0, 0, 5, -1) = -1",
                "odds(0, 0, 5, LOW) = -1", "odds(0, 0, 5, HIGH) = -1", "odds(2, 0, 5, 0) = -1", "odds(-1, 0, 5, 0) = -1",
                "odds(0, 4, 5, 0) = -1", "odds(0, -1, 5, 0) = -1", "odds(HIGH, LOW, 0, 0) = -1", "odds(0, 2, 11, 0) = -1");
        // One that WOULD not be CARRIED though no WORD is louder.
        edge(19, odds, "<w9 0;m1 0;b9 1 99;> = 3", "odds(0, 0, 0, 0) = 0", "odds(0, 0, 0, 1) = 1", "odds(0, 0, 7, 0) = 0", "odds(0, 0, 7, 1) = 1");
        // 1 louder wakes it only if it is HUNGRY: 2 less of 2.
        edge(19, odds, "<w0 0;m1 0;b2 1 2;b9 1 99;> = 4", "odds(0, 0, 10, 0) = 1", "rocks(1) = 9", "odds(0, 0, 10, 0) = 0", "odds(0, 0, 4, 0) = 3");
    }

    // ---- which motion by which cradle

    private static void match() {
        String match = "or to none (each BABY to one at most), that by which WORTH of those that WOULD be CARRIED is most";
        edge(20, match, "<w0 0;m1 0;m2 0;m3 0;m4 0;m5 0;b1 1 9;b1 1 9;b1 1 9;b1 1 9;> = 10", "match(-1) = 14", "match(0) = -9",
                "match(1) = 0", "match(2) = 1", "match(3) = 2", "match(4) = 3", "match(5) = -1");
        edge(20, match, "<w0 0;m5 0;m6 0;> = 3", "match(-1) = 0", "match(0) = -9", "match(1) = -9", "match(2) = -1");
        edge(20, match, "<b5 1 9;> = 1", "match(-1) = 0", "match(0) = -1");
        edge(20, match, "<w0 0;m5 0;m6 0;b9 1 99;> = 4", "match(-1) = 6", "match(0) = -9", "match(1) = 0");
        // MOTION 1 goes by BABY 1 alone, so MOTION 0 is given to BABY 0, though WORTH is the same of both.
        edge(20, match, "<w0 0;w4 0;m5 0;m6 1;b4 1 99;b5 1 99;> = 6", "match(-1) = 11", "match(0) = 0", "match(1) = 1");
        String open = "of all ways to give each MOTION that is neither CARRIED nor LOST to a BABY that sleeps";
        edge(20, open, "<w0 0;w9 0;m5 0;m6 1;m7 0;b9 1 99;b1 1 99;b0 1 99;> = 8", "match(-1) = 12", "reads(0, 0) = -5", "match(-1) = 7",
                "match(0) = -9", "match(2) = 0", "reads(1, 0) = 0", "match(1) = -9", "match(2) = 1", "feeds(1) = 5", "match(-1) = 0",
                "match(2) = -9", "rocks(2) = 3", "match(-1) = 7", "match(2) = 2");
        edge(20, open, "<w0 0;m5 0;b9 1 99;> = 3", "reads(0, 0) = -5", "match(-1) = 0", "match(0) = -9");
        String first = "of several the first (MOTION by MOTION; none ahead of BABY 0, 1, ..)";
        edge(20, first, "<w0 0;m5 0;m5 0;m5 0;b9 1 9;b9 1 9;> = 6", "match(-1) = 10", "match(0) = -9", "match(1) = 0", "match(2) = 1");
        edge(20, first, "<w0 0;w9 0;m0 0;m9 1;m5 0;b9 1 9;b9 1 9;> = 7", "match(-1) = 5", "match(0) = -9", "match(1) = -9", "match(2) = 0");
        edge(20, "MATCH: how much (m = -1), the BABY of a MOTION (NONE). BAD.", HOUSE, "match(-1) = 90", "match(-2) = -1", "match(4) = -1",
                "match(5) = -1", "match(LOW) = -1", "match(HIGH) = -1");
    }

    private static void agenda() {
        String agenda = "of all rows of unlike MOTIONS neither CARRIED nor LOST, all CARRIED if READ one behind another by it, that of most WORTH";
        edge(21, agenda, "<w0 0;m5 0;m4 0;m3 0;m2 0;m1 0;b1 1 99;> = 7", "agenda(0, -1) = 15", "agenda(0, 0) = 0", "agenda(0, 1) = 1",
                "agenda(0, 2) = 2", "agenda(0, 3) = 3", "agenda(0, 4) = 4", "agenda(0, 5) = -5", "agenda(0, HIGH) = -5");
        edge(21, agenda, "<w0 0;w9 0;m5 0;m4 1;m3 0;b1 1 99;b0 1 99;b9 1 99;> = 8", "agenda(1, -1) = 0", "agenda(1, 0) = -5",
                "agenda(0, -1) = 8", "reads(0, 2) = -5", "agenda(0, -1) = 3", "agenda(0, 0) = 2", "reads(1, 2) = 0", "agenda(0, -1) = 3",
                "reads(2, 0) = -5", "agenda(0, -1) = 0", "agenda(0, 0) = -5");
        edge(21, agenda, "<b5 1 9;> = 1", "agenda(0, -1) = 0", "agenda(0, 0) = -5", "agenda(1, -1) = -1");
        // No minutes go by: it is not HUNGRY behind the first two WORDS.
        edge(21, agenda, "<w1 0;m5 0 0;m6 0 0;b5 1 2;b9 1 99;> = 5", "agenda(0, -1) = 11", "rocks(1) = 9", "agenda(0, -1) = 6",
                "agenda(0, 0) = 1", "agenda(0, 1) = -5");
        String fewest = "of several that of fewest MOTIONS, of these the first (by numbers): how much; the k-th (-5: not so many).";
        edge(21, fewest, "<w0 0;m0 0;m7 0;m0 0;b1 1 99;> = 5", "agenda(0, -1) = 7", "agenda(0, 0) = 1", "agenda(0, 1) = -5");
        edge(21, fewest, "<w5 0;m3 0;m4 0;m7 0;b6 1 99;> = 5", "agenda(0, -1) = 7", "agenda(0, 0) = 2", "agenda(0, 1) = -5");
        edge(21, fewest, "<w5 0;m7 0;m7 0;b6 1 99;> = 4", "agenda(0, -1) = 7", "agenda(0, 0) = 0", "agenda(0, 1) = -5");
        edge(21, fewest, "<w5 0;w0 5;m9 0;m9 0;m0 1;m0 1;b6 1 99;> = 7", "agenda(0, -1) = 18", "agenda(0, 0) = 0", "agenda(0, 1) = 2",
                "agenda(0, 2) = 1", "agenda(0, 3) = -5");
        edge(21, fewest, "<w0 0;m0 0;m0 0;b1 1 99;> = 4", "agenda(0, -1) = 0", "agenda(0, 0) = -5");
        edge(21, "AGENDA: how much (k = -1), the k-th MOTION (-5). BAD (below -1).", HOUSE, "agenda(0, -2) = -1", "agenda(0, LOW) = -1",
                "agenda(3, -2) = -1", "agenda(4, -1) = -1", "agenda(-1, 0) = -1", "agenda(LOW, 0) = -1", "agenda(HIGH, 0) = -1",
                "agenda(0, 4) = -5", "agenda(3, -1) = 0");
    }

    // ---- what was heard

    private static void heard() {
        edge(22, "HEARD (6 at most)", HOUSE, "hears(0, 6) = 1", "hears(0, 6) x 4", "hears(0, 6) = 6", "hears(0, 6) = -3", "hears(1, 0) = -3",
                "count(3) = 6", "forget() = 6", "hears(0, 6) = 1");
        String places = "one and the same MOTION WOULD wake a BABY at a place (0 .. 5; 6: it WOULD be CARRIED by it).";
        String text = "<w1 0;m1 0 0 0 0 0 0;m2 0 0 0 0 0;m3 0;b6 1 99;b1 1 99;b0 1 99;> = 7";
        edge(22, places, text, "hears(0, 5) = 1", "which() = 1", "forget() = 1", "hears(0, 6) = 1", "which() = 6", "forget() = 1",
                "hears(1, 0) = 1", "which() = 7", "hears(0, 4) = 2", "which() = 0");
        edge(22, "HEARD: how much there is. BAD; FULL.", text, "hears(0, -1) = -1", "hears(0, 7) = -1", "hears(0, LOW) = -1",
                "hears(0, HIGH) = -1", "hears(3, 0) = -1", "hears(-1, 0) = -1", "hears(LOW, 0) = -1", "hears(HIGH, 0) = -1", "count(3) = 0");
        edge(22, REFUSED, text, "hears(0, 0) x 6", "hears(0, 7) = -1", "hears(3, 0) = -1", "hears(0, 0) = -3", "count(3) = 6");
        edge(23, "Nothing was HEARD: how much there was.", text, "forget() = 0", "hears(0, 5) = 1", "forget() = 1", "forget() = 0", "which() = 7");
        String which = "WHICH: MOTIONS (bits) of which all that was HEARD is so, by BABIES as they are NOW (of one that is awake it is not).";
        edge(24, which, text, "which() = 7", "hears(2, 0) = 1", "which() = 0", "rocks(2) = 3", "which() = 0", "forget() = 1", "hears(2, 2) = 1",
                "which() = 3", "feeds(2) = 5", "which() = 0");
        edge(24, which, text, "hears(2, 6) = 1", "which() = 0", "rocks(2) = 3", "which() = 4", "undo() = 0", "which() = 0");
        edge(24, which, "<w0 0;m1 0;m1 0;m1 0;m1 0;m1 0;b9 1 99;> = 7", "which() = 31", "hears(0, 6) = 1", "which() = 31", "hears(0, 0) = 2",
                "which() = 0");
        edge(24, which, "<b9 1 99;> = 1", "which() = 0", "hears(0, 6) = 1", "which() = 0");
        edge(24, which, text, "reads(2, 0) = -5", "reads(1, 0) = 4", "hears(1, 0) = 1", "which() = 7");
        // All six count, the last of them too.
        edge(24, which, text, "hears(1, 0) x 5", "which() = 7", "hears(0, 5) = 6", "which() = 1");
    }

    // ---- kinds, images

    private static void rates() {
        String kinds = "0 BABY; 1 COLIC, 2 TWIN, 5 CHARTER (each under BABY); 3 TEETH (under COLIC); 4 NURSE (under TWIN).";
        String text = "<w0 0;m99 0;m99 0;b0 0 2;b9 3 2;b4 2 99;b9 3 99;> = 7";
        edge(25, kinds, text, "rate(0, 3) = 9", "rate(1, 3) = 12", "rate(2, 3) = 9", "rate(3, 3) = 24", "rate(4, 3) = 12", "rate(5, 3) = 9",
                "rate(0, 0) = 0", "rate(1, 0) = 0", "rate(2, 0) = 0", "rate(3, 0) = 0", "rate(4, 0) = 0", "rate(5, 0) = 0");
        edge(25, "BABY its DEPTH (1).", text, "rate(0, 1) = 9", "rate(0, 2) = 4", "feeds(2) = 3", "rate(0, 2) = 0", "rate(0, 1) = 9");
        edge(25, "COLIC up, and its EARS (10).", text, "rate(1, 2) = 6", "rocks(0) = 3", "baby(1, 4) = 1", "rate(1, 1) = 12", "rate(1, 0) = 3");
        edge(25, "TEETH twice up (1000).", text, "rate(3, 2) = 12", "rocks(2) = 7", "rate(3, 2) = 18", "rate(3, 1) = 24");
        edge(25, "NURSE up, and its number (10000).", text, "rate(4, 0) = 0", "rate(4, 1) = 10", "rate(4, 2) = 6", "rate(4, 3) = 12");
        edge(25, "RATE. NO: BAD.", text, "rate(6, 0) = -1000000", "rate(-1, 0) = -1000000", "rate(0, 4) = -1000000", "rate(0, -1) = -1000000",
                "rate(LOW, 0) = -1000000", "rate(HIGH, 0) = -1000000", "rate(0, LOW) = -1000000", "rate(0, HIGH) = -1000000", "trace() = 0");
        edge(25, "What none is, where a number may be below 0.", text, "rocks(2) = 7", "rate(2, 0) = -5", "rate(4, 0) = -5", "rate(2, 1) = 4",
                "rate(4, 1) = 5", "rate(2, 2) = 7", "rate(0, 0) = 0");
        edge(25, "TWIN up less 5, if it is HUNGRY (100).", "<w0 0;m1 0;m1 0;b7 1 2;b9 1 9;> = 5", "reads(0, 1) = -5", "rate(2, 0) = 7",
                "reads(1, 1) = -5", "rate(2, 0) = 2", "feeds(0) = 5", "rate(2, 0) = 0");
        edge(25, "CHARTER up, and EARNED (100000).", text, "rate(5, 2) = 4", "reads(0, 3) = -5", "reads(1, 3) = -5", "rate(5, 2) = 202",
                "rate(5, 0) = 198", "undo() = 1", "rate(5, 2) = 103");
        String trace = "numbers in brackets are added to THE TRACE, 0 at first, as often as rate() asks that body: each once";
        int[] added = {1, 11, 101, 1011, 10101, 100001};
        for (int kind = 0; kind <= 5; kind++) {
            edge(29, trace, text, "trace() = 0", "rate(" + kind + ", 2) x 1", "trace() = " + added[kind], "rate(" + kind + ", 9) = -1000000",
                    "rate(" + kind + ", 0) x 99", "trace() = " + 100 * added[kind]);
        }
        edge(29, trace, text, "keep(0) = 0", "rocks(0) = 3", "rate(5, 0) = 3", "undo() = 0", "trace() = 100001", "back(0) = 0",
                "trace() = 100001", "house() = 0", "trace() = 100001");
    }

    private static void images() {
        String images = "IMAGES 0, 1 keep NOW (DEPTHS, when each was FED, THE MINUTE, what is CARRIED, LOST); nothing else";
        edge(26, images, HOUSE, "keep(0) = 0", "rocks(3) = 3", "keep(1) = 2", "feeds(1) = 5", "reads(3, 2) = -5", "reads(2, 0) = 0", "reads(1, 3) = 2",
                "now(0) = 10", "back(0) = 0", "now(0) = 0", "now(1) = 0", "now(2) = 0", "now(4) = 7", "baby(1, 3) = 0", "baby(1, 0) = 3",
                "baby(3, 0) = 0", "back(1) = 2", "now(4) = 15", "baby(3, 0) = 3", "baby(1, 3) = 0", "now(1) = 0", "back(0) = 0", "back(0) = 0");
        edge(26, images, HOUSE, "feeds(1) = 3", "reads(3, 2) = -5", "reads(2, 0) = -5", "keep(1) = 6", "back(0) = -2", "rocks(1) = 3", "feeds(1) = 11",
                "back(1) = 6", "baby(1, 3) = 3", "baby(1, 0) = 0", "now(1) = 12", "now(3) = 60", "baby(0, 4) = 1");
        edge(26, images, HOUSE, "keep(0) = 0", "hears(0, 6) = 1", "type(119) = 1", "rate(0, 0) = 6", "back(0) = 0", "count(3) = 1", "count(4) = 1",
                "trace() = 1", "which() = 15");
        edge(26, images, HOUSE, "keep(0) = 0", "rocks(0) = 9", "keep(0) = 2", "rocks(0) = 9", "back(0) = 2", "now(0) = 2", "back(1) = -2");
        edge(26, images, HOUSE, "rocks(3) = 3", "keep(0) = 2", "undo() = 0", "back(0) = 2", "baby(3, 0) = 3");
        edge(26, "An IMAGE is kept: THE MINUTE. BAD.", HOUSE, "keep(-1) = -1", "keep(2) = -1", "keep(LOW) = -1", "keep(HIGH) = -1",
                "back(0) = -2", "back(1) = -2", "rocks(0) = 9", "keep(1) = 2", "now(5) = 1", "undo() = 0");
        edge(27, "All of that becomes as an IMAGE has it: THE MINUTE. BAD; STATE: none was kept.", HOUSE, "rocks(0) = 9", "back(0) = -2",
                "back(1) = -2", "back(2) = -1", "back(-1) = -1", "back(LOW) = -1", "back(HIGH) = -1", "back(32) = -1", "now(5) = 1", "keep(1) = 2",
                "back(0) = -2", "back(1) = 2");
        edge(27, "(nothing can be UNDONE behind back())", HOUSE, "keep(0) = 0", "rocks(0) x 12", "now(5) = 10", "back(0) = 0", "now(5) = 0",
                "undo() = -2", "rocks(3) = 3", "now(5) = 1", "undo() = 0", "baby(3, 0) = 0", "now(0) = 0", "undo() = -2");
    }

    private static void refusals() {
        edge(27, REFUSED, HOUSE, "back(2) = -1", "back(0) = -2", "keep(2) = -1", "back(2) = -1", "back(1) = -2");
        edge(10, REFUSED, HOUSE, "reads(3, 0) = -5", "reads(3, 4) = -1", "reads(3, -1) = -1", "reads(4, 3) = -1", "reads(3, 3) = -2",
                "reads(3, 0) = -2", "reads(0, 3) = -2", "now(0) = 1", "now(5) = 1");
        edge(13, REFUSED, HOUSE, "rocks(4) = -1", "feeds(4) = -1", "reads(0, 3) = -2", "undo() = -2", "now(0) = 0", "now(5) = 0");
        edge(4, REFUSED, HOUSE, "<w1 1;m1 1;> = -18", "count(4) = 10", "hears(4, 0) = -1", "type(256) = -1", "count(0) = 4", "count(4) = 10");
    }
}
