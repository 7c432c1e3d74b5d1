import java.io.IOException;
import java.nio.charset.StandardCharsets;
import java.nio.file.Files;
import java.nio.file.Path;
import java.util.Arrays;
import java.util.NoSuchElementException;
import java.util.regex.Matcher;
import java.util.regex.Pattern;

/**
 * What the boundary tests share. Each sentence of the document that names a boundary case has a
 * test of its own, under the words of that sentence. Two things are looked at besides: that the
 * words stand in the document under that promise, and that no mark of a boundary there (NONE,
 * Refused, -4:, 0 .. 999, ..) is without such a test.
 */
abstract class Sentences {
    private static final Path DOCUMENT = Path.of("../shared/DOC.md");
    private static final int PROMISES = 42;
    static final int LOWEST = Integer.MIN_VALUE;
    static final int HIGHEST = Integer.MAX_VALUE;
    private static final Pattern MARK = Pattern.compile("NONE|Refused|NoSuchElementException:|-\\d+:|-\\d+ - [pk]|-5 \\("
            + "|\\d+ \\.\\. \\d+|at most|at least|at first|too early|of equal|above \\d|below \\d|beyond \\d|empty|more than"
            + "|without|till|unlike|both are one|two are one|none|alone|none such|the first such|there is none|the first one|512");

    /** The texts of the document: at 0 what stands ahead of the promises, then promise by promise. */
    private static final String[] PARTS = new String[PROMISES + 1];
    private static final boolean[][] COVERED = new boolean[PROMISES + 1][];

    private static int promise;
    private static String sentence = "";
    private static int sentences = 0;
    private static int checks = 0;
    private static int wrong = 0;

    interface Call {
        long answer();
    }

    interface Maker {
        TrustClub make();
    }

    interface Question {
        long ask(TrustClub x);
    }

    interface OfNumber {
        long ask(TrustClub x, int number);
    }

    interface OfTwo {
        long ask(TrustClub x, int from, int to);
    }

    interface OfPayment {
        long ask(TrustClub x, int from, int to, int sum);
    }

    /** Runs the tests of the promises from a first one on, one for each, and ends the program if anything is wrong. */
    static void run(int first, Runnable[] tests) throws IOException {
        readDocument(Files.readString(DOCUMENT, StandardCharsets.UTF_8));
        for (int i = 0; i < tests.length; i++) {
            promise = first + i;
            tests[i].run();
            lookForMarksWithoutTest();
        }
        System.out.println(wrong == 0 ? sentences + " sentences hold, by " + checks + " answers" : wrong + " things are not as due");
        if (wrong != 0) {
            System.exit(1);
        }
    }

    // ---- the document

    private static void readDocument(String text) {
        Arrays.fill(PARTS, "");
        for (String section : text.split("(?m)^## ")) {
            Matcher m = Pattern.compile("Promise (\\d+): .*").matcher(section);
            boolean isPromise = m.lookingAt();
            int k = isPromise ? Integer.parseInt(m.group(1)) : 0;
            boolean isOfUse = isPromise || section.startsWith("What it is") || section.startsWith("Terms");
            if (isOfUse && k <= PROMISES) {
                // Without the heading and the signature, which has no case in it.
                String body = section.substring(section.indexOf('\n') + 1);
                PARTS[k] += oneLine(isPromise ? body.replaceFirst("\\s*`[^`]*`:", "") : withoutTitles(body));
            }
        }
        for (int k = 0; k <= PROMISES; k++) {
            COVERED[k] = new boolean[PARTS[k].length()];
            if (PARTS[k].isEmpty()) {
                fault("the document has no promise " + k);
            }
        }
    }

    /** Without the lines that only name what there is. */
    private static String withoutTitles(String s) {
        return s.replaceAll("(?m)^(A club of members|Ahead of the calls) .*$", "");
    }

    private static String oneLine(String s) {
        return s.replaceAll("\\s+", " ") + " ";
    }

    static void says(String words, Runnable test) {
        sentence = words;
        sentences++;
        int at = PARTS[promise].indexOf(words);
        if (at < 0) {
            fault("the document does not say so there");
        }
        for (; at >= 0; at = PARTS[promise].indexOf(words, at + 1)) {
            Arrays.fill(COVERED[promise], at, at + words.length(), true);
        }
        try {
            test.run();
        } catch (RuntimeException e) {
            fault("threw " + e);
        }
    }

    private static void lookForMarksWithoutTest() {
        Matcher m = MARK.matcher(PARTS[promise]);
        while (m.find()) {
            if (!COVERED[promise][m.start()]) {
                int end = Math.min(PARTS[promise].length(), m.end() + 60);
                sentence = PARTS[promise].substring(m.start(), end);
                fault("no test has this");
            }
        }
    }

    // ---- what is due

    private static void fault(String what) {
        wrong++;
        String where = "";
        for (StackTraceElement frame : new Throwable().getStackTrace()) {
            if (frame.getMethodName().startsWith("lambda$") && !frame.getClassName().equals("Sentences")) {
                where = frame.getFileName() + ":" + frame.getLineNumber() + ": ";
                break;
            }
        }
        System.out.println(where + "promise " + promise + ", \"" + sentence + "\": " + what);
    }

    static void due(long got, long want) {
        checks++;
        if (got != want) {
            fault("answered " + got + ", due is " + want);
        }
    }

    static void due(boolean got, boolean want) {
        due(got ? 1 : 0, want ? 1 : 0);
    }

    static void dueThrow(Call call) {
        checks++;
        try {
            fault("answered " + call.answer() + ", due is NoSuchElementException");
        } catch (NoSuchElementException e) {
            // That is due.
        }
    }

    /** The ROW has just these numbers. */
    static void row(TrustClub x, long... want) {
        checks++;
        if (!rowOf(x).equals(Arrays.toString(want))) {
            fault("the ROW is " + rowOf(x) + ", due is " + Arrays.toString(want));
        }
    }

    private static String rowOf(TrustClub x) {
        long[] got = new long[Math.max(0, x.count(5))];
        for (int i = 0; i < got.length; i++) {
            got[i] = x.row(i);
        }
        return Arrays.toString(got);
    }

    /** All that can be seen without telling another ROW, but the ROW and THE TEXT. */
    static String look(TrustClub x) {
        StringBuilder b = new StringBuilder();
        for (int what : new int[] {0, 1, 2, 3, 4, 7, 8}) {
            b.append(" ").append(x.count(what));
        }
        int members = x.count(0);
        for (int m = 0; m < members; m++) {
            b.append(" ").append(x.net(m));
        }
        int places = x.count(7);
        for (int place = 0; place < 4; place++) {
            for (int what = 0; what < 4 && (places >> place & 1) == 1; what++) {
                b.append(" ").append(x.held(place, what));
            }
        }
        return b.toString();
    }

    private static void dueText(String got, String want) {
        checks++;
        if (!got.equals(want)) {
            fault("all is " + got + ", due is " + want);
        }
    }

    /** A call that answers so and changes nothing; the ROW and THE TEXT stay, too. */
    static void stays(TrustClub x, long want, Call call) {
        String ahead = look(x) + " " + rowOf(x) + " " + x.count(6);
        due(call.answer(), want);
        dueText(look(x) + " " + rowOf(x) + " " + x.count(6), ahead);
    }

    /** The same of a new object: so none has more calls than the document tells of. */
    static void stays(Maker maker, long want, Question question) {
        TrustClub x = maker.make();
        stays(x, want, () -> question.ask(x));
    }

    /** A call that reads this text, answers so, and changes nothing but THE TEXT, which is empty then. */
    static void staysButText(Maker maker, String text, long want, Question question) {
        TrustClub x = tell(maker.make(), text);
        String ahead = look(x) + " " + rowOf(x);
        due(question.ask(x), want);
        dueText(look(x) + " " + rowOf(x), ahead);
        due(x.count(6), 0);
    }

    /** A question changes nothing but the ROW. */
    static void asks(Maker maker, Question question) {
        TrustClub x = maker.make();
        due(x.sign(7), 4);
        String ahead = look(x);
        question.ask(x);
        dueText(look(x), ahead);
        due(x.count(6), 4);
    }

    // ---- what is refused, of clubs of three

    /** NONE for each number that is no member. */
    static void noMember(Maker maker, OfNumber call) {
        for (int m : new int[] {-1, 3, 8, LOWEST, HIGHEST}) {
            stays(maker, -1, x -> call.ask(x, m));
        }
    }

    /** NONE for each two that are no two members. */
    static void noPair(Maker maker, OfTwo call) {
        int[][] wrongOnes = {{0, 0}, {2, 2}, {3, 0}, {0, 3}, {-1, 0}, {0, -1}, {8, 9}, {3, 3}, {LOWEST, 0}, {0, HIGHEST}};
        for (int[] w : wrongOnes) {
            stays(maker, -1, x -> call.ask(x, w[0], w[1]));
        }
    }

    /** NONE for each payment that can't be told of. */
    static void noPayment(Maker maker, OfPayment call) {
        noPair(maker, (x, from, to) -> call.ask(x, from, to, 1));
        for (int sum : new int[] {0, -1, 10000, LOWEST, HIGHEST}) {
            stays(maker, -1, x -> call.ask(x, 2, 0, sum));
            stays(maker, -1, x -> call.ask(x, 1, 0, sum));
        }
    }

    /** NONE for each number that is neither LIMIT nor STOCK. */
    static void noLimit(Maker maker, OfNumber call) {
        for (int v : new int[] {LOWEST, -1, 1000, HIGHEST}) {
            stays(maker, -1, x -> call.ask(x, v));
        }
    }

    /** NONE for each place at which nothing is HELD, of the used club. */
    static void noPlace(OfNumber call) {
        for (int place : new int[] {1, 2, 3, 4, -1, 8, LOWEST, HIGHEST}) {
            stays(Sentences::used, -1, x -> call.ask(x, place));
        }
    }

    // ---- clubs

    /** THE TEXT becomes this. */
    static TrustClub tell(TrustClub x, String s) {
        due(x.end(0), true);
        for (int i = 0; i < s.length(); i += 4) {
            int v = 0;
            for (int k = i; k < i + 4; k++) {
                v = v << 8 | (k < s.length() ? s.charAt(k) & 255 : 0);
            }
            x.sign(v);
        }
        due(x.end(s.length()), true);
        return x;
    }

    static TrustClub club(String s) {
        TrustClub x = new TrustClub();
        due(tell(x, s).club(), (s.length() - 1) / 5);
        return x;
    }

    static int readClub(String s) {
        return tell(new TrustClub(), s).club();
    }

    /** b can pay a 100, c can pay b 50. */
    static TrustClub chain() {
        return club("3ab100bc050");
    }

    /** The same; b owes a 4, a has a STOCK of 5, c's 2 to b are HELD, the ROW is 2, 3, and five acts can be undone. */
    static TrustClub used() {
        TrustClub x = chain();
        due(x.pays(1, 0, 1), 1);
        due(x.stocks(0, 5), 0);
        due(x.holds(2, 1, 2), 0);
        due(x.pays(1, 0, 3), 1);
        row(x, 2, 3);
        return x;
    }

    /** The same, but nothing is HELD, and six acts can be undone. */
    static TrustClub usedAndFree() {
        TrustClub x = used();
        due(x.letsGo(0), 2);
        return x;
    }

    static final Maker[] HELD_AND_FREE = {Sentences::used, Sentences::usedAndFree};

    /** Two ways from a to d, by b (10) and by c (20), and none straight. */
    static TrustClub diamond() {
        return club("4ba010db030ca020dc020");
    }

    /** From a to f: a b c f, and a d e to c, and g h from b to f; 1 each. */
    static TrustClub detour() {
        return club("8ba001cb001fc001da001ed001ce001gb001hg001fh001");
    }

    /** Each can pay the next one 1: a b, b c, .., g h. */
    static TrustClub longChain() {
        return club("8ba001cb001dc001ed001fe001gf001hg001");
    }

    /** a owes b 5, b owes c 7, c owes a 9. */
    static TrustClub triangle() {
        TrustClub x = club("3ba100cb100ac100");
        due(x.whole(0, 1, 5), 2);
        due(x.whole(1, 2, 7), 2);
        due(x.whole(2, 0, 9), 2);
        return x;
    }

    /** All lines of 8 members have LIMIT 999; all but h owe a as much, h owes so much to all: 1998 from a by each to h. */
    static TrustClub rich() {
        TrustClub x = club("8");
        for (int m = 0; m < 8; m++) {
            due(x.sheet(m, 1, 7, 999, 0), 7);
        }
        for (int m = 1; m < 8; m++) {
            due(x.whole(m, 0, 999), 2);
        }
        for (int m = 1; m < 7; m++) {
            due(x.whole(7, m, 999), 2);
        }
        return x;
    }
}
