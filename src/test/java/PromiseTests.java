import java.util.Arrays;
import java.util.NoSuchElementException;

/** For each promise of the document calls with the answers that are due, worked out by hand. */
public final class PromiseTests {
    private static final long THROWS = Long.MIN_VALUE;

    private static int promise;
    private static int wrong = 0;
    private static int checks = 0;

    private interface Call {
        long answer();
    }

    private static void due(long got, long want) {
        checks++;
        if (got != want) {
            wrong++;
            StackTraceElement[] trace = new Throwable().getStackTrace();
            int line = 0;
            for (StackTraceElement frame : trace) {
                if (frame.getMethodName().startsWith("promise")) {
                    line = frame.getLineNumber();
                    break;
                }
            }
            System.out.println("promise " + promise + ", line " + line + ": answered " + show(got) + ", due is " + show(want));
        }
    }

    private static String show(long v) {
        return v == THROWS ? "NoSuchElementException" : Long.toString(v);
    }

    private static void due(boolean got, boolean want) {
        due(got ? 1 : 0, want ? 1 : 0);
    }

    private static void dueThrow(Call call) {
        long got;
        try {
            got = call.answer();
        } catch (NoSuchElementException e) {
            got = THROWS;
        }
        due(got, THROWS);
    }

    /** The ROW has just these numbers. */
    private static void row(TrustClub x, long... want) {
        due(x.count(5), want.length);
        long[] got = new long[Math.max(0, x.count(5))];
        for (int i = 0; i < got.length; i++) {
            got[i] = x.row(i);
        }
        checks++;
        if (!Arrays.equals(got, want)) {
            wrong++;
            System.out.println("promise " + promise + ": the ROW is " + Arrays.toString(got) + ", due is " + Arrays.toString(want));
        }
    }

    /** THE TEXT becomes this. */
    private static TrustClub tell(TrustClub x, String s) {
        due(x.end(0), true);
        for (int i = 0; i < s.length(); i += 4) {
            int v = 0;
            for (int k = i; k < i + 4; k++) {
                v = v << 8 | (k < s.length() ? s.charAt(k) & 255 : 0);
            }
            x.sign(v);
        }
        due(x.end(s.length()), true);
        return x;
    }

    private static TrustClub club(String s) {
        TrustClub x = new TrustClub();
        due(tell(x, s).club(), (s.length() - 1) / 5);
        return x;
    }

    /** a lets b owe 100, b lets c owe 50: c can pay a by way of b. */
    private static TrustClub chain() {
        return club("3ab100bc050");
    }

    /** Two ways from a to d, by b (10) and by c (20), and none straight. */
    private static TrustClub diamond() {
        return club("4ba010db030ca020dc020");
    }

    /** From a to f: a b c f, and a d e to c, and g h from b to f; 1 each. */
    private static TrustClub detour() {
        return club("8ba001cb001fc001da001ed001ce001gb001hg001fh001");
    }

    /** a owes b 5, b owes c 7, c owes a 9. */
    private static TrustClub triangle() {
        TrustClub x = club("3ba100cb100ac100");
        due(x.whole(0, 1, 5), 2);
        due(x.whole(1, 2, 7), 2);
        due(x.whole(2, 0, 9), 2);
        return x;
    }

    public static void main(String[] args) {
        Runnable[] all = {
            PromiseTests::promise1, PromiseTests::promise2, PromiseTests::promise3, PromiseTests::promise4,
            PromiseTests::promise5, PromiseTests::promise6, PromiseTests::promise7, PromiseTests::promise8,
            PromiseTests::promise9, PromiseTests::promise10, PromiseTests::promise11, PromiseTests::promise12,
            PromiseTests::promise13, PromiseTests::promise14, PromiseTests::promise15, PromiseTests::promise16,
            PromiseTests::promise17, PromiseTests::promise18, PromiseTests::promise19, PromiseTests::promise20,
            PromiseTests::promise21, PromiseTests::promise22, PromiseTests::promise23, PromiseTests::promise24,
            PromiseTests::promise25, PromiseTests::promise26, PromiseTests::promise27, PromiseTests::promise28,
            PromiseTests::promise29, PromiseTests::promise30, PromiseTests::promise31, PromiseTests::promise32,
            PromiseTests::promise33, PromiseTests::promise34, PromiseTests::promise35, PromiseTests::promise36,
            PromiseTests::promise37, PromiseTests::promise38, PromiseTests::promise39, PromiseTests::promise40,
            PromiseTests::promise41, PromiseTests::promise42};
        for (int i = 0; i < all.length; i++) {
            promise = i + 1;
            all[i].run();
        }
        System.out.println(wrong == 0 ? checks + " answers are as due" : wrong + " answers are not as due");
        if (wrong != 0) {
            System.exit(1);
        }
    }

    private static void promise1() {
        TrustClub x = new TrustClub();
        int[] counts = {2, 0, 0, 0, 0, 0, 0, 0, 0};
        for (int what = 0; what < counts.length; what++) {
            due(x.count(what), counts[what]);
        }
        due(TrustClub.NONE, -1);
        due(x.line(0, 1), 0);
        row(x, 0, 0, 0);
        due(x.line(1, 0), 0);
        due(x.line(1, 2), -1);
        due(x.undo(), -1);
        due(x.again(0), false);
        due(x.again(1), false);
        due(x.years(5, 30), 0);
        row(x, 0, 0);
    }

    private static void promise2() {
        TrustClub x = new TrustClub();
        // The highest byte first: "2ab0", then "07" of "07xx".
        due(x.sign('2' << 24 | 'a' << 16 | 'b' << 8 | '0'), 4);
        due(x.sign('0' << 24 | '7' << 16 | 0xff << 8 | 0xff), 8);
        due(x.end(6), true);
        due(x.sign(0), 10);
        due(x.end(6), true);
        due(x.club(), 1);
        due(x.line(0, 1), 7);
        for (int i = 1; i <= 20; i++) {
            due(x.sign(-i), 4 * i);
        }
        due(x.sign(0), -1);
        due(x.count(6), 80);
        due(x.end(77), true);
        due(x.sign(1), -1);
        due(x.count(6), 77);
        due(x.end(76), true);
        due(x.sign(1), 80);
        row(x, 7 - 7, 7, 0);
    }

    private static void promise3() {
        TrustClub x = new TrustClub();
        due(x.end(0), true);
        due(x.end(1), false);
        due(x.end(-1), false);
        due(x.end(Integer.MIN_VALUE), false);
        due(x.sign(0x32616230), 4);
        due(x.end(5), false);
        due(x.count(6), 4);
        due(x.end(4), true);
        due(x.count(6), 4);
        due(x.end(1), true);
        due(x.count(6), 1);
        due(x.end(2), false);
        due(x.club(), 0);
    }

    private static void clubFault(String s, int p) {
        TrustClub x = chain();
        due(x.pays(2, 0, 30), 1);
        due(tell(x, s).club(), -1 - p);
        due(x.count(6), 0);
        due(x.count(3), 60);
        due(x.count(4), 2);
        row(x, 3, 30);
    }

    private static void promise4() {
        TrustClub x = club("8ah001ha999ab000");
        due(x.count(0), 8);
        due(x.count(1), 2);
        due(x.count(2), 1000);
        due(x.count(6), 0);
        due(x.line(7, 0), 999);
        due(x.pays(0, 7, 3), 1);
        due(x.stocks(2, 4), 0);
        due(x.holds(0, 7, 5), 0);
        due(x.most(0, 7), 991);
        // All anew, while something is HELD too; the ROW stays.
        due(tell(x, "2").club(), 0);
        row(x, 1, 1, 2);
        int[] counts = {2, 0, 0, 0, 5, 3, 0, 0, 0};
        for (int what = 0; what < counts.length; what++) {
            due(x.count(what), counts[what]);
        }
        due(club("2ab001ba002").line(1, 0), 2);
        clubFault("", 0);
        clubFault("1", 0);
        clubFault("9", 0);
        clubFault("a", 0);
        clubFault("3a", 2);
        clubFault("3ab", 3);
        clubFault("3ab0", 4);
        clubFault("3ab00", 5);
        clubFault("3ab001c", 7);
        clubFault("3ad001", 2);
        clubFault("3da001", 1);
        clubFault("3aa001", 2);
        clubFault("3Ab001", 1);
        clubFault("3ab001ab002", 7);
        clubFault("3ab000ab000", 7);
        clubFault("3ab0x1", 4);
        clubFault("3abx01", 3);
        clubFault("3ab00:", 5);
        clubFault("3ab001 ", 6);
        clubFault("8ai001", 2);
        clubFault("3`a001", 1);
    }

    private static void promise5() {
        TrustClub x = club("4");
        due(x.sheet(1, 2, 3, 5, 1), 3);
        due(x.line(1, 0), 5);
        due(x.line(1, 2), 6);
        due(x.line(1, 3), 7);
        due(x.sheet(1, 2, 2, 5, 2), 1);
        due(x.line(1, 2), 7);
        due(x.line(1, 3), 7);
        due(x.sheet(1, 2, 0, 5000, 2), 0);
        due(x.sheet(0, 2, 1, 0, 2), 0);
        // Bytes and shorts are the lowest bits with their sign.
        due(x.sheet(0, 0, 1, 256 + 127, 0), 1);
        due(x.line(0, 1), 127);
        due(x.sheet(0, 0, 1, 128, 0), -4);
        row(x, 0, 2);
        due(x.sheet(0, 1, 1, 65536 + 999, 0), 1);
        due(x.line(0, 1), 999);
        due(x.sheet(0, 1, 1, 65535, 0), -4);
        due(x.sheet(0, 2, 1, 65536 + 9, 0), -4);
        due(x.sheet(0, 2, 1, 1000, 0), -4);
        due(x.sheet(0, 2, 1, -1, 0), -4);
        // The entries wrap around as ints do.
        due(x.sheet(0, 2, 2, Integer.MIN_VALUE + 8, Integer.MIN_VALUE), -4);
        row(x, 0, 2);
        due(x.sheet(0, 2, 2, 8, Integer.MIN_VALUE), -4);
        row(x, 1, 2);
        due(x.sheet(0, 2, 3, 8, Integer.MIN_VALUE), -4);
        due(x.sheet(0, 0, 3, 8, Integer.MIN_VALUE), 3);
        due(x.line(0, 3), 8);
        // No such line comes ahead of a number that can't be; nothing is done of a sheet that can't be.
        due(x.sheet(2, 2, 4, 3, 0), -4);
        row(x, 3, 1);
        due(x.line(2, 0), 0);
        due(x.sheet(2, 2, 4, 997, 1), -4);
        row(x, 3, 1);
        due(x.sheet(2, 2, 4, 998, 1), -4);
        row(x, 2, 2);
        due(x.pays(1, 0, 6), 1);
        due(x.sheet(0, 2, 1, 5, 0), -4);
        row(x, 0, 3);
        due(x.sheet(0, 2, 1, 6, 0), 1);
        row(x, 0, 3);
        due(x.count(4), 2);
        promise5Refused(x);
    }

    private static void promise5Refused(TrustClub x) {
        due(x.sheet(0, 2, -1, 5, 0), -2);
        due(x.sheet(0, 2, Integer.MIN_VALUE, 5, 0), -2);
        due(x.sheet(0, 3, -1, 5, 0), -3);
        due(x.sheet(0, 3, 20, 5, 0), -3);
        due(x.sheet(0, 3, 21, 5, 0), -1);
        due(x.sheet(0, 2, 20, 5, 0), -4);
        row(x, 0, 3);
        due(x.sheet(0, 2, 21, 5, 0), -1);
        due(x.sheet(4, 2, 1, 5, 0), -1);
        due(x.sheet(-1, 2, 1, 5, 0), -1);
        due(x.sheet(0, 4, 1, 5, 0), -1);
        due(x.sheet(0, -1, 1, 5, 0), -1);
        due(x.holds(0, 1, 1), 0);
        due(x.sheet(0, 2, 1, 500, 0), -5);
        due(x.sheet(0, 2, -1, 5, 0), -5);
        due(x.sheet(0, 3, 1, 5, 0), -5);
        due(x.sheet(0, 2, 20, 5, 0), -5);
        due(x.sheet(0, 2, 21, 5, 0), -1);
        due(x.sheet(4, 2, 1, 5, 0), -1);
    }

    private static void promise6() {
        TrustClub x = chain();
        due(x.pays(1, 0, 30), 1);
        due(x.line(0, 1), 100);
        row(x, 30, 70, 0);
        due(x.line(1, 0), 0);
        row(x, 0, 30, 0);
        due(x.holds(0, 1, 12), 0);
        due(x.line(1, 0), 0);
        row(x, 0, 18, 12);
        due(x.line(0, 1), 100);
        row(x, 30, 70, 0);
        // What is HELD one way and what is HELD the other way stand side by side.
        due(x.holds(1, 0, 20), 1);
        due(x.line(0, 1), 100);
        row(x, 30, 50, 20);
        due(x.line(1, 0), 0);
        row(x, 0, 18, 12);
        due(x.line(1, 1), -1);
        due(x.line(0, 3), -1);
        due(x.line(3, 0), -1);
        due(x.line(-1, 0), -1);
        due(x.line(0, -1), -1);
        row(x, 0, 18, 12);
    }

    private static void promise7() {
        TrustClub x = chain();
        due(x.pays(2, 0, 30), 1);
        due(x.pays(1, 0, 5), 1);
        due(x.net(0), 35);
        due(x.net(1), -5);
        due(x.net(2), -30);
        row(x, 2, 5);
        dueThrow(() -> x.net(3));
        dueThrow(() -> x.net(-1));
        dueThrow(() -> x.net(Integer.MAX_VALUE));
    }

    private static void promise8() {
        TrustClub x = chain();
        due(x.debts(), 0);
        row(x, 0, -1, 0);
        due(x.pays(2, 0, 30), 1);
        due(x.debts(), 60);
        row(x, 2, 1, 30);
        due(x.lets(1, 0, 1), 29);
        due(x.debts(), 59);
        row(x, 2, 2, 30);
        TrustClub y = club("3ac010bc010ab015");
        due(y.pays(2, 0, 8), 1);
        due(y.pays(2, 1, 7), 1);
        due(y.pays(1, 0, 15), 1);
        due(y.debts(), 30);
        row(y, 3, 1, 15);
    }

    private static void promise9() {
        TrustClub x = club("5ba009db009ca009dc009eb009ed009");
        due(x.way(0, 3, 9), 3);
        row(x, 0, 1, 3);
        due(x.way(0, 3, 10), -2);
        row(x, 0, 1, 3);
        due(x.limits(1, 0, 8), 9);
        due(x.way(0, 3, 9), 3);
        row(x, 0, 2, 3);
        due(x.way(0, 4, 9), 4);
        row(x, 0, 2, 3, 4);
        due(x.way(0, 4, 8), 3);
        row(x, 0, 1, 4);
        due(x.way(4, 0, 1), -2);
        due(x.pays(0, 4, 8), 1);
        due(x.way(4, 0, 8), 3);
        row(x, 4, 1, 0);
        due(x.way(0, 4, 9999), -2);
        due(x.way(0, 4, 10000), -1);
        due(x.way(0, 4, 0), -1);
        due(x.way(0, 4, -3), -1);
        due(x.way(0, 0, 1), -1);
        due(x.way(0, 5, 1), -1);
        due(x.way(-1, 0, 1), -1);
        row(x, 4, 1, 0);
        // A straight way comes ahead of a longer one by lesser members.
        TrustClub y = club("4ba005cb005dc005ad001da005");
        due(y.way(0, 3, 5), 2);
        row(y, 0, 3);
        due(y.whole(0, 3, 1), 2);
        due(y.way(0, 3, 5), 4);
        row(y, 0, 1, 2, 3);
        // What is HELD makes ROOM less.
        due(y.holds(0, 1, 1), 0);
        due(y.way(0, 3, 5), -2);
        due(y.way(0, 3, 4), 2);
    }

    private static void promise10() {
        TrustClub x = diamond();
        due(x.reach(0, 1), 14);
        row(x, 3);
        due(x.reach(0, 10), 14);
        due(x.reach(0, 11), 12);
        row(x, 2);
        due(x.reach(0, 21), 0);
        row(x, 0);
        due(x.reach(1, 30), 8);
        due(x.reach(3, 1), 0);
        due(x.reach(0, 9999), 0);
        row(x, 0);
        due(x.reach(2, 1), 8);
        due(x.reach(0, 10000), -1);
        due(x.reach(0, 0), -1);
        due(x.reach(4, 1), -1);
        due(x.reach(-1, 1), -1);
        row(x, 1);
    }

    private static void promise11() {
        TrustClub x = diamond();
        due(x.most(0, 3), 30);
        row(x, 1, 2, 3);
        due(x.count(3), 0);
        due(x.limits(1, 0, 40), 10);
        due(x.most(0, 3), 50);
        row(x, 1 | 2, 2, 3);
        due(x.most(3, 0), 0);
        row(x, 8, 0, 0);
        due(x.most(0, 1), 40);
        row(x, 1 | 4 | 8, 1, 2);
        due(x.most(1, 1), -1);
        due(x.most(0, 4), -1);
        due(x.most(-1, 0), -1);
        row(x, 1 | 4 | 8, 1, 2);
        // The first part goes a b c f; the second one goes back from c to b: a d e c b g h f.
        TrustClub y = detour();
        due(y.most(0, 5), 2);
        row(y, 1, 2, 8);
        // More than a payment may be.
        TrustClub z = new TrustClub();
        due(tell(z, "8").club(), 0);
        for (int m = 1; m < 8; m++) {
            due(z.sheet(m, 1, 7, 999, 0), 7);
        }
        for (int m = 1; m < 8; m++) {
            due(z.limits(0, m, 999), 0);
            due(z.whole(m, 0, 999), 2);
        }
        due(z.most(0, 1), 7 * 1998 - 6 * 999);
        row(z, 253, 7, 3);
        due(z.most(0, 7), 7992);
    }

    private static void promise12() {
        TrustClub x = triangle();
        due(x.ring(), 3);
        row(x, 0, 1, 2, 5);
        due(x.count(3), 21);
        TrustClub none = chain();
        due(none.pays(2, 0, 30), 1);
        due(none.ring(), -2);
        row(none, 3, 30);
        // Of four: a d b e a; of three: c e d c wins though its least is higher.
        TrustClub y = club("5da009bd009eb009ae009ec009de009cd009");
        due(y.whole(0, 3, 2), 2);
        due(y.whole(3, 1, 3), 2);
        due(y.whole(1, 4, 4), 2);
        due(y.whole(4, 0, 5), 2);
        due(y.ring(), 4);
        row(y, 0, 3, 1, 4, 2);
        due(y.whole(2, 4, 6), 2);
        due(y.whole(4, 3, 7), 2);
        due(y.ring(), 3);
        row(y, 1, 4, 3, 3);
        due(y.whole(3, 2, 8), 2);
        due(y.ring(), 3);
        row(y, 1, 4, 3, 3);
        due(y.lets(1, 4, 4), 0);
        due(y.ring(), 3);
        row(y, 2, 4, 3, 6);
    }

    private static void promise13() {
        TrustClub x = triangle();
        due(x.rings(), 1);
        row(x, 6);
        due(x.count(3), 21);
        due(x.holds(0, 1, 1), 0);
        due(x.rings(), 1);
        row(x, 6);
        TrustClub y = new TrustClub();
        due(y.rings(), 0);
        row(y, 0);
        // b d e and a b c share nothing but b: two rings.
        TrustClub z = club("5ba009cb009ac009db009ed009be009");
        due(z.whole(0, 1, 2), 2);
        due(z.whole(1, 2, 2), 2);
        due(z.whole(2, 0, 3), 2);
        due(z.whole(1, 3, 4), 2);
        due(z.whole(3, 4, 4), 2);
        due(z.whole(4, 1, 4), 2);
        due(z.rings(), 2);
        row(z, 1);
    }

    private static void promise14() {
        TrustClub x = diamond();
        due(x.pays(0, 3, 25), 2);
        row(x, 3, 10, 3, 15);
        due(x.line(1, 0), 10);
        row(x, 10, 0, 0);
        due(x.line(3, 2), 20);
        row(x, 15, 5, 0);
        due(x.pays(0, 3, 6), -4);
        row(x, 5);
        due(x.count(3), 50);
        due(x.pays(0, 3, 5), 1);
        row(x, 3, 5);
        // Back: what the one OWES goes off first, then the other one OWES.
        due(x.limits(0, 1, 7), 0);
        due(x.pays(1, 0, 13), 1);
        row(x, 2, 13);
        due(x.line(1, 0), 10);
        row(x, 0, 13, 0);
        due(x.line(0, 1), 7);
        row(x, 3, 4, 0);
        due(x.pays(0, 0, 1), -1);
        due(x.pays(0, 4, 1), -1);
        due(x.pays(4, 0, 1), -1);
        due(x.pays(-1, 0, 1), -1);
        due(x.pays(0, 3, 0), -1);
        due(x.pays(0, 3, 10000), -1);
        row(x, 3, 4, 0);
        due(x.pays(0, 3, 9999), -4);
        row(x, 13);
        due(x.count(4), 5);
        TrustClub back = detour();
        due(back.pays(0, 5, 3), -4);
        row(back, 2);
        due(back.count(3), 0);
        due(back.pays(0, 5, 2), 2);
        row(back, 4, 1, 8, 1);
        due(back.count(3), 8);
        // The shortest ways first, each by the lesser members.
        TrustClub y = club("4da002ba003db003ca004dc004");
        due(y.pays(0, 3, 9), 3);
        row(y, 2, 2, 3, 3, 3, 4);
    }

    private static void promise15() {
        TrustClub x = diamond();
        due(x.whole(0, 3, 15), 3);
        row(x, 0, 2, 3);
        due(x.line(2, 0), 20);
        row(x, 15, 5, 0);
        due(x.whole(0, 3, 11), -4);
        row(x, 10);
        due(x.count(3), 30);
        due(x.whole(0, 3, 5), 3);
        row(x, 0, 1, 3);
        due(x.whole(0, 3, 6), -4);
        row(x, 5);
        due(x.whole(3, 0, 16), -4);
        row(x, 15);
        due(x.whole(0, 0, 1), -1);
        due(x.whole(0, 4, 1), -1);
        due(x.whole(-1, 0, 1), -1);
        due(x.whole(0, 3, 0), -1);
        due(x.whole(0, 3, 10000), -1);
        row(x, 15);
        due(x.whole(1, 2, 9999), -4);
        row(x, 15);
        due(x.count(4), 3);
        TrustClub y = chain();
        due(y.whole(0, 2, 1), -4);
        row(y, 0);
    }

    private static void promise16() {
        TrustClub x = diamond();
        due(x.holds(0, 3, 25), 0);
        row(x, 2);
        due(x.count(3), 0);
        due(x.line(1, 0), 10);
        row(x, 0, 0, 10);
        due(x.line(0, 1), 0);
        row(x, 0, 0, 0);
        due(x.holds(0, 3, 6), -4);
        row(x, 5);
        due(x.holds(0, 3, 1), 1);
        due(x.holds(0, 2, 1), 2);
        due(x.holds(0, 3, 1), 3);
        row(x, 1);
        due(x.holds(0, 3, 1), -3);
        due(x.holds(0, 3, 9999), -3);
        due(x.holds(0, 3, 10000), -1);
        due(x.holds(0, 3, 0), -1);
        due(x.holds(0, 0, 1), -1);
        due(x.holds(4, 0, 1), -1);
        due(x.count(7), 15);
        row(x, 1);
        due(x.letsGo(1), 1);
        due(x.letsGo(2), 1);
        due(x.holds(0, 3, 2), 1);
        due(x.count(7), 11);
        // Nobody may touch the lines now, but pay, and have another STOCK.
        due(x.limits(0, 1, 5), -5);
        due(x.limits(0, 1, 0), -5);
        due(x.settles(), -5);
        due(x.lets(0, 1, 5), -5);
        due(x.leaves(0), -5);
        due(x.stocks(0, 5), 0);
        due(x.pays(1, 3, 20), 1);
        promise16Detour();
    }

    private static void promise16Detour() {
        // What goes there and back between two is not HELD between them.
        TrustClub x = detour();
        due(x.holds(0, 5, 2), 0);
        row(x, 2);
        due(x.held(0, 3), 8);
        due(x.line(2, 1), 1);
        row(x, 0, 1, 0);
        due(x.line(1, 2), 0);
        row(x, 0, 0, 0);
        due(x.line(6, 1), 1);
        row(x, 0, 0, 1);
        due(x.makes(0), 2);
        due(x.debts(), 8);
        row(x, 8, 0, 2);
        due(x.line(2, 1), 1);
        row(x, 0, 1, 0);
    }

    private static void promise17() {
        TrustClub x = diamond();
        due(x.holds(0, 3, 25), 0);
        due(x.makes(0), 25);
        row(x, 2);
        due(x.count(7), 0);
        due(x.count(3), 50);
        due(x.line(3, 1), 30);
        row(x, 10, 20, 0);
        due(x.line(3, 2), 20);
        row(x, 15, 5, 0);
        due(x.makes(0), -1);
        due(x.makes(-1), -1);
        due(x.makes(4), -1);
        due(x.makes(Integer.MAX_VALUE), -1);
        // Against a debt: it is paid off first.
        due(x.holds(1, 0, 4), 0);
        due(x.holds(3, 2, 15), 1);
        due(x.makes(1), 15);
        due(x.count(7), 1);
        due(x.makes(0), 4);
        due(x.debts(), 50 - 15 - 4);
        row(x, 3, 0, 21);
    }

    private static void promise18() {
        TrustClub x = diamond();
        due(x.holds(0, 3, 25), 0);
        due(x.holds(0, 3, 3), 1);
        due(x.letsGo(0), 25);
        row(x, 1);
        due(x.count(7), 2);
        due(x.count(3), 0);
        due(x.most(0, 3), 27);
        due(x.letsGo(0), -1);
        due(x.letsGo(2), -1);
        due(x.letsGo(4), -1);
        due(x.letsGo(-1), -1);
        due(x.letsGo(1), 3);
        due(x.most(0, 3), 30);
        due(x.count(4), 5);
    }

    private static void promise19() {
        TrustClub x = diamond();
        due(x.holds(1, 3, 2), 0);
        due(x.holds(0, 3, 25), 1);
        due(x.held(0, 0), 1);
        due(x.held(0, 1), 3);
        due(x.held(0, 2), 2);
        due(x.held(0, 3), 1);
        due(x.held(1, 0), 0);
        due(x.held(1, 1), 3);
        due(x.held(1, 2), 25);
        due(x.held(1, 3), 4);
        row(x, 2);
        dueThrow(() -> x.held(1, 4));
        dueThrow(() -> x.held(1, -1));
        dueThrow(() -> x.held(2, 0));
        dueThrow(() -> x.held(4, 0));
        dueThrow(() -> x.held(-1, 0));
        due(x.makes(1), 25);
        dueThrow(() -> x.held(1, 0));
        due(x.held(0, 2), 2);
    }

    private static void promise20() {
        TrustClub x = chain();
        due(x.holds(2, 0, 30), 0);
        due(x.holds(1, 0, 40), 1);
        row(x, 1);
        due(x.most(1, 0), 30);
        due(x.mostThen(1, 0, 0), 30);
        due(x.mostThen(1, 0, 1), 100);
        due(x.mostThen(0, 1, 0), 70);
        due(x.mostThen(0, 1, 1), 0);
        due(x.mostThen(0, 2, 0), 30);
        row(x, 2, 1, 2);
        due(x.count(7), 3);
        due(x.mostThen(0, 2, 2), -1);
        due(x.mostThen(0, 2, -1), -1);
        due(x.mostThen(0, 0, 0), -1);
        due(x.mostThen(0, 3, 0), -1);
        due(x.mostThen(-1, 0, 0), -1);
        TrustClub y = diamond();
        due(y.mostThen(0, 3, 0), 30);
        due(y.mostThen(0, 3, 1), 30);
    }

    private static void batchFault(String s, int p) {
        TrustClub x = chain();
        due(x.pays(2, 0, 1), 1);
        due(tell(x, s).batch(), -1 - p);
        due(x.count(6), 0);
        due(x.count(3), 2);
        due(x.count(4), 2);
        row(x, 3, 1);
    }

    private static void promise21() {
        TrustClub x = chain();
        due(tell(x, "ca0020ac0010").batch(), 2);
        due(x.count(6), 0);
        due(x.count(5), 0);
        due(x.debts(), 20);
        due(x.count(4), 2);
        due(tell(x, "ca0020ca0030ca0001").batch(), -101);
        row(x, 20);
        due(x.count(3), 20);
        due(tell(x, "ac0011ca0001").batch(), -100);
        row(x, 10);
        due(x.count(4), 2);
        due(x.count(6), 0);
        due(tell(x, "").batch(), 0);
        due(x.count(4), 2);
        StringBuilder eight = new StringBuilder();
        for (int i = 0; i < 8; i++) {
            eight.append("ba0001");
        }
        due(tell(x, eight.toString()).batch(), 8);
        due(x.count(3), 28);
        due(x.count(4), 3);
        row(x, 10);
        due(x.undo(), 2);
        due(x.count(3), 20);
        due(tell(x, "ba9999").batch(), -100);
        row(x, 90);
        batchFault(eight + "b", 48);
        batchFault(eight + "ba0001", 48);
        batchFault("b", 1);
        batchFault("ba", 2);
        batchFault("ba000", 5);
        batchFault("ba0000", 5);
        batchFault("ba0001ba0000", 11);
        batchFault("bb0001", 1);
        batchFault("bd0001", 1);
        batchFault("db0001", 0);
        batchFault("ba00a1", 4);
        batchFault("ba0001 ba0001", 6);
        batchFault("ab0500bx0001", 7);
    }

    private static void promise22() {
        TrustClub x = club("3ab010");
        due(tell(x, "ba0010ab0010").orders(), 2);
        row(x, 0, 1, 1);
        due(x.count(6), 0);
        due(x.count(3), 0);
        due(x.count(4), 1);
        due(tell(x, "ab0010ba0010").orders(), 2);
        row(x, 1, 0, 1);
        due(tell(x, "ba0004ba0003ab0002").orders(), 3);
        row(x, 0, 1, 2, 4);
        due(tell(x, "ba0002ba0002ba0002ba0002ba0002").orders(), 5);
        row(x, 0, 1, 2, 3, 4, 120);
        due(tell(x, "ba0006ba0006").orders(), -200);
        due(tell(x, "ca0001").orders(), -200);
        row(x, 0, 1, 2, 3, 4, 120);
        due(x.count(6), 0);
        due(tell(x, "").orders(), 0);
        row(x, 1);
        due(tell(x, "ba0001ba0001ba0001ba0001ba0001ba0001").orders(), -31);
        due(tell(x, "ba0001ba0001ba0001ba0001ba0001?").orders(), -31);
        due(tell(x, "ba0000").orders(), -6);
        due(tell(x, "aa0001").orders(), -2);
        due(tell(x, "ad0001").orders(), -2);
        due(tell(x, "da0001").orders(), -1);
        due(tell(x, "ba001").orders(), -6);
        row(x, 1);
        // b a, then a b of more than that, then b a again: one first, one last.
        due(tell(x, "ba0010ab0008ba0008").orders(), 3);
        row(x, 0, 1, 2, 2);
    }

    private static void promise23() {
        TrustClub x = triangle();
        due(x.settles(), 1);
        row(x, 15);
        due(x.line(1, 0), 100);
        row(x, 0, 100, 0);
        due(x.line(2, 1), 100);
        row(x, 2, 98, 0);
        due(x.line(0, 2), 100);
        row(x, 4, 96, 0);
        due(x.settles(), -2);
        row(x, 4, 96, 0);
        due(x.count(4), 5);
        due(x.undo(), 4);
        due(x.count(3), 21);
        due(x.holds(0, 1, 1), 0);
        due(x.settles(), -5);
        TrustClub y = club("5ba009cb009ac009db009ed009be009");
        due(y.whole(0, 1, 2), 2);
        due(y.whole(1, 2, 2), 2);
        due(y.whole(2, 0, 3), 2);
        due(y.whole(1, 3, 4), 2);
        due(y.whole(3, 4, 4), 2);
        due(y.whole(4, 1, 4), 2);
        due(y.settles(), 2);
        row(y, 18);
        due(y.count(3), 1);
        due(new TrustClub().settles(), -2);
    }

    private static void promise24() {
        TrustClub x = chain();
        due(x.raise(2, 0, 60), 2);
        row(x, 10);
        due(x.raise(2, 0, 51), 2);
        row(x, 1);
        due(x.raise(2, 0, 50), -2);
        due(x.raise(2, 0, 1049), 2);
        row(x, 999);
        due(x.raise(2, 0, 1050), -3);
        row(x, 999);
        due(x.raise(2, 0, 9999), -3);
        due(x.raise(2, 1, 1000), -3);
        due(x.raise(2, 1, 999), 12);
        row(x, 949);
        due(x.raise(0, 1, 1), 10);
        row(x, 1);
        due(x.raise(2, 0, 0), -1);
        due(x.raise(2, 0, 10000), -1);
        due(x.raise(2, 2, 1), -1);
        due(x.raise(3, 2, 1), -1);
        due(x.raise(2, -1, 1), -1);
        row(x, 1);
        due(x.count(2), 150);
        due(x.count(4), 1);
        // The straight line can't be raised so far: b's to c can, up to what a lets b owe.
        due(x.limits(0, 2, 990), 0);
        due(x.raise(2, 0, 1060), 12);
        row(x, 20);
        due(x.raise(2, 0, 1049), 2);
        row(x, 9);
        due(x.raise(2, 0, 1050), 12);
        row(x, 10);
        due(x.raise(2, 0, 1091), -3);
    }

    private static void promise25() {
        TrustClub x = chain();
        due(x.pays(2, 0, 30), 1);
        due(x.fails(2), 2);
        row(x, 7, 60, 0);
        due(x.fails(1), 1);
        row(x, 3, 30, 0);
        due(x.fails(0), 0);
        row(x, 1, 0, 0);
        due(x.stocks(0, 29), 0);
        due(x.fails(1), 1);
        due(x.stocks(0, 30), 29);
        due(x.fails(2), 1);
        row(x, 6, 60, 30);
        due(x.fails(3), -1);
        due(x.fails(-1), -1);
        row(x, 6, 60, 30);
        // Of a ring: the first one's own loss counts, but it does not fail once more.
        TrustClub y = triangle();
        due(y.fails(0), 2);
        row(y, 7, 21, 0);
        due(y.stocks(1, 5), 0);
        due(y.fails(0), 0);
        row(y, 1, 5, 5);
        // All at once: b and c fail together by a, and d only by both.
        TrustClub z = club("4ba009ca009db009dc009");
        due(z.whole(0, 1, 1), 2);
        due(z.whole(0, 2, 2), 2);
        due(z.whole(1, 3, 3), 2);
        due(z.whole(2, 3, 4), 2);
        due(z.stocks(3, 6), 0);
        due(z.fails(0), 2);
        row(z, 15, 10, 0);
        due(z.stocks(3, 7), 6);
        due(z.fails(0), 1);
        row(z, 7, 10, 7);
    }

    private static void promise26() {
        TrustClub x = chain();
        due(x.worst(), -2);
        due(x.count(5), 0);
        due(x.pays(2, 0, 30), 1);
        due(x.worst(), 2);
        row(x, 60, 2);
        due(x.stocks(1, 30), 0);
        due(x.worst(), 1);
        row(x, 30, 1);
        due(x.stocks(0, 30), 0);
        due(x.worst(), 1);
        row(x, 30, 0);
    }

    private static void promise27() {
        TrustClub x = chain();
        due(x.enough(0), -2);
        due(x.pays(2, 0, 30), 1);
        due(x.enough(2), 1);
        row(x, 30);
        due(x.stocks(1, 29), 0);
        due(x.enough(2), 1);
        row(x, 1);
        due(x.stocks(1, 30), 29);
        due(x.enough(2), -2);
        due(x.enough(1), 0);
        row(x, 30);
        due(x.enough(0), -2);
        due(x.enough(3), -1);
        due(x.enough(-1), -1);
        row(x, 30);
        TrustClub y = club("4ba009ca009");
        due(y.whole(0, 1, 1), 2);
        due(y.whole(0, 2, 2), 2);
        due(y.enough(0), -3);
        row(y, 0, 2);
        due(y.stocks(1, 1), 0);
        due(y.enough(0), 2);
        row(y, 2);
        // As much as a debt can be.
        TrustClub z = club("2ab999ba999");
        due(z.whole(1, 0, 999), 2);
        due(z.stocks(0, 5), 0);
        due(z.enough(1), 0);
        row(z, 994);
    }

    private static void promise28() {
        TrustClub x = diamond();
        due(x.without(0, 3, 1), 20);
        row(x, 10);
        due(x.without(0, 3, 2), 10);
        row(x, 20);
        due(x.without(0, 1, 3), 10);
        row(x, 0);
        due(x.without(0, 3, 0), -1);
        due(x.without(0, 3, 3), -1);
        due(x.without(0, 0, 1), -1);
        due(x.without(0, 3, 4), -1);
        due(x.without(0, 3, -1), -1);
        due(x.without(0, 4, 1), -1);
        due(x.without(-1, 3, 1), -1);
        row(x, 0);
    }

    private static void promise29() {
        TrustClub x = diamond();
        due(x.key(0, 3), 2);
        row(x, 10);
        due(x.limits(1, 0, 20), 10);
        due(x.key(0, 3), 1);
        row(x, 20);
        due(x.key(0, 1), 2);
        row(x, 20);
        due(x.key(3, 0), 1);
        row(x, 0);
        due(x.key(1, 1), -1);
        due(x.key(1, 4), -1);
        due(x.key(-1, 1), -1);
        row(x, 0);
        TrustClub two = club("2ab005");
        due(two.key(1, 0), -2);
        due(two.key(1, 2), -1);
        due(two.count(5), 0);
    }

    private static void promise30() {
        TrustClub x = chain();
        due(x.pays(2, 0, 30), 1);
        due(x.were(2, 0, 1, 2, 80), 50);
        due(x.were(2, 0, 1, 2, 999), 70);
        due(x.were(2, 0, 1, 2, 30), 0);
        due(x.were(2, 0, 1, 2, 29), -4);
        due(x.were(2, 0, 0, 2, 0), 20);
        due(x.were(2, 0, 0, 2, 999), 1019);
        due(x.were(2, 0, 0, 2, 1000), -1);
        due(x.were(2, 0, 0, 2, -1), -1);
        due(x.were(2, 0, 2, 2, 5), -1);
        due(x.were(2, 0, 3, 2, 5), -1);
        due(x.were(2, 0, 0, -1, 5), -1);
        due(x.were(2, 2, 0, 1, 50), -1);
        due(x.were(2, 3, 0, 1, 50), -1);
        due(x.were(-1, 2, 0, 1, 29), -1);
        due(x.line(1, 2), 50);
        row(x, 30, 20, 0);
        due(x.were(2, 0, 1, 2, 80), 50);
        row(x, 30, 20, 0);
        // Less than what is OWED by it and HELD together: there is no ROOM.
        due(x.holds(2, 0, 15), 0);
        due(x.were(2, 0, 1, 2, 30), 0);
        due(x.were(2, 0, 1, 2, 46), 1);
    }

    private static void promise31() {
        TrustClub x = chain();
        due(x.both(2, 0, 30, 2, 0, 20), 3);
        row(x, 20);
        due(x.both(2, 0, 30, 2, 0, 21), 0);
        row(x, 20);
        due(x.both(2, 0, 30, 0, 2, 30), 1);
        row(x, 30);
        due(x.both(0, 2, 30, 2, 0, 30), 2);
        row(x, -1);
        due(x.both(0, 2, 30, 0, 1, 30), 0);
        row(x, -1);
        due(x.both(2, 0, 51, 2, 0, 1), 0);
        row(x, -1);
        due(x.both(2, 1, 9999, 2, 0, 1), 0);
        due(x.both(2, 0, 30, 1, 0, 70), 3);
        row(x, 70);
        due(x.count(3), 0);
        due(x.both(2, 0, 0, 0, 2, 1), -1);
        due(x.both(2, 0, 1, 0, 2, 0), -1);
        due(x.both(2, 0, 10000, 0, 2, 1), -1);
        due(x.both(2, 0, 1, 0, 2, 10000), -1);
        due(x.both(2, 2, 1, 0, 2, 1), -1);
        due(x.both(2, 0, 1, 0, 0, 1), -1);
        due(x.both(3, 0, 1, 0, 2, 1), -1);
        due(x.both(2, 0, 1, 0, 3, 1), -1);
        row(x, 70);
    }

    private static void promise32() {
        TrustClub x = chain();
        due(x.pays(2, 0, 30), 1);
        due(x.limits(0, 1, 30), 100);
        due(x.limits(0, 1, 30), -2);
        due(x.limits(0, 1, 29), -4);
        due(x.line(0, 1), 30);
        row(x, 30, 0, 0);
        due(x.limits(1, 0, 999), 0);
        due(x.limits(1, 0, 0), 999);
        row(x, 30, 0, 0);
        due(x.count(4), 5);
        due(x.limits(0, 1, 1000), -1);
        due(x.limits(0, 1, -1), -1);
        due(x.limits(1, 1, 5), -1);
        due(x.limits(3, 1, 5), -1);
        due(x.limits(0, -1, 5), -1);
        due(x.holds(0, 1, 1), 0);
        due(x.limits(0, 1, 30), -5);
        due(x.limits(0, 1, 29), -5);
        due(x.limits(0, 1, 1000), -1);
        due(x.makes(0), 1);
        due(x.limits(0, 1, 29), 30);
    }

    private static void promise33() {
        TrustClub x = chain();
        due(x.stocks(2, 999), 0);
        due(x.stocks(2, 999), -2);
        due(x.stocks(2, 1000), -1);
        due(x.stocks(2, -1), -1);
        due(x.stocks(3, 1), -1);
        due(x.stocks(-1, 1), -1);
        due(x.stocks(0, 0), -2);
        due(x.stocks(0, 4), 0);
        due(x.count(8), 1003);
        due(x.stocks(2, 0), 999);
        due(x.count(8), 4);
        due(x.count(4), 4);
        due(x.holds(2, 0, 1), 0);
        due(x.stocks(2, 7), 0);
        due(x.count(8), 11);
    }

    private static void promise34() {
        TrustClub x = chain();
        due(x.pays(2, 0, 30), 1);
        due(x.lets(1, 0, 5), 25);
        row(x, 3, 30);
        due(x.count(3), 55);
        due(x.net(0), 25);
        due(x.lets(1, 0, 26), -4);
        due(x.lets(0, 1, 1), -4);
        due(x.lets(1, 0, 9999), -4);
        due(x.lets(1, 0, 10000), -1);
        due(x.lets(1, 0, 0), -1);
        due(x.lets(1, 1, 1), -1);
        due(x.lets(1, 3, 1), -1);
        due(x.lets(-1, 0, 1), -1);
        due(x.lets(1, 0, 25), 0);
        due(x.count(4), 4);
        due(x.lets(1, 0, 1), -4);
        due(x.holds(2, 0, 1), 0);
        due(x.lets(1, 0, 1), -5);
        due(x.lets(2, 1, 1), -5);
        due(x.lets(2, 1, 0), -1);
        due(x.count(3), 30);
    }

    private static void promise35() {
        TrustClub x = club("3ab100bc050ca007cb000");
        due(x.pays(2, 1, 30), 1);
        due(x.leaves(2), -4);
        due(x.leaves(1), -4);
        due(x.leaves(0), 2);
        due(x.count(1), 1);
        due(x.line(0, 1), 0);
        due(x.line(2, 0), 0);
        due(x.line(1, 2), 50);
        row(x, 30, 20, 0);
        due(x.leaves(0), 0);
        row(x, 30, 20, 0);
        due(x.count(4), 4);
        due(x.count(0), 3);
        due(x.leaves(3), -1);
        due(x.leaves(-1), -1);
        due(x.holds(2, 1, 1), 0);
        due(x.leaves(0), -5);
        due(x.leaves(1), -5);
        due(x.leaves(3), -1);
        due(x.letsGo(0), 1);
        due(x.lets(2, 1, 30), 0);
        due(x.leaves(1), 1);
        due(x.count(2), 0);
    }

    private static void dayFault(String s, int p) {
        TrustClub x = chain();
        due(x.pays(2, 0, 1), 1);
        due(tell(x, s).day(), -1 - p);
        due(x.count(6), 0);
        due(x.count(3), 2);
        due(x.count(4), 2);
        due(x.count(7), 0);
        row(x, 3, 1);
    }

    private static void promise36() {
        TrustClub x = triangle();
        int ahead = x.count(4);
        // a owes b 5, b owes c 7, c owes a 9: then 6, 7, 9; one ring of 6.
        due(tell(x, "pab0001swba9999").day(), 2);
        row(x, 1, 4);
        due(x.count(6), 0);
        due(x.count(4), ahead + 1);
        due(x.undo(), ahead);
        due(x.count(3), 21);
        due(tell(x, "wab0002lab005kc012fca0004hab0003m0hab0002g0").day(), 8);
        row(x, 0, 22);
        due(x.count(4), ahead + 1);
        due(x.line(0, 1), 5);
        row(x, 0, 15, 0);
        due(x.count(8), 12);
        due(x.count(7), 0);
        due(x.undo(), ahead);
        due(x.count(8), 0);
        due(x.line(0, 1), 0);
        due(tell(x, "").day(), 0);
        row(x, 0, 21);
        due(x.count(4), ahead);
        // Read, and refused when done.
        String[] refused = {"paa0001", "pab0000", "phb0001", "wab9999", "lab000", "lba004", "lhb001", "fab0006",
            "fab0000", "m0", "g9", "ka000", "kd001", "hab0103", "haa0001"};
        for (String act : refused) {
            due(tell(x, act + "s").day(), 0);
            row(x, 1, 21);
        }
        due(x.count(4), ahead);
        // What is HELD stops a settling; what was done stays done.
        due(tell(x, "hab0001sm0").day(), 1);
        row(x, 1, 21);
        due(x.count(7), 1);
        due(x.count(4), ahead + 1);
        dayFault("x", 0);
        dayFault("P", 0);
        dayFault("p", 1);
        dayFault("pc", 2);
        dayFault("pca", 3);
        dayFault("pca000", 6);
        dayFault("pca0001p", 8);
        dayFault("pia0001", 1);
        dayFault("pai0001", 2);
        dayFault("pca00x1", 5);
        dayFault("lab12", 5);
        dayFault("lab1234", 6);
        dayFault("k", 1);
        dayFault("kbb12", 2);
        dayFault("kb12", 4);
        dayFault("m", 1);
        dayFault("ma", 1);
        dayFault("g0g", 3);
        dayFault("s s", 1);
        dayFault("wca0001hca001", 13);
        dayFault("f0a0001", 1);
    }

    private static void promise37() {
        TrustClub x = club("3ab100bc050");
        due(x.undo(), 0);
        due(x.count(0), 2);
        due(x.count(2), 0);
        due(x.undo(), -1);
        due(tell(x, "3ab100bc050").club(), 2);
        due(x.pays(2, 0, 30), 1);
        due(x.whole(1, 0, 5), 2);
        due(x.holds(2, 0, 3), 0);
        due(x.makes(0), 3);
        due(x.holds(2, 0, 4), 0);
        due(x.letsGo(0), 4);
        due(tell(x, "ba0001").batch(), 1);
        due(x.count(4), 8);
        due(x.limits(0, 1, 99), 100);
        due(x.count(4), 8);
        due(x.lets(1, 0, 2), 37);
        due(x.stocks(1, 3), 0);
        due(tell(x, "ka001kb001").day(), 2);
        due(x.count(4), 8);
        row(x, 0, 70);
        due(x.undo(), 7);
        due(x.count(8), 3);
        due(x.undo(), 6);
        due(x.count(8), 0);
        due(x.undo(), 5);
        due(x.count(3), 72);
        due(x.undo(), 4);
        due(x.line(0, 1), 100);
        row(x, 39, 61, 0);
        due(x.undo(), 3);
        due(x.count(3), 71);
        due(x.undo(), 2);
        due(x.count(7), 1);
        due(x.held(0, 2), 4);
        due(x.undo(), 1);
        due(x.count(7), 0);
        due(x.undo(), 0);
        due(x.count(7), 1);
        due(x.held(0, 2), 3);
        due(x.count(3), 65);
        due(x.undo(), -1);
        row(x, 39, 61, 0);
        promise37Kinds();
    }

    private static void promise37Kinds() {
        // Refused calls, questions, sheet() and empty texts are not kept.
        TrustClub x = triangle();
        due(x.count(4), 4);
        due(x.pays(0, 1, 500), -4);
        due(x.whole(0, 1, 500), -4);
        due(x.holds(0, 1, 500), -4);
        due(x.limits(0, 1, 0), -2);
        due(x.lets(0, 1, 500), -4);
        due(x.leaves(0), -4);
        due(x.stocks(0, 0), -2);
        due(tell(x, "").batch(), 0);
        due(tell(x, "").day(), 0);
        due(tell(x, "paa0001").day(), 0);
        due(tell(x, "9").club(), -1);
        due(x.sheet(0, 2, 1, 44, 0), 1);
        due(x.years(1, 30) >= 0, true);
        due(x.keep(0), true);
        due(x.count(4), 4);
        due(x.settles(), 1);
        due(x.count(4), 5);
        due(x.undo(), 4);
        due(x.count(3), 21);
        due(x.line(0, 1), 44);
        // The lines are as ahead of the payment: what sheet() did behind it goes, too.
        due(x.undo(), 3);
        due(x.line(0, 1), 0);
        TrustClub y = club("3ab100bc050");
        due(y.leaves(0), 1);
        due(y.undo(), 1);
        due(y.count(2), 150);
        promise37Held();
    }

    private static void promise37Held() {
        // A payment that was HELD comes back with both of its ends and all of its steps.
        TrustClub x = chain();
        due(x.holds(2, 0, 4), 0);
        due(x.keep(1), true);
        due(x.letsGo(0), 4);
        due(x.holds(1, 0, 5), 0);
        due(x.letsGo(0), 5);
        due(x.holds(2, 1, 6), 0);
        long[][] ahead = {{1, 0, 5, 1}, {2, 0, 4, 2}};
        for (int i = 0; i < 2; i++) {
            due(x.undo(), 5 - 2 * i);
            due(x.undo(), 4 - 2 * i);
            for (int what = 0; what < 4; what++) {
                due(x.held(0, what), ahead[i][what]);
            }
        }
        due(x.makes(0), 4);
        due(x.holds(1, 0, 5), 0);
        due(x.again(1), true);
        for (int what = 0; what < 4; what++) {
            due(x.held(0, what), ahead[1][what]);
        }
        due(x.line(1, 2), 50);
        row(x, 0, 46, 4);
    }

    private static void promise38() {
        TrustClub x = club("3ab100bc050ca100ba100cb070ac060");
        due(x.pays(2, 0, 7), 1);
        // R: 1103527590, 2524885223, 662824084: 16838 % 3 = 2, 38526 % 3 = 0, 10113 % 60 = 33.
        due(x.years(1, 1), 1);
        row(x, 7 + 34, 0);
        due(x.count(3), 7);
        due(x.count(4), 2);
        // 3295386010, 4182499122, 2516284547: 50283 % 3 = 0, 63819 % 3 = 0: nothing.
        due(x.years(1, 2), 1);
        row(x, 41, 0);
        due(x.years(1, 0), -1);
        due(x.years(1, 31), -1);
        due(x.years(1, -1), -1);
        row(x, 41, 0);
        // The same draws, paid by hand, on a club of its own; its ring is told.
        int[] seeds = {0, -1, 77, 123456789, Integer.MIN_VALUE, Integer.MAX_VALUE};
        for (int seed : seeds) {
            TrustClub y = club("3ab100bc050ca100ba100cb070ac060");
            long r = seed & 0xffffffffL;
            int made = 0;
            for (int i = 0; i < 30; i++) {
                int[] drawn = new int[3];
                for (int k = 0; k < 3; k++) {
                    r = (r * 1103515245L + 12345) & 0xffffffffL;
                    drawn[k] = (int) (r / 65536 % (k == 2 ? 60 : 3));
                }
                made += y.pays(drawn[0], drawn[1], drawn[2] + 1) > 0 ? 1 : 0;
            }
            TrustClub z = club("3ab100bc050ca100ba100cb070ac060");
            due(z.years(seed, 30), made);
            row(z, y.count(3), y.rings());
            due(z.count(3), 0);
            due(z.count(4), 1);
        }
    }

    private static void promise39() {
        TrustClub x = chain();
        due(x.pays(2, 0, 30), 1);
        due(x.stocks(1, 3), 0);
        due(x.holds(2, 0, 5), 0);
        due(x.keep(0), true);
        due(x.keep(1), true);
        due(x.keep(2), false);
        due(x.keep(-1), false);
        row(x, 1);
        due(x.count(4), 4);
        due(x.makes(0), 5);
        due(x.keep(1), true);
        due(tell(x, "2").club(), 0);
        due(x.again(0), true);
        int[] first = {3, 2, 150, 60, 0, 1, 0, 1, 3};
        for (int what = 0; what < first.length; what++) {
            due(x.count(what), first[what]);
        }
        due(x.held(0, 2), 5);
        due(x.again(1), true);
        due(x.count(3), 70);
        due(x.count(7), 0);
    }

    private static void promise40() {
        TrustClub x = chain();
        due(x.again(0), false);
        due(x.again(1), false);
        due(x.count(4), 1);
        due(x.keep(1), true);
        due(x.again(0), false);
        due(x.again(2), false);
        due(x.again(-1), false);
        due(x.pays(2, 0, 30), 1);
        due(x.count(4), 2);
        due(x.again(1), true);
        due(x.count(3), 0);
        due(x.count(4), 0);
        due(x.undo(), -1);
        row(x, 3, 30);
        // What is kept stays as it was, however often it comes again.
        due(x.pays(2, 0, 20), 1);
        due(x.limits(0, 1, 20), 100);
        due(x.again(1), true);
        due(x.count(3), 0);
        due(x.count(2), 150);
    }

    private static void promise41() {
        TrustClub x = club("4ab100bc050cd000");
        due(x.pays(2, 0, 30), 1);
        due(x.holds(1, 0, 1), 0);
        due(x.holds(1, 0, 2), 1);
        due(x.letsGo(0), 1);
        due(x.stocks(0, 5), 0);
        due(x.stocks(3, 6), 0);
        due(x.sign(0), 4);
        due(x.most(2, 0), 20);
        int[] counts = {4, 2, 150, 60, 7, 3, 4, 2, 11};
        for (int what = 0; what < counts.length; what++) {
            due(x.count(what), counts[what]);
        }
        due(x.count(9), -1);
        due(x.count(-1), -1);
        due(x.count(Integer.MIN_VALUE), -1);
        row(x, 4, 1, 3);
    }

    private static void promise42() {
        TrustClub x = chain();
        dueThrow(() -> x.row(0));
        dueThrow(() -> x.row(-1));
        due(x.way(2, 0, 50), 3);
        due(x.row(0), 2);
        due(x.row(1), 1);
        due(x.row(2), 0);
        dueThrow(() -> x.row(3));
        dueThrow(() -> x.row(-1));
        dueThrow(() -> x.row(Integer.MAX_VALUE));
        due(x.reach(2, 1), 3);
        due(x.row(0), 2);
        dueThrow(() -> x.row(1));
        due(x.way(2, 0, 51), -2);
        due(x.row(0), 2);
        due(x.count(5), 1);
    }
}
