import java.lang.reflect.InvocationTargetException;
import java.lang.reflect.Method;
import java.lang.reflect.Modifier;
import java.util.Arrays;
import java.util.Comparator;
import java.util.NoSuchElementException;
import java.util.Random;
import java.util.Set;

/**
 * Each call of the face with numbers far inside, at, and far outside all bounds of the document, in
 * clubs of several kinds: nothing but what the document names is thrown, and what the document says
 * of every club holds behind the calls, whatever they were.
 */
public final class AnyArguments {
    private static final int[] NUMBERS = {Integer.MIN_VALUE, Integer.MIN_VALUE + 1, -65536, -1000, -256, -8, -2, -1, 0, 1, 2, 3, 4,
        5, 6, 7, 8, 9, 15, 16, 19, 20, 21, 29, 30, 31, 32, 33, 63, 64, 65, 79, 80, 81, 127, 128, 255, 256, 511, 512, 998, 999, 1000,
        1001, 9998, 9999, 10000, 65535, 65536, 1 << 30, Integer.MAX_VALUE - 1, Integer.MAX_VALUE};
    private static final Set<String> THROWING = Set.of("net", "held", "row");
    private static final String[] TEXTS = {"", "2", "8", "2ab999ba999", "3ab100bc050", "5ba050cb050ac050dc040ed030ae020",
        "8ba999cb999dc999ed999fe999gf999hg999ah999ca500ec500"};
    private static final int CALLS_MOST = 400;
    private static final int DRAWS = 6000;

    private static int wrong = 0;
    private static int calls = 0;

    public static void main(String[] args) {
        Method[] face = TrustClub.class.getDeclaredMethods();
        Arrays.sort(face, Comparator.comparing(Method::getName));
        Random random = new Random(20261118);
        for (Method m : face) {
            if (Modifier.isPublic(m.getModifiers())) {
                for (int kind = 0; kind < TEXTS.length; kind++) {
                    callOften(m, kind, random);
                }
            }
        }
        for (int i = 0; i < 300 && wrong < 20; i++) {
            callAll(face, i % TEXTS.length, random);
        }
        System.out.println(wrong == 0 ? calls + " calls with any arguments threw nothing else" : wrong + " things are not as due");
        if (wrong != 0) {
            System.exit(1);
        }
    }

    private static void callOften(Method m, int kind, Random random) {
        int many = m.getParameterCount() < 2 ? NUMBERS.length : DRAWS / TEXTS.length;
        TrustClub x = made(kind, random);
        for (int i = 0; i < many && wrong < 20; i++) {
            if (i % CALLS_MOST == CALLS_MOST - 1) {
                lookAtAll(x, m.getName());
                x = made(kind, random);
            }
            call(x, m, arguments(m, i, random));
        }
        lookAtAll(x, m.getName());
    }

    private static void callAll(Method[] face, int kind, Random random) {
        TrustClub x = made(kind, random);
        for (int i = 0; i < CALLS_MOST && wrong < 20; i++) {
            Method m = face[random.nextInt(face.length)];
            if (Modifier.isPublic(m.getModifiers())) {
                call(x, m, arguments(m, random.nextInt(NUMBERS.length), random));
            }
        }
        lookAtAll(x, "calls of all kinds");
    }

    /** One number at its turn, the others drawn, mostly such as are members. */
    private static Object[] arguments(Method m, int turn, Random random) {
        Object[] all = new Object[m.getParameterCount()];
        for (int i = 0; i < all.length; i++) {
            all[i] = random.nextInt(3) == 0 ? NUMBERS[random.nextInt(NUMBERS.length)] : random.nextInt(8);
        }
        if (all.length > 0) {
            all[random.nextInt(all.length)] = NUMBERS[turn % NUMBERS.length];
        }
        return all;
    }

    private static void call(TrustClub x, Method m, Object[] arguments) {
        calls++;
        try {
            m.invoke(x, arguments);
        } catch (InvocationTargetException e) {
            boolean isDue = e.getCause().getClass() == NoSuchElementException.class && THROWING.contains(m.getName());
            due(isDue, m.getName() + Arrays.toString(arguments) + " threw " + e.getCause());
        } catch (IllegalAccessException e) {
            due(false, m.getName() + " can't be called");
        }
    }

    private static TrustClub made(int kind, Random random) {
        TrustClub x = new TrustClub();
        tell(x, TEXTS[kind]);
        x.club();
        for (int i = 0; i < 6; i++) {
            x.pays(random.nextInt(8), random.nextInt(8), 1 + random.nextInt(99));
            x.holds(random.nextInt(8), random.nextInt(8), 1 + random.nextInt(9));
            x.stocks(random.nextInt(8), random.nextInt(60));
        }
        if (random.nextInt(3) == 0) {
            for (int place = 0; place < 4; place++) {
                x.makes(place);
            }
        }
        x.keep(random.nextInt(2));
        tell(x, new String[] {"", "3ab100", "ba0001ab0001", "pba0001skb001m0"}[random.nextInt(4)]);
        return x;
    }

    private static void tell(TrustClub x, String s) {
        x.end(0);
        for (int i = 0; i < s.length(); i += 4) {
            int v = 0;
            for (int k = i; k < i + 4; k++) {
                v = v << 8 | (k < s.length() ? s.charAt(k) : 0);
            }
            x.sign(v);
        }
        x.end(s.length());
    }

    /** What the terms say of every club. */
    private static void lookAtAll(TrustClub x, String behind) {
        int n = x.count(0);
        due(n >= 2 && n <= 8, behind + ": N is " + n);
        due(x.count(4) >= 0 && x.count(4) <= 8, behind + ": " + x.count(4) + " can be undone");
        due(x.count(6) >= 0 && x.count(6) <= 80, behind + ": THE TEXT has " + x.count(6) + " signs");
        due(x.count(7) >= 0 && x.count(7) <= 15, behind + ": HELD at " + x.count(7));
        due(x.count(8) >= 0 && x.count(8) <= 999 * n, behind + ": STOCKS are " + x.count(8));
        int nets = 0;
        int owed = 0;
        int limits = 0;
        for (int u = 0; u < n; u++) {
            nets += x.net(u);
            for (int v = 0; v < n; v++) {
                if (u != v) {
                    int limit = x.line(u, v);
                    long owes = x.row(0);
                    long room = x.row(1);
                    long held = x.row(2);
                    limits += limit;
                    owed += (int) owes;
                    x.line(v, u);
                    long back = x.row(0);
                    due(limit >= 0 && limit <= 999, behind + ": LIMIT " + limit);
                    due(owes >= 0 && owes <= limit && (owes == 0 || back == 0), behind + ": OWES " + owes + " of " + limit);
                    due(held >= 0 && room >= 0 && room == limit - owes + back - held, behind + ": ROOM " + room);
                }
            }
        }
        due(nets == 0 && owed == x.count(3) && owed == x.debts(), behind + ": all OWE " + owed);
        due(limits == x.count(2), behind + ": all LIMITS are " + limits);
    }

    private static void due(boolean holds, String what) {
        if (!holds) {
            wrong++;
            System.out.println(what);
        }
    }
}
