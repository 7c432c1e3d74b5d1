import java.lang.management.ManagementFactory;

/**
 * All calls of a run live in one room that is never swept: an object takes its rows when it is
 * made, and no call makes anything but what it throws.
 */
public final class RoomTests {
    private static final int ROUNDS = 60;

    public static void main(String[] args) {
        com.sun.management.ThreadMXBean bean = (com.sun.management.ThreadMXBean) ManagementFactory.getThreadMXBean();
        long id = Thread.currentThread().getId();
        TrustClub x = new TrustClub();
        int sum = 0;
        for (int i = 0; i < 5; i++) {
            sum += allCalls(x);
            bean.getThreadAllocatedBytes(id);
        }
        long ahead = bean.getThreadAllocatedBytes(id);
        for (int i = 0; i < ROUNDS; i++) {
            sum += allCalls(x);
        }
        long byCalls = bean.getThreadAllocatedBytes(id) - ahead;
        ahead = bean.getThreadAllocatedBytes(id);
        TrustClub y = new TrustClub();
        long byMaking = bean.getThreadAllocatedBytes(id) - ahead;
        sum += y.count(0);
        System.out.println(ROUNDS + " rounds of all calls made " + byCalls + " bytes, a new object " + byMaking + " (" + sum + ")");
        if (byCalls > 20000 || byMaking > 100000) {
            System.out.println("that is too much");
            System.exit(1);
        }
    }

    private static void tell(TrustClub x, String s) {
        x.end(0);
        for (int i = 0; i < s.length(); i += 4) {
            int v = 0;
            for (int k = i; k < i + 4; k++) {
                v = v << 8 | (k < s.length() ? s.charAt(k) : 0);
            }
            x.sign(v);
        }
        x.end(s.length());
    }

    private static int allCalls(TrustClub x) {
        int sum = 0;
        tell(x, "8ab100bc100cd100de100ef100fg100gh100ha100");
        sum += x.club();
        for (int m = 0; m < 8; m++) {
            sum += x.sheet(m, 2, 7, 20 + m, 7);
        }
        for (int m = 0; m < 8; m++) {
            sum += x.pays(m, (m + 3) % 8, 60 + m) + x.whole(m, (m + 1) % 8, 9);
            sum += x.holds(m, (m + 2) % 8, 11) + x.line(m, (m + 1) % 8) + x.net(m) + x.reach(m, 5) + x.way(m, (m + 1) % 8, 3);
            sum += x.most(m, (m + 4) % 8) + x.fails(m) + x.enough(m) + x.stocks(m, m) + x.raise(m, (m + 1) % 8, 700);
            sum += x.without(m, (m + 1) % 8, (m + 2) % 8) + x.key(m, (m + 1) % 8) + x.were(m, (m + 1) % 8, 2, 3, 500);
            sum += x.both(m, (m + 1) % 8, 50, (m + 2) % 8, m, 60) + x.mostThen(m, (m + 1) % 8, m & 1);
            sum += x.makes(m & 3) + x.letsGo(m + 2 & 3) + (int) x.row(0);
        }
        for (int place = 0; place < 4; place++) {
            sum += x.letsGo(place);
        }
        tell(x, "ab0010bc0010cd0010de0010ef0010fg0010gh0010ha0010");
        sum += x.batch();
        tell(x, "ab0010bc0010cd0010de0010ef0010");
        sum += x.orders();
        tell(x, "pab0010wbc0010lab900fab0001shab0001m0hab0001g0ka005");
        sum += x.day() + x.debts() + x.ring() + x.rings() + x.settles() + x.worst() + x.limits(0, 1, 950) + x.lets(0, 1, 1);
        sum += x.leaves(0) + x.years(99, 30) + (x.keep(0) ? 1 : 0) + x.undo() + (x.again(0) ? 1 : 0) + x.count(3);
        x.holds(1, 2, 1);
        return sum + x.held(0, 3);
    }
}
