import java.util.ArrayList;
import java.util.Arrays;
import java.util.List;
import java.util.NoSuchElementException;
import java.util.Random;

/**
 * Runs of drawn calls (always the same ones) on the class and on a model of the document that is
 * as literal as can be: all ways and rings are written out, what each owes is moved step by step.
 * Each answer and the whole ROW behind it must be the same.
 */
public final class RandomRuns {
    private static final long THROWS = Long.MIN_VALUE;
    private static final int RUNS = 1500;
    private static final int CALLS = 160;

    private static int wrong = 0;

    public static void main(String[] args) {
        int calls = 0;
        for (int run = 0; run < RUNS && wrong < 20; run++) {
            calls += oneRun(run);
        }
        System.out.println(wrong == 0 ? calls + " drawn calls answered as the model does" : wrong + " drawn calls differ");
        if (wrong != 0) {
            System.exit(1);
        }
    }

    private static int oneRun(int run) {
        Random random = new Random(7919L * run + 13);
        Caller caller = new Caller(random);
        int made = 0;
        while (made < CALLS) {
            List<String> texts = caller.nextCalls();
            for (String call : texts) {
                made++;
                long got = caller.ask(false, call);
                long want = caller.ask(true, call);
                String gotRow = caller.rowOfClass();
                String wantRow = caller.model.row.toString();
                if (got != want || !gotRow.equals(wantRow)) {
                    wrong++;
                    System.out.println("run " + run + ", call " + made + ": " + call + " answered " + show(got) + " " + gotRow
                            + ", the model " + show(want) + " " + wantRow + "; the calls ahead of it: " + caller.history);
                    return made;
                }
                caller.history.add(call);
            }
        }
        return made;
    }

    private static String show(long answer) {
        return answer == THROWS ? "NoSuchElementException" : Long.toString(answer);
    }

    /** Draws calls, as texts, and makes them on the class or on the model. */
    private static final class Caller {
        final Random random;
        final TrustClub club = new TrustClub();
        final Model model = new Model();
        final List<String> history = new ArrayList<>();
        private final int style;
        private boolean started;

        Caller(Random random) {
            this.random = random;
            this.style = random.nextInt(4);
        }

        int draw(int n) {
            return random.nextInt(n);
        }

        int member() {
            if (draw(60) == 0) {
                return new int[] {-1, model.state.n, model.state.n, 8, 64, Integer.MAX_VALUE, Integer.MIN_VALUE}[draw(7)];
            }
            return draw(model.state.n);
        }

        /** Two members that are mostly unlike. */
        String two() {
            int a = member();
            int b = member();
            for (int i = 0; i < 3 && a == b && draw(20) != 0; i++) {
                b = member();
            }
            return a + " " + b;
        }

        int sum() {
            if (draw(40) == 0) {
                return new int[] {0, -1, 9999, 10000, Integer.MAX_VALUE, Integer.MIN_VALUE}[draw(6)];
            }
            switch (style) {
                case 0:
                    return 1 + draw(6);
                case 1:
                    return 1 + draw(30);
                case 2:
                    return 1 + draw(250);
                default:
                    return 1 + draw(draw(2) == 0 ? 2500 : 60);
            }
        }

        int limit() {
            if (draw(40) == 0) {
                return new int[] {-1, 1000, 999, 0}[draw(4)];
            }
            switch (style) {
                case 0:
                    return draw(10);
                case 1:
                    return draw(60);
                case 2:
                    return draw(400);
                default:
                    return draw(1000);
            }
        }

        char letter(int members) {
            return draw(40) == 0 ? (char) ('a' + draw(10)) : (char) ('a' + draw(members));
        }

        String digits(int n, int value) {
            String s = "0000" + Math.max(0, value);
            s = s.substring(s.length() - n);
            if (draw(150) == 0) {
                int k = draw(n);
                s = s.substring(0, k) + "x/:a\u0000\u00ff".charAt(draw(6)) + s.substring(k + 1);
            }
            return s;
        }

        String letters(int members) {
            char a = letter(members);
            char b = letter(members);
            for (int i = 0; i < 4 && a == b && draw(30) != 0; i++) {
                b = letter(members);
            }
            return "" + a + b;
        }

        String clubText() {
            int n = draw(5) == 0 ? 2 + draw(7) : 3 + draw(6);
            StringBuilder b = new StringBuilder().append(draw(50) == 0 ? "0" + n : "" + n);
            int lines = draw(16);
            boolean[] told = new boolean[64];
            for (int i = 0; i < lines; i++) {
                String pair = letters(Math.min(n, 8));
                int place = (pair.charAt(0) - 'a') * 8 + (pair.charAt(1) - 'a');
                if (place >= 0 && place < 64 && told[place] && draw(30) != 0) {
                    continue;
                }
                if (place >= 0 && place < 64) {
                    told[place] = true;
                }
                b.append(pair).append(digits(3, limit()));
            }
            return cutSometimes(b.toString());
        }

        String paymentsText(int most) {
            StringBuilder b = new StringBuilder();
            int many = draw(most + 1) + (draw(25) == 0 ? 2 : 0);
            for (int i = 0; i < many; i++) {
                b.append(letters(model.state.n)).append(digits(4, sum()));
            }
            return cutSometimes(b.toString());
        }

        String dayText() {
            StringBuilder b = new StringBuilder();
            int many = draw(9);
            for (int i = 0; i < many; i++) {
                char kind = "pppwwlfshmgkx".charAt(draw(30) == 0 ? 12 : draw(12));
                b.append(kind);
                switch (kind) {
                    case 'p': case 'w': case 'f': case 'h':
                        b.append(letters(model.state.n)).append(digits(4, sum()));
                        break;
                    case 'l':
                        b.append(letters(model.state.n)).append(digits(3, limit()));
                        break;
                    case 'm': case 'g':
                        b.append(digits(1, draw(5)));
                        break;
                    case 'k':
                        b.append(letter(model.state.n)).append(digits(3, limit()));
                        break;
                    default:
                        break;
                }
            }
            return cutSometimes(b.toString());
        }

        String cutSometimes(String s) {
            if (s.length() > 80) {
                s = s.substring(0, 80);
            }
            return draw(25) == 0 ? s.substring(0, draw(s.length() + 1)) : s;
        }

        List<String> tell(String s, String then) {
            List<String> calls = new ArrayList<>();
            if (draw(10) != 0 || model.text.length() > 0) {
                calls.add("end 0");
            }
            for (int i = 0; i < s.length(); i += 4) {
                int v = 0;
                for (int k = 0; k < 4; k++) {
                    v = v << 8 | (i + k < s.length() ? s.charAt(i + k) & 255 : draw(256));
                }
                calls.add("sign " + v);
            }
            if (s.length() % 4 != 0 || draw(2) == 0) {
                calls.add("end " + s.length());
            }
            calls.add(then);
            return calls;
        }

        /** Lines between nearly all; kept and brought again, so that undo() does not take them away. */
        List<String> fullMesh() {
            int n = 3 + draw(6);
            List<String> calls = tell("" + n, "club");
            int[] base = {4, 40, 200, 900};
            int[] step = {3, 12, 60, 90};
            for (int m = 0; m < n; m++) {
                if (draw(4) == 0) {
                    calls.add("sheet " + m + " " + (style == 0 ? draw(3) : 1 + draw(2)) + " " + (n - 1) + " " + draw(base[style]) + " " + draw(step[style]));
                } else {
                    for (int k = 0; k < n; k++) {
                        calls.add("limits " + m + " " + k + " " + (draw(3) == 0 ? 0 : draw(base[style])));
                    }
                }
            }
            if (draw(4) != 0) {
                calls.add("keep " + draw(2));
                calls.add("again 0");
                calls.add("again 1");
            }
            return calls;
        }

        /** A place at which a payment is held, if there is one; now and then another. */
        int place() {
            int start = draw(4);
            for (int i = 0; i < 4 && draw(12) != 0; i++) {
                if (model.state.holds[(start + i) % 4] != null) {
                    return (start + i) % 4;
                }
            }
            return draw(9) == 0 ? random.nextInt() : draw(6) - 1;
        }

        List<String> nextCalls() {
            if (!started) {
                started = true;
                return draw(3) == 0 ? tell(clubText(), "club") : fullMesh();
            }
            int k = draw(100);
            if (k < 22) {
                return List.of("pays " + two() + " " + sum());
            }
            if (k < 30) {
                return List.of("whole " + two() + " " + sum());
            }
            if (k < 35) {
                return tell(dayText(), "day");
            }
            if (k < 38) {
                return tell(paymentsText(8), "batch");
            }
            if (k < 40) {
                return tell(paymentsText(5), "orders");
            }
            if (k < 44) {
                return List.of("holds " + two() + " " + (draw(2) == 0 ? 1 + draw(3) : sum()));
            }
            if (k < 45) {
                return draw(4) == 0 ? draw(2) == 0 ? tell(clubText(), "club") : fullMesh() : List.of("count 4");
            }
            if (k < 46 && draw(6) == 0) {
                List<String> calls = new ArrayList<>();
                for (int i = 0; i < 22; i++) {
                    calls.add("sign " + random.nextInt());
                }
                return calls;
            }
            return List.of(single());
        }

        String single() {
            switch (draw(37)) {
                case 0: return "line " + two();
                case 1: return "net " + member();
                case 2: return "debts";
                case 3: return "way " + two() + " " + sum();
                case 4: return "reach " + member() + " " + sum();
                case 5: return "most " + two();
                case 6: return "ring";
                case 7: return "rings";
                case 8: return "holds " + two() + " " + (draw(2) == 0 ? 1 + draw(3) : sum());
                case 9: return "makes " + place();
                case 10: return "letsGo " + place();
                case 11: return "held " + place() + " " + (draw(12) == 0 ? draw(6) - 1 : draw(4));
                case 12: return "mostThen " + two() + " " + (draw(20) == 0 ? draw(4) - 1 : draw(2));
                case 13: return draw(3) == 0 || model.state.firstRing() != null ? "settles" : "rings";
                case 14: return "raise " + two() + " " + sum();
                case 15: return "fails " + member();
                case 16: return "worst";
                case 17: return "enough " + member();
                case 18: return "without " + two() + " " + member();
                case 19: return "key " + two();
                case 20: return "were " + two() + " " + two() + " " + limit();
                case 21: return "both " + two() + " " + sum() + " " + two() + " " + sum();
                case 22: return "limits " + two() + " " + limit();
                case 23: return "stocks " + member() + " " + limit();
                case 24: return draw(2) == 0 ? "lets " + two() + " " + sum() : owedLets();
                case 25: return draw(3) != 0 ? "ring" : "leaves " + member();
                case 26: return draw(3) != 0 ? "debts" : "undo";
                case 27: return "years " + random.nextInt() + " " + (draw(10) == 0 ? draw(34) - 1 : 1 + draw(30));
                case 28: return "keep " + (draw(4) - 1);
                case 29: return draw(3) == 0 ? "again " + (draw(4) - 1) : "count 7";
                case 30: return "count " + (draw(11) - 1);
                case 31: return "row " + (draw(8) - 1);
                case 32: return "sheet " + member() + " " + (draw(6) - 1) + " " + (draw(10) - 1) + " " + limit() + " " + (draw(9) - 4);
                case 33: return "sheet " + member() + " " + draw(3) + " " + new int[] {20, 21, 7, 3, -5}[draw(5)] + " "
                        + random.nextInt() + " " + random.nextInt();
                case 34: return "sheet " + member() + " " + draw(2) + " " + draw(model.state.n) + " " + (256 * 256 * draw(9) + draw(90)) + " 65536";
                case 35: return "end " + (draw(90) - 5);
                default: return "sign " + random.nextInt();
            }
        }

        /** Some of a debt that there is, or one more than that. */
        String owedLets() {
            int start = draw(64);
            for (int i = 0; i < 64; i++) {
                int u = (start + i) % 64 / 8;
                int v = (start + i) % 8;
                if (model.state.owes[u][v] > 0) {
                    return "lets " + u + " " + v + " " + (1 + draw(model.state.owes[u][v] + 1));
                }
            }
            return "lets " + two() + " 1";
        }

        String rowOfClass() {
            List<Long> numbers = new ArrayList<>();
            int many = club.count(5);
            for (int i = 0; i < many; i++) {
                numbers.add(club.row(i));
            }
            return numbers.toString();
        }

        long ask(boolean ofModel, String call) {
            String[] words = call.split(" ");
            int[] a = new int[6];
            for (int i = 1; i < words.length; i++) {
                a[i - 1] = Integer.parseInt(words[i]);
            }
            try {
                return ofModel ? askModel(words[0], a) : askClass(words[0], a);
            } catch (NoSuchElementException e) {
                return THROWS;
            }
        }

        long askClass(String name, int[] a) {
            switch (name) {
                case "sign": return club.sign(a[0]);
                case "end": return club.end(a[0]) ? 1 : 0;
                case "club": return club.club();
                case "sheet": return club.sheet(a[0], a[1], a[2], a[3], a[4]);
                case "line": return club.line(a[0], a[1]);
                case "net": return club.net(a[0]);
                case "debts": return club.debts();
                case "way": return club.way(a[0], a[1], a[2]);
                case "reach": return club.reach(a[0], a[1]);
                case "most": return club.most(a[0], a[1]);
                case "ring": return club.ring();
                case "rings": return club.rings();
                case "pays": return club.pays(a[0], a[1], a[2]);
                case "whole": return club.whole(a[0], a[1], a[2]);
                case "holds": return club.holds(a[0], a[1], a[2]);
                case "makes": return club.makes(a[0]);
                case "letsGo": return club.letsGo(a[0]);
                case "held": return club.held(a[0], a[1]);
                case "mostThen": return club.mostThen(a[0], a[1], a[2]);
                case "batch": return club.batch();
                case "orders": return club.orders();
                case "settles": return club.settles();
                case "raise": return club.raise(a[0], a[1], a[2]);
                case "fails": return club.fails(a[0]);
                case "worst": return club.worst();
                case "enough": return club.enough(a[0]);
                case "without": return club.without(a[0], a[1], a[2]);
                case "key": return club.key(a[0], a[1]);
                case "were": return club.were(a[0], a[1], a[2], a[3], a[4]);
                case "both": return club.both(a[0], a[1], a[2], a[3], a[4], a[5]);
                case "limits": return club.limits(a[0], a[1], a[2]);
                case "stocks": return club.stocks(a[0], a[1]);
                case "lets": return club.lets(a[0], a[1], a[2]);
                case "leaves": return club.leaves(a[0]);
                case "day": return club.day();
                case "undo": return club.undo();
                case "years": return club.years(a[0], a[1]);
                case "keep": return club.keep(a[0]) ? 1 : 0;
                case "again": return club.again(a[0]) ? 1 : 0;
                case "count": return club.count(a[0]);
                case "row": return club.row(a[0]);
                default: throw new IllegalArgumentException(name);
            }
        }

        long askModel(String name, int[] a) {
            switch (name) {
                case "sign": return model.sign(a[0]);
                case "end": return model.end(a[0]) ? 1 : 0;
                case "club": return model.club();
                case "sheet": return model.sheet(a[0], a[1], a[2], a[3], a[4]);
                case "line": return model.line(a[0], a[1]);
                case "net": return model.net(a[0]);
                case "debts": return model.debts();
                case "way": return model.way(a[0], a[1], a[2]);
                case "reach": return model.reach(a[0], a[1]);
                case "most": return model.most(a[0], a[1]);
                case "ring": return model.ring();
                case "rings": return model.rings();
                case "undo": return model.undo();
                case "years": return model.years(a[0], a[1]);
                case "held": return model.held(a[0], a[1]);
                case "mostThen": return model.mostThen(a[0], a[1], a[2]);
                case "batch": return model.batch();
                case "orders": return model.orders();
                case "raise": return model.raise(a[0], a[1], a[2]);
                case "fails": return model.fails(a[0]);
                case "worst": return model.worst();
                case "enough": return model.enough(a[0]);
                case "without": return model.without(a[0], a[1], a[2]);
                case "key": return model.key(a[0], a[1]);
                case "were": return model.were(a[0], a[1], a[2], a[3], a[4]);
                case "both": return model.both(a);
                case "leaves": return model.change("leaves", a);
                case "day": return model.day();
                case "keep": return model.keep(a[0]) ? 1 : 0;
                case "again": return model.again(a[0]) ? 1 : 0;
                case "count": return model.count(a[0]);
                case "row":
                    if (a[0] < 0 || a[0] >= model.row.size()) {
                        throw new NoSuchElementException();
                    }
                    return model.row.get(a[0]);
                default: return model.change(name, a);
            }
        }
    }

    private static final class Hold {
        final int from;
        final int to;
        final int sum;
        final int[][] flow;

        Hold(int from, int to, int sum, int[][] flow) {
            this.from = from;
            this.to = to;
            this.sum = sum;
            this.flow = flow;
        }
    }

    private static final class State {
        int n = 2;
        int[][] limit = new int[8][8];
        int[][] owes = new int[8][8];
        int[] stock = new int[8];
        Hold[] holds = new Hold[4];
        int barred = -1;

        State copy() {
            State s = new State();
            s.n = n;
            for (int i = 0; i < 8; i++) {
                s.limit[i] = limit[i].clone();
                s.owes[i] = owes[i].clone();
            }
            s.stock = stock.clone();
            s.holds = holds.clone();
            s.barred = barred;
            return s;
        }

        int heldFrom(int u, int v) {
            int sum = 0;
            for (Hold h : holds) {
                sum += h == null ? 0 : h.flow[u][v];
            }
            return sum;
        }

        int room(int u, int v) {
            return limit[v][u] - owes[u][v] + owes[v][u] - heldFrom(u, v);
        }

        void straight(int u, int v, int x) {
            int off = Math.min(x, owes[v][u]);
            owes[v][u] -= off;
            owes[u][v] += x - off;
        }

        int allOwe() {
            return Arrays.stream(owes).flatMapToInt(Arrays::stream).sum();
        }

        boolean anyHeld() {
            return Arrays.stream(holds).anyMatch(h -> h != null);
        }

        /** The FIRST WAY for x, by all that there are of each number of members, in their order. */
        List<Integer> firstWay(int s, int t, int x) {
            for (int length = 2; length <= n; length++) {
                List<Integer> path = new ArrayList<>(List.of(s));
                if (extend(path, t, x, length)) {
                    return path;
                }
            }
            return null;
        }

        private boolean extend(List<Integer> path, int t, int x, int length) {
            int last = path.get(path.size() - 1);
            if (path.size() == length) {
                return last == t;
            }
            for (int v = 0; v < n; v++) {
                if (v != barred && !path.contains(v) && room(last, v) >= x) {
                    path.add(v);
                    if (extend(path, t, x, length)) {
                        return true;
                    }
                    path.remove(path.size() - 1);
                }
            }
            return false;
        }

        /** The most that one way alone lets through. */
        int widest(int here, int t, int used, int soFar) {
            if (here == t) {
                return soFar;
            }
            int best = 0;
            for (int v = 0; v < n; v++) {
                int r = Math.min(soFar, room(here, v));
                if ((used >> v & 1) == 0 && r > best) {
                    best = Math.max(best, widest(v, t, used | 1 << v, r));
                }
            }
            return best;
        }

        /** PARTS, each {members, sum}, made in this very state till x went or there is no way. */
        List<int[]> parts(int s, int t, int x, int[][] flow) {
            List<int[]> parts = new ArrayList<>();
            int left = x;
            while (left > 0) {
                List<Integer> way = firstWay(s, t, 1);
                if (way == null) {
                    break;
                }
                int part = left;
                for (int i = 1; i < way.size(); i++) {
                    part = Math.min(part, room(way.get(i - 1), way.get(i)));
                }
                for (int i = 1; i < way.size(); i++) {
                    straight(way.get(i - 1), way.get(i), part);
                    if (flow != null) {
                        flow[way.get(i - 1)][way.get(i)] += part;
                    }
                }
                parts.add(new int[] {way.size(), part});
                left -= part;
            }
            return parts;
        }

        int most(int s, int t) {
            return total(copy().parts(s, t, Integer.MAX_VALUE, null));
        }

        State paid(int s, int t, int x) {
            State c = copy();
            return total(c.parts(s, t, x, null)) == x ? c : null;
        }

        List<Integer> firstRing() {
            for (int length = 3; length <= n; length++) {
                for (int s = 0; s < n; s++) {
                    List<Integer> path = new ArrayList<>(List.of(s));
                    if (ringOn(path, length)) {
                        return path;
                    }
                }
            }
            return null;
        }

        private boolean ringOn(List<Integer> path, int length) {
            int last = path.get(path.size() - 1);
            if (path.size() == length) {
                return owes[last][path.get(0)] > 0;
            }
            for (int v = path.get(0) + 1; v < n; v++) {
                if (!path.contains(v) && owes[last][v] > 0) {
                    path.add(v);
                    if (ringOn(path, length)) {
                        return true;
                    }
                    path.remove(path.size() - 1);
                }
            }
            return false;
        }

        int ringLeast(List<Integer> ring) {
            int least = Integer.MAX_VALUE;
            for (int i = 0; i < ring.size(); i++) {
                least = Math.min(least, owes[ring.get(i)][ring.get((i + 1) % ring.size())]);
            }
            return least;
        }

        int settle() {
            int many = 0;
            for (List<Integer> ring = firstRing(); ring != null; ring = firstRing()) {
                int least = ringLeast(ring);
                for (int i = 0; i < ring.size(); i++) {
                    owes[ring.get(i)][ring.get((i + 1) % ring.size())] -= least;
                }
                many++;
            }
            return many;
        }

        int loss(int v, int failed) {
            int loss = 0;
            for (int u = 0; u < n; u++) {
                loss += (failed >> u & 1) == 1 ? owes[u][v] : 0;
            }
            return loss;
        }

        /** {failed, rounds}. */
        int[] failing(int m) {
            int failed = 1 << m;
            int rounds = 0;
            while (true) {
                int next = failed;
                for (int v = 0; v < n; v++) {
                    if (loss(v, failed) > stock[v]) {
                        next |= 1 << v;
                    }
                }
                if (next == failed) {
                    return new int[] {failed, rounds};
                }
                failed = next;
                rounds++;
            }
        }

        void makeHold(int place) {
            Hold h = holds[place];
            holds[place] = null;
            for (int u = 0; u < n; u++) {
                for (int v = 0; v < n; v++) {
                    if (h.flow[u][v] > 0) {
                        straight(u, v, h.flow[u][v]);
                    }
                }
            }
        }
    }

    private static int total(List<int[]> parts) {
        int sum = 0;
        for (int[] part : parts) {
            sum += part[1];
        }
        return sum;
    }

    private static final class Model {
        State state = new State();
        String text = "";
        List<Long> row = new ArrayList<>();
        final List<State> past = new ArrayList<>();
        final State[] kept = new State[2];

        void tell(long... numbers) {
            row = new ArrayList<>();
            for (long number : numbers) {
                row.add(number);
            }
        }

        boolean is(int m) {
            return m >= 0 && m < state.n;
        }

        boolean pair(int a, int b) {
            return is(a) && is(b) && a != b;
        }

        boolean payment(int a, int b, int x) {
            return pair(a, b) && x >= 1 && x <= 9999;
        }

        void remember(State s) {
            past.add(s);
            if (past.size() > 8) {
                past.remove(0);
            }
        }

        int sign(int v) {
            if (text.length() + 4 > 80) {
                return -1;
            }
            text += "" + (char) (v >>> 24) + (char) (v >>> 16 & 255) + (char) (v >>> 8 & 255) + (char) (v & 255);
            return text.length();
        }

        boolean end(int n) {
            if (n < 0 || n > text.length()) {
                return false;
            }
            text = text.substring(0, n);
            return true;
        }

        boolean fits(String s, int p, char from, char to) {
            return p < s.length() && s.charAt(p) >= from && s.charAt(p) <= to;
        }

        int club() {
            String s = text;
            text = "";
            if (!fits(s, 0, '2', '8')) {
                return -1;
            }
            State c = new State();
            c.n = s.charAt(0) - '0';
            List<String> told = new ArrayList<>();
            char last = (char) ('a' + c.n - 1);
            for (int p = 1; p < s.length(); p += 5) {
                if (!fits(s, p, 'a', last)) {
                    return -1 - p;
                }
                if (!fits(s, p + 1, 'a', last) || s.charAt(p) == s.charAt(p + 1) || told.contains(s.substring(p, p + 2))) {
                    return -2 - p;
                }
                for (int i = 2; i < 5; i++) {
                    if (!fits(s, p + i, '0', '9')) {
                        return -1 - p - i;
                    }
                }
                told.add(s.substring(p, p + 2));
                c.limit[s.charAt(p) - 'a'][s.charAt(p + 1) - 'a'] = Integer.parseInt(s.substring(p + 2, p + 5));
            }
            remember(state);
            state = c;
            return told.size();
        }

        int sheet(int from, int kind, int n, int f, int step) {
            if (!is(from) || kind < 0 || kind > 3 || n > 20) {
                return -1;
            }
            if (state.anyHeld()) {
                return -5;
            }
            if (kind == 3) {
                return -3;
            }
            if (n < 0) {
                return -2;
            }
            List<Integer> others = new ArrayList<>();
            for (int m = 0; m < state.n; m++) {
                if (m != from) {
                    others.add(m);
                }
            }
            State c = state.copy();
            int changed = 0;
            int v = f;
            for (int i = 0; i < n; i++, v += step) {
                int e = kind == 0 ? (byte) v : kind == 1 ? (short) v : v;
                int why = i >= others.size() ? 1 : e < 0 || e > 999 ? 2 : e < state.owes[others.get(i)][from] ? 3 : 0;
                if (why != 0) {
                    tell(i, why);
                    return -4;
                }
                changed += c.limit[from][others.get(i)] != e ? 1 : 0;
                c.limit[from][others.get(i)] = e;
            }
            state = c;
            return changed;
        }

        int line(int from, int to) {
            if (!pair(from, to)) {
                return -1;
            }
            tell(state.owes[to][from], state.room(to, from), state.heldFrom(to, from));
            return state.limit[from][to];
        }

        int net(int m) {
            if (!is(m)) {
                throw new NoSuchElementException();
            }
            int sum = 0;
            for (int i = 0; i < state.n; i++) {
                sum += state.owes[i][m] - state.owes[m][i];
            }
            return sum;
        }

        int debts() {
            int pairs = 0;
            int who = -1;
            int most = 0;
            for (int u = 0; u < state.n; u++) {
                int sum = Arrays.stream(state.owes[u]).sum();
                pairs += (int) Arrays.stream(state.owes[u]).filter(x -> x > 0).count();
                if (sum > most) {
                    most = sum;
                    who = u;
                }
            }
            tell(pairs, who, most);
            return state.allOwe();
        }

        void tellMembers(List<Integer> members) {
            row = new ArrayList<>();
            for (int m : members) {
                row.add((long) m);
            }
        }

        int way(int from, int to, int x) {
            if (!payment(from, to, x)) {
                return -1;
            }
            List<Integer> way = state.firstWay(from, to, x);
            if (way == null) {
                return -2;
            }
            tellMembers(way);
            return way.size();
        }

        int reachBits(State s, int from, int x) {
            int bits = 0;
            for (int v = 0; v < s.n; v++) {
                bits |= v != from && s.firstWay(from, v, x) != null ? 1 << v : 0;
            }
            return bits;
        }

        int reach(int from, int x) {
            if (!is(from) || x < 1 || x > 9999) {
                return -1;
            }
            int bits = reachBits(state, from, x);
            tell(Integer.bitCount(bits));
            return bits;
        }

        int most(int from, int to) {
            if (!pair(from, to)) {
                return -1;
            }
            State c = state.copy();
            List<int[]> parts = c.parts(from, to, Integer.MAX_VALUE, null);
            int longest = 0;
            for (int[] part : parts) {
                longest = Math.max(longest, part[0]);
            }
            tell(reachBits(c, from, 1) | 1 << from, parts.size(), longest);
            return total(parts);
        }

        int ring() {
            List<Integer> ring = state.firstRing();
            if (ring == null) {
                return -2;
            }
            tellMembers(ring);
            row.add((long) state.ringLeast(ring));
            return ring.size();
        }

        int rings() {
            State c = state.copy();
            int many = c.settle();
            tell(c.allOwe());
            return many;
        }

        /** A change as day() and the face make it: the state is another object behind it. */
        int act(String name, int[] a) {
            State c = state.copy();
            int answer = acted(c, name, a);
            if (answer >= 0) {
                state = c;
            }
            return answer;
        }

        int change(String name, int[] a) {
            State ahead = state;
            int answer = act(name, a);
            if (answer >= 0) {
                remember(ahead);
            }
            return answer;
        }

        int acted(State c, String name, int[] a) {
            switch (name) {
                case "pays": return pays(c, a[0], a[1], a[2]);
                case "whole": return whole(c, a[0], a[1], a[2]);
                case "holds": return holds(c, a[0], a[1], a[2]);
                case "makes":
                case "letsGo":
                    if (a[0] < 0 || a[0] > 3 || c.holds[a[0]] == null) {
                        return -1;
                    }
                    int sum = c.holds[a[0]].sum;
                    if (name.equals("makes")) {
                        c.makeHold(a[0]);
                    } else {
                        c.holds[a[0]] = null;
                    }
                    return sum;
                case "settles":
                    if (c.anyHeld()) {
                        return -5;
                    }
                    int owed = c.allOwe();
                    int many = c.settle();
                    if (many == 0) {
                        return -2;
                    }
                    tell(owed - c.allOwe());
                    return many;
                case "limits":
                    if (!pair(a[0], a[1]) || a[2] < 0 || a[2] > 999) {
                        return -1;
                    }
                    if (c.anyHeld()) {
                        return -5;
                    }
                    int was = c.limit[a[0]][a[1]];
                    c.limit[a[0]][a[1]] = a[2];
                    return was == a[2] ? -2 : c.owes[a[1]][a[0]] > a[2] ? -4 : was;
                case "stocks":
                    if (!is(a[0]) || a[1] < 0 || a[1] > 999) {
                        return -1;
                    }
                    int had = c.stock[a[0]];
                    c.stock[a[0]] = a[1];
                    return had == a[1] ? -2 : had;
                case "lets":
                    if (!payment(a[0], a[1], a[2])) {
                        return -1;
                    }
                    if (c.anyHeld()) {
                        return -5;
                    }
                    c.owes[a[0]][a[1]] -= a[2];
                    return c.owes[a[0]][a[1]] < 0 ? -4 : c.owes[a[0]][a[1]];
                case "leaves": return leaves(c, a[0]);
                default: throw new IllegalArgumentException(name);
            }
        }

        int pays(State c, int from, int to, int x) {
            if (!payment(from, to, x)) {
                return -1;
            }
            List<int[]> parts = c.parts(from, to, x, null);
            if (total(parts) < x) {
                tell(state.most(from, to));
                return -4;
            }
            row = new ArrayList<>();
            for (int[] part : parts) {
                row.add((long) part[0]);
                row.add((long) part[1]);
            }
            return parts.size();
        }

        int whole(State c, int from, int to, int x) {
            if (!payment(from, to, x)) {
                return -1;
            }
            List<Integer> way = c.firstWay(from, to, x);
            if (way == null) {
                tell(c.widest(from, to, 1 << from, Integer.MAX_VALUE));
                return -4;
            }
            for (int i = 1; i < way.size(); i++) {
                c.straight(way.get(i - 1), way.get(i), x);
            }
            tellMembers(way);
            return way.size();
        }

        int holds(State c, int from, int to, int x) {
            if (!payment(from, to, x)) {
                return -1;
            }
            int place = 0;
            while (place < 4 && c.holds[place] != null) {
                place++;
            }
            if (place == 4) {
                return -3;
            }
            int[][] gross = new int[8][8];
            List<int[]> parts = state.copy().parts(from, to, x, gross);
            if (total(parts) < x) {
                tell(state.most(from, to));
                return -4;
            }
            int[][] flow = new int[8][8];
            for (int u = 0; u < 8; u++) {
                for (int v = 0; v < 8; v++) {
                    flow[u][v] = Math.max(0, gross[u][v] - gross[v][u]);
                }
            }
            c.holds[place] = new Hold(from, to, x, flow);
            tell(parts.size());
            return place;
        }

        int leaves(State c, int m) {
            if (!is(m)) {
                return -1;
            }
            if (c.anyHeld()) {
                return -5;
            }
            int had = 0;
            for (int i = 0; i < c.n; i++) {
                if (c.owes[i][m] + c.owes[m][i] > 0) {
                    return -4;
                }
                had += (c.limit[i][m] > 0 ? 1 : 0) + (c.limit[m][i] > 0 ? 1 : 0);
                c.limit[i][m] = 0;
                c.limit[m][i] = 0;
            }
            return had;
        }

        int held(int place, int what) {
            if (place < 0 || place > 3 || state.holds[place] == null || what < 0 || what > 3) {
                throw new NoSuchElementException();
            }
            Hold h = state.holds[place];
            int steps = 0;
            for (int[] line : h.flow) {
                for (int x : line) {
                    steps += x > 0 ? 1 : 0;
                }
            }
            return new int[] {h.from, h.to, h.sum, steps}[what];
        }

        int mostThen(int from, int to, int what) {
            if (!pair(from, to) || what < 0 || what > 1) {
                return -1;
            }
            State c = state.copy();
            for (int i = 0; i < 4; i++) {
                if (c.holds[i] != null) {
                    if (what == 0) {
                        c.makeHold(i);
                    }
                    c.holds[i] = null;
                }
            }
            return c.most(from, to);
        }

        /** The payments that a text tells, {from, to, sum} each; or one that is {-1 - p}. */
        List<int[]> payments(String s, int most) {
            List<int[]> list = new ArrayList<>();
            char last = (char) ('a' + state.n - 1);
            for (int p = 0; p < s.length(); p += 6) {
                int fault = -1;
                if (list.size() == most || !fits(s, p, 'a', last)) {
                    fault = p;
                } else if (!fits(s, p + 1, 'a', last) || s.charAt(p) == s.charAt(p + 1)) {
                    fault = p + 1;
                }
                for (int i = 2; i < 6 && fault < 0; i++) {
                    if (!fits(s, p + i, '0', '9')) {
                        fault = p + i;
                    }
                }
                if (fault < 0 && s.startsWith("0000", p + 2)) {
                    fault = p + 5;
                }
                if (fault >= 0) {
                    return List.of(new int[] {-1 - fault});
                }
                list.add(new int[] {s.charAt(p) - 'a', s.charAt(p + 1) - 'a', Integer.parseInt(s.substring(p + 2, p + 6))});
            }
            return list;
        }

        int batch() {
            List<int[]> list = payments(text, 8);
            text = "";
            if (list.size() == 1 && list.get(0).length == 1) {
                return list.get(0)[0];
            }
            State c = state;
            for (int k = 0; k < list.size(); k++) {
                int[] p = list.get(k);
                State next = c.paid(p[0], p[1], p[2]);
                if (next == null) {
                    tell(c.most(p[0], p[1]));
                    return -100 - k;
                }
                c = next;
            }
            if (!list.isEmpty()) {
                remember(state);
                state = c;
            }
            return list.size();
        }

        int orders() {
            List<int[]> list = payments(text, 5);
            text = "";
            if (list.size() == 1 && list.get(0).length == 1) {
                return list.get(0)[0];
            }
            List<List<Integer>> all = new ArrayList<>();
            permute(list.size(), new ArrayList<>(), all);
            List<Integer> first = null;
            int many = 0;
            for (List<Integer> order : all) {
                State c = state;
                for (int k : order) {
                    c = c == null ? null : c.paid(list.get(k)[0], list.get(k)[1], list.get(k)[2]);
                }
                if (c != null) {
                    first = first == null ? order : first;
                    many++;
                }
            }
            if (many == 0) {
                return -200;
            }
            tellMembers(first);
            row.add((long) many);
            return list.size();
        }

        void permute(int n, List<Integer> soFar, List<List<Integer>> all) {
            if (soFar.size() == n) {
                all.add(new ArrayList<>(soFar));
                return;
            }
            for (int k = 0; k < n; k++) {
                if (!soFar.contains(k)) {
                    soFar.add(k);
                    permute(n, soFar, all);
                    soFar.remove(soFar.size() - 1);
                }
            }
        }

        int raise(int from, int to, int x) {
            if (!payment(from, to, x)) {
                return -1;
            }
            if (state.most(from, to) >= x) {
                return -2;
            }
            int best = Integer.MAX_VALUE;
            int which = -3;
            for (int a = 0; a < state.n; a++) {
                for (int b = 0; b < state.n; b++) {
                    if (a == b) {
                        continue;
                    }
                    State c = state.copy();
                    c.limit[a][b] = 999;
                    if (c.most(from, to) < x) {
                        continue;
                    }
                    int low = state.limit[a][b];
                    int high = 999;
                    while (high - low > 1) {
                        int middle = (low + high) / 2;
                        c.limit[a][b] = middle;
                        if (c.most(from, to) >= x) {
                            high = middle;
                        } else {
                            low = middle;
                        }
                    }
                    if (high - state.limit[a][b] < best) {
                        best = high - state.limit[a][b];
                        which = 10 * a + b;
                    }
                }
            }
            if (which >= 0) {
                tell(best);
            }
            return which;
        }

        long[] losses(int failed) {
            long all = 0;
            long rest = 0;
            for (int v = 0; v < state.n; v++) {
                all += state.loss(v, failed);
                rest += (failed >> v & 1) == 0 ? state.loss(v, failed) : 0;
            }
            return new long[] {all, rest};
        }

        int fails(int m) {
            if (!is(m)) {
                return -1;
            }
            int[] f = state.failing(m);
            long[] losses = losses(f[0]);
            tell(f[0], losses[0], losses[1]);
            return f[1];
        }

        int worst() {
            int who = -2;
            long most = 0;
            int besides = 0;
            for (int m = 0; m < state.n; m++) {
                int[] f = state.failing(m);
                if (losses(f[0])[0] > most) {
                    most = losses(f[0])[0];
                    who = m;
                    besides = Integer.bitCount(f[0]) - 1;
                }
            }
            if (who >= 0) {
                tell(most, besides);
            }
            return who;
        }

        int enough(int m) {
            if (!is(m)) {
                return -1;
            }
            if (state.failing(m)[0] == 1 << m) {
                return -2;
            }
            for (int k = 0; k < state.n; k++) {
                State c = state.copy();
                c.stock[k] = 1000000;
                if (k == m || c.failing(m)[0] != 1 << m) {
                    continue;
                }
                int more = 0;
                do {
                    more++;
                    c.stock[k] = state.stock[k] + more;
                } while (c.failing(m)[0] != 1 << m);
                tell(more);
                return k;
            }
            return -3;
        }

        int mostWithout(int from, int to, int m) {
            State c = state.copy();
            c.barred = m;
            return c.most(from, to);
        }

        int without(int from, int to, int m) {
            if (!pair(from, to) || !is(m) || m == from || m == to) {
                return -1;
            }
            int sum = mostWithout(from, to, m);
            tell(state.most(from, to) - sum);
            return sum;
        }

        int key(int from, int to) {
            if (!pair(from, to)) {
                return -1;
            }
            int who = -2;
            int least = Integer.MAX_VALUE;
            for (int m = 0; m < state.n; m++) {
                if (m != from && m != to && mostWithout(from, to, m) < least) {
                    who = m;
                    least = mostWithout(from, to, m);
                }
            }
            if (who >= 0) {
                tell(least);
            }
            return who;
        }

        int were(int from, int to, int a, int b, int v) {
            if (!pair(from, to) || !pair(a, b) || v < 0 || v > 999) {
                return -1;
            }
            if (v < state.owes[b][a]) {
                return -4;
            }
            State c = state.copy();
            c.limit[a][b] = v;
            return c.most(from, to);
        }

        int both(int[] a) {
            if (!payment(a[0], a[1], a[2]) || !payment(a[3], a[4], a[5])) {
                return -1;
            }
            State one = state.paid(a[0], a[1], a[2]);
            State two = state.paid(a[3], a[4], a[5]);
            boolean first = one != null && one.paid(a[3], a[4], a[5]) != null;
            boolean second = two != null && two.paid(a[0], a[1], a[2]) != null;
            tell(one == null ? -1 : one.most(a[3], a[4]));
            return (first ? 1 : 0) + (second ? 2 : 0);
        }

        int day() {
            String s = text;
            text = "";
            List<String> names = new ArrayList<>();
            List<int[]> arguments = new ArrayList<>();
            int p = 0;
            while (p < s.length()) {
                int kind = "pwlfshmgk".indexOf(s.charAt(p));
                if (kind < 0) {
                    return -1 - p;
                }
                int letters = new int[] {2, 2, 2, 2, 0, 2, 0, 0, 1}[kind];
                int digits = new int[] {4, 4, 3, 4, 0, 4, 1, 1, 3}[kind];
                int[] a = new int[6];
                for (int i = 1; i <= letters + digits; i++) {
                    if (i <= letters ? !fits(s, p + i, 'a', 'h') : !fits(s, p + i, '0', '9')) {
                        return -1 - p - i;
                    }
                    if (i <= letters) {
                        a[i - 1] = s.charAt(p + i) - 'a';
                    } else {
                        a[letters] = 10 * a[letters] + s.charAt(p + i) - '0';
                    }
                }
                names.add(new String[] {"pays", "whole", "limits", "lets", "settles", "holds", "makes", "letsGo", "stocks"}[kind]);
                arguments.add(a);
                p += 1 + letters + digits;
            }
            State ahead = state;
            int done = 0;
            while (done < names.size() && act(names.get(done), arguments.get(done)) >= 0) {
                done++;
            }
            if (done > 0) {
                remember(ahead);
            }
            tell(done < names.size() ? 1 : 0, state.allOwe());
            return done;
        }

        int undo() {
            if (past.isEmpty()) {
                return -1;
            }
            state = past.remove(past.size() - 1);
            return past.size();
        }

        int years(int seed, int n) {
            if (n < 1 || n > 30) {
                return -1;
            }
            State c = state;
            int[] r = {seed};
            int made = 0;
            for (int i = 0; i < n; i++) {
                int from = draw(r, c.n);
                int to = draw(r, c.n);
                int x = 1 + draw(r, 60);
                State next = from == to ? null : c.paid(from, to, x);
                if (next != null) {
                    c = next;
                    made++;
                }
            }
            c = c.copy();
            int owed = c.allOwe();
            tell(owed, c.settle());
            return made;
        }

        int draw(int[] r, int n) {
            r[0] = r[0] * 1103515245 + 12345;
            return (int) ((r[0] & 0xffffffffL) / 65536 % n);
        }

        boolean keep(int i) {
            if (i < 0 || i > 1) {
                return false;
            }
            kept[i] = state;
            return true;
        }

        boolean again(int i) {
            if (i < 0 || i > 1 || kept[i] == null) {
                return false;
            }
            state = kept[i];
            past.clear();
            return true;
        }

        int count(int what) {
            int lines = 0;
            int limits = 0;
            int bits = 0;
            for (int[] from : state.limit) {
                for (int x : from) {
                    lines += x > 0 ? 1 : 0;
                    limits += x;
                }
            }
            for (int i = 0; i < 4; i++) {
                bits |= state.holds[i] != null ? 1 << i : 0;
            }
            int[] all = {state.n, lines, limits, state.allOwe(), past.size(), row.size(), text.length(), bits,
                Arrays.stream(state.stock).sum()};
            return what < 0 || what > 8 ? -1 : all[what];
        }
    }
}
