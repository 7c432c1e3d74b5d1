import java.util.NoSuchElementException;

/**
 * A club of members who grant one another credit. DOC.md's promises say what each call answers;
 * the words in capitals in the comments are that document's terms.
 */
public final class TrustClub {
    public static final int NONE = -1;

    private static final int MEMBERS_MOST = 8;
    private static final int PAIRS = 64;
    private static final int PLACES = 4;
    private static final int KEEPS = 2;
    private static final int UNDO_MOST = 8;
    private static final int TEXT_MOST = 80;
    private static final int LIMIT_MOST = 999;
    private static final int SUM_MOST = 9999;
    private static final int SHEET_MOST = 20;
    private static final int BATCH_MOST = 8;
    private static final int ORDERS_MOST = 5;
    private static final int YEARS_MOST = 30;

    // By the shortest ways each of the 56 rooms is emptied four times at most: 225 parts.
    private static final int PARTS_MOST = 256;
    private static final int ROW_MOST = 2 * PARTS_MOST;
    // More than all rooms from one member together: "as much as goes".
    private static final int WITHOUT_END = 1000000;

    // The answers below NONE; one number has several meanings.
    private static final int NOTHING = -2;
    private static final int TOO_FEW = -2;
    private static final int NO_SUCH = -3;
    private static final int NO_PLACE = -3;
    private static final int MISSING = -3;
    private static final int IMPOSSIBLE = -4;
    private static final int SOME_HELD = -5;
    private static final int FIRST_UNMADE = -100;
    private static final int NO_ORDER = -200;

    private final Books books;
    private final Books before;
    private final Books trial;
    private final Books[] kept;
    private final boolean[] isKept;
    private final Past past;
    private final Text text;
    private final Acts acts;
    private final Numbers told;
    private final Network network;
    private final Sequences sequences;
    private final Rings ringSearch;
    private final Failing failing;

    public TrustClub() {
        books = new Books();
        before = new Books();
        trial = new Books();
        kept = new Books[KEEPS];
        for (int i = 0; i < KEEPS; i++) {
            kept[i] = new Books();
        }
        isKept = new boolean[KEEPS];
        past = new Past();
        text = new Text();
        acts = new Acts();
        told = new Numbers();
        network = new Network();
        sequences = new Sequences();
        ringSearch = new Rings();
        failing = new Failing();
    }

    // ---- texts

    public int sign(int v) {
        return text.append(v) ? text.length : NONE;
    }

    public boolean end(int n) {
        return text.cutTo(n);
    }

    public int club() {
        int lines = text.readClub(trial);
        text.empty();
        if (lines < 0) {
            return lines;
        }
        past.add(books);
        books.copyFrom(trial);
        return lines;
    }

    public int sheet(int from, int kind, int n, int f, int step) {
        if (!books.has(from) || kind < 0 || kind > 3 || n > SHEET_MOST) {
            return NONE;
        }
        if (books.holdsAny()) {
            return SOME_HELD;
        }
        if (kind == 3) {
            return MISSING;
        }
        if (n < 0) {
            return TOO_FEW;
        }
        for (int i = 0; i < n; i++) {
            int fault = entryFault(from, i, entryOf(kind, f + i * step));
            if (fault != 0) {
                told.tellTwo(i, fault);
                return IMPOSSIBLE;
            }
        }
        int changed = 0;
        for (int i = 0; i < n; i++) {
            int place = at(from, memberOfEntry(from, i));
            int entry = entryOf(kind, f + i * step);
            if (books.limit[place] != entry) {
                books.limit[place] = entry;
                changed++;
            }
        }
        return changed;
    }

    private static int entryOf(int kind, int v) {
        if (kind == 0) {
            return (byte) v;
        }
        return kind == 1 ? (short) v : v;
    }

    private static int memberOfEntry(int from, int i) {
        return i < from ? i : i + 1;
    }

    private int entryFault(int from, int i, int entry) {
        int to = memberOfEntry(from, i);
        if (!books.has(to)) {
            return 1;
        }
        if (entry < 0 || entry > LIMIT_MOST) {
            return 2;
        }
        return entry < books.owed(to, from) ? 3 : 0;
    }

    // ---- what there is

    public int line(int from, int to) {
        if (!books.hasBoth(from, to)) {
            return NONE;
        }
        told.tellThree(books.owed(to, from), books.room(to, from), books.heldBetween(to, from));
        return books.limit[at(from, to)];
    }

    public int net(int member) throws NoSuchElementException {
        if (!books.has(member)) {
            throw new NoSuchElementException("no such member");
        }
        int sum = 0;
        for (int other = 0; other < books.members; other++) {
            sum += books.debt[at(other, member)];
        }
        return sum;
    }

    public int debts() {
        int pairs = 0;
        int most = 0;
        int who = NONE;
        for (int u = 0; u < books.members; u++) {
            int sum = 0;
            for (int v = 0; v < books.members; v++) {
                int owed = books.owed(u, v);
                sum += owed;
                pairs += owed > 0 ? 1 : 0;
            }
            if (sum > most) {
                most = sum;
                who = u;
            }
        }
        told.tellThree(pairs, who, most);
        return books.owedInAll();
    }

    public int way(int from, int to, int x) {
        if (!isPayment(from, to, x)) {
            return NONE;
        }
        network.load(books);
        if (!network.findWay(from, to, x)) {
            return NOTHING;
        }
        tellWay();
        return network.wayLength;
    }

    public int reach(int from, int x) {
        if (!books.has(from) || !isSum(x)) {
            return NONE;
        }
        network.load(books);
        int reached = network.reached(from, x) & ~(1 << from);
        told.tellOne(Integer.bitCount(reached));
        return reached;
    }

    public int most(int from, int to) {
        if (!books.hasBoth(from, to)) {
            return NONE;
        }
        network.load(books);
        int sum = network.send(from, to, WITHOUT_END);
        told.tellThree(network.reached(from, 1), network.parts, network.longestPart());
        return sum;
    }

    public int ring() {
        if (!ringSearch.find(books)) {
            return NOTHING;
        }
        told.begin();
        for (int i = 0; i < ringSearch.many; i++) {
            told.add(ringSearch.memberAt(i));
        }
        told.add(ringSearch.least);
        return ringSearch.many;
    }

    public int rings() {
        trial.copyFrom(books);
        int settled = ringSearch.settleAll(trial);
        told.tellOne(trial.owedInAll());
        return settled;
    }

    // ---- payments

    public int pays(int from, int to, int x) {
        before.copyFrom(books);
        return remembered(paySplit(from, to, x));
    }

    public int whole(int from, int to, int x) {
        before.copyFrom(books);
        return remembered(payWhole(from, to, x));
    }

    public int holds(int from, int to, int x) {
        before.copyFrom(books);
        return remembered(holdPayment(from, to, x));
    }

    public int makes(int place) {
        before.copyFrom(books);
        return remembered(makeHeld(place));
    }

    public int letsGo(int place) {
        before.copyFrom(books);
        return remembered(dropHeld(place));
    }

    public int held(int place, int what) throws NoSuchElementException {
        if (!books.isHeldAt(place) || what < 0 || what > 3) {
            throw new NoSuchElementException("no such held payment");
        }
        Holding holding = books.holdings[place];
        switch (what) {
            case 0:
                return holding.from;
            case 1:
                return holding.to;
            case 2:
                return holding.sum;
            default:
                return holding.steps();
        }
    }

    public int mostThen(int from, int to, int what) {
        if (!books.hasBoth(from, to) || what < 0 || what > 1) {
            return NONE;
        }
        trial.copyFrom(books);
        for (int place = 0; place < PLACES; place++) {
            if (what == 0) {
                trial.makeAt(place);
            } else {
                trial.dropAt(place);
            }
        }
        network.load(trial);
        return network.send(from, to, WITHOUT_END);
    }

    public int batch() {
        int many = acts.readPayments(text, books.members, BATCH_MOST);
        text.empty();
        if (many < 0) {
            return many;
        }
        network.load(books);
        for (int k = 0; k < many; k++) {
            int sent = network.send(acts.first[k], acts.second[k], acts.number[k]);
            if (sent < acts.number[k]) {
                told.tellOne(sent);
                return FIRST_UNMADE - k;
            }
        }
        if (many > 0) {
            past.add(books);
            network.bookIn(books);
        }
        return many;
    }

    public int orders() {
        int many = acts.readPayments(text, books.members, ORDERS_MOST);
        text.empty();
        if (many < 0) {
            return many;
        }
        network.load(books);
        sequences.search(network, acts);
        if (sequences.found == 0) {
            return NO_ORDER;
        }
        told.begin();
        for (int k = 0; k < many; k++) {
            told.add(sequences.firstFound[k]);
        }
        told.add(sequences.found);
        return many;
    }

    public int settles() {
        before.copyFrom(books);
        return remembered(settleRings());
    }

    // ---- what would be

    public int raise(int from, int to, int x) {
        if (!isPayment(from, to, x)) {
            return NONE;
        }
        network.load(books);
        int sum = network.send(from, to, x);
        if (sum >= x) {
            return NOTHING;
        }
        // MOST grows with one LIMIT by one each, or not at all: what is missing is the least
        // raise for each LINE that helps, so the first one of them is meant. Those that do not
        // lead out of the CUT never help.
        int missing = x - sum;
        int cut = network.reached(from, 1);
        for (int v = 0; v < books.members; v++) {
            for (int u = 0; u < books.members; u++) {
                boolean leadsOut = (cut >> u & 1) == 1 && (cut >> v & 1) == 0;
                if (leadsOut && books.limit[at(v, u)] + missing <= LIMIT_MOST
                        && goesIfWider(from, to, x, u, v, missing)) {
                    told.tellOne(missing);
                    return 10 * v + u;
                }
            }
        }
        return NO_SUCH;
    }

    private boolean goesIfWider(int from, int to, int x, int u, int v, int more) {
        network.load(books);
        network.widen(u, v, more);
        return network.send(from, to, x) == x;
    }

    public int fails(int member) {
        if (!books.has(member)) {
            return NONE;
        }
        failing.run(books, member);
        told.tellThree(failing.failed, failing.lossOfAll, failing.lossOfRest);
        return failing.rounds;
    }

    public int worst() {
        int most = 0;
        int who = NONE;
        int besides = 0;
        for (int member = 0; member < books.members; member++) {
            failing.run(books, member);
            if (failing.lossOfAll > most) {
                most = failing.lossOfAll;
                who = member;
                besides = Integer.bitCount(failing.failed) - 1;
            }
        }
        if (who == NONE) {
            return NOTHING;
        }
        told.tellTwo(most, besides);
        return who;
    }

    public int enough(int member) {
        if (!books.has(member)) {
            return NONE;
        }
        int failed = 1 << member;
        int next = Failing.nextToFail(books, failed);
        if (next == 0) {
            return NOTHING;
        }
        // More STOCK keeps one MEMBER up: of two that FAIL in the first round the other one still does.
        if (Integer.bitCount(next) > 1) {
            return NO_SUCH;
        }
        int who = Integer.numberOfTrailingZeros(next);
        if (!books.has(who)) {
            return NO_SUCH;
        }
        told.tellOne(Failing.lossOf(books, who, failed) - books.stock[who]);
        return who;
    }

    public int without(int from, int to, int member) {
        if (!books.hasBoth(from, to) || !books.has(member) || member == from || member == to) {
            return NONE;
        }
        network.load(books);
        int sum = network.send(from, to, WITHOUT_END);
        int less = mostWithout(from, to, member);
        told.tellOne(sum - less);
        return less;
    }

    public int key(int from, int to) {
        if (!books.hasBoth(from, to)) {
            return NONE;
        }
        int who = NONE;
        int least = WITHOUT_END;
        for (int member = 0; member < books.members; member++) {
            if (member == from || member == to) {
                continue;
            }
            int sum = mostWithout(from, to, member);
            if (sum < least) {
                least = sum;
                who = member;
            }
        }
        if (who == NONE) {
            return NOTHING;
        }
        told.tellOne(least);
        return who;
    }

    private int mostWithout(int from, int to, int member) {
        network.load(books);
        network.bar(member);
        return network.send(from, to, WITHOUT_END);
    }

    public int were(int from, int to, int lineFrom, int lineTo, int v) {
        if (!books.hasBoth(from, to) || !books.hasBoth(lineFrom, lineTo) || !isLimit(v)) {
            return NONE;
        }
        if (v < books.owed(lineTo, lineFrom)) {
            return IMPOSSIBLE;
        }
        network.load(books);
        network.widen(lineTo, lineFrom, v - books.limit[at(lineFrom, lineTo)]);
        return network.send(from, to, WITHOUT_END);
    }

    public int both(int s, int t, int x, int u, int v, int y) {
        if (!isPayment(s, t, x) || !isPayment(u, v, y)) {
            return NONE;
        }
        int answer = 0;
        int mostBehind = NONE;
        network.load(books);
        if (network.send(s, t, x) == x) {
            mostBehind = network.send(u, v, WITHOUT_END);
            answer += mostBehind >= y ? 1 : 0;
        }
        network.load(books);
        if (network.send(u, v, y) == y && network.send(s, t, x) == x) {
            answer += 2;
        }
        told.tellOne(mostBehind);
        return answer;
    }

    // ---- changes

    public int limits(int from, int to, int v) {
        before.copyFrom(books);
        return remembered(setLimit(from, to, v));
    }

    public int stocks(int member, int v) {
        before.copyFrom(books);
        return remembered(setStock(member, v));
    }

    public int lets(int u, int v, int x) {
        before.copyFrom(books);
        return remembered(letOff(u, v, x));
    }

    public int leaves(int member) {
        if (!books.has(member)) {
            return NONE;
        }
        if (books.holdsAny()) {
            return SOME_HELD;
        }
        for (int other = 0; other < books.members; other++) {
            if (books.debt[at(member, other)] != 0) {
                return IMPOSSIBLE;
            }
        }
        past.add(books);
        return books.closeLines(member);
    }

    public int day() {
        int many = acts.readDay(text);
        text.empty();
        if (many < 0) {
            return many;
        }
        before.copyFrom(books);
        int done = 0;
        while (done < many && perform(done) >= 0) {
            done++;
        }
        if (done > 0) {
            past.add(before);
        }
        told.tellTwo(done < many ? 1 : 0, books.owedInAll());
        return done;
    }

    public int undo() {
        if (past.many == 0) {
            return NONE;
        }
        past.takeInto(books);
        return past.many;
    }

    public int years(int seed, int n) {
        if (n < 1 || n > YEARS_MOST) {
            return NONE;
        }
        trial.copyFrom(books);
        network.load(trial);
        int made = 0;
        int r = seed;
        for (int i = 0; i < n; i++) {
            r = nextDraw(r);
            int from = drawOf(r, trial.members);
            r = nextDraw(r);
            int to = drawOf(r, trial.members);
            r = nextDraw(r);
            int sum = 1 + drawOf(r, 60);
            if (from != to && network.payAll(from, to, sum)) {
                made++;
            }
        }
        network.bookIn(trial);
        int owed = trial.owedInAll();
        told.tellTwo(owed, ringSearch.settleAll(trial));
        return made;
    }

    private static int nextDraw(int r) {
        return r * 1103515245 + 12345;
    }

    private static int drawOf(int r, int n) {
        return n < 1 ? 0 : (r >>> 16) % n;
    }

    // ---- kept

    public boolean keep(int i) {
        if (i < 0 || i >= KEEPS) {
            return false;
        }
        kept[i].copyFrom(books);
        isKept[i] = true;
        return true;
    }

    public boolean again(int i) {
        if (i < 0 || i >= KEEPS || !isKept[i]) {
            return false;
        }
        books.copyFrom(kept[i]);
        past.forget();
        return true;
    }

    public int count(int what) {
        switch (what) {
            case 0:
                return books.members;
            case 1:
                return books.openLines();
            case 2:
                return books.limitsInAll();
            case 3:
                return books.owedInAll();
            case 4:
                return past.many;
            case 5:
                return told.many;
            case 6:
                return text.length;
            case 7:
                return books.heldPlaces();
            case 8:
                return books.stockInAll();
            default:
                return NONE;
        }
    }

    public long row(int i) throws NoSuchElementException {
        if (i < 0 || i >= told.many) {
            throw new NoSuchElementException("no such number");
        }
        return told.numbers[i];
    }

    // ---- the acts, each without the memory of it: a day remembers all of its acts as one

    private int remembered(int answer) {
        if (answer >= 0) {
            past.add(before);
        }
        return answer;
    }

    private int perform(int k) {
        int a = acts.first[k];
        int b = acts.second[k];
        int x = acts.number[k];
        switch (acts.kind[k]) {
            case 'p':
                return paySplit(a, b, x);
            case 'w':
                return payWhole(a, b, x);
            case 'l':
                return setLimit(a, b, x);
            case 'f':
                return letOff(a, b, x);
            case 's':
                return settleRings();
            case 'h':
                return holdPayment(a, b, x);
            case 'm':
                return makeHeld(x);
            case 'g':
                return dropHeld(x);
            case 'k':
                return setStock(a, x);
            default:
                return NONE;
        }
    }

    private int paySplit(int from, int to, int x) {
        if (!isPayment(from, to, x)) {
            return NONE;
        }
        network.load(books);
        int sent = network.send(from, to, x);
        if (sent < x) {
            told.tellOne(sent);
            return IMPOSSIBLE;
        }
        network.bookIn(books);
        told.begin();
        for (int i = 0; i < network.parts; i++) {
            told.add(network.partLengths[i]);
            told.add(network.partSums[i]);
        }
        return network.parts;
    }

    private int payWhole(int from, int to, int x) {
        if (!isPayment(from, to, x)) {
            return NONE;
        }
        network.load(books);
        if (!network.findWay(from, to, x)) {
            told.tellOne(network.widest(from, to));
            return IMPOSSIBLE;
        }
        network.pushAlong(x);
        network.bookIn(books);
        tellWay();
        return network.wayLength;
    }

    private int holdPayment(int from, int to, int x) {
        if (!isPayment(from, to, x)) {
            return NONE;
        }
        int place = books.freePlace();
        if (place < 0) {
            return NO_PLACE;
        }
        network.load(books);
        int sent = network.send(from, to, x);
        if (sent < x) {
            told.tellOne(sent);
            return IMPOSSIBLE;
        }
        books.holdings[place].take(from, to, x, network);
        told.tellOne(network.parts);
        return place;
    }

    private int makeHeld(int place) {
        return books.isHeldAt(place) ? books.makeAt(place) : NONE;
    }

    private int dropHeld(int place) {
        return books.isHeldAt(place) ? books.dropAt(place) : NONE;
    }

    private int settleRings() {
        if (books.holdsAny()) {
            return SOME_HELD;
        }
        int owed = books.owedInAll();
        int settled = ringSearch.settleAll(books);
        if (settled == 0) {
            return NOTHING;
        }
        told.tellOne(owed - books.owedInAll());
        return settled;
    }

    private int setLimit(int from, int to, int v) {
        if (!books.hasBoth(from, to) || !isLimit(v)) {
            return NONE;
        }
        if (books.holdsAny()) {
            return SOME_HELD;
        }
        int was = books.limit[at(from, to)];
        if (was == v) {
            return NOTHING;
        }
        if (v < books.owed(to, from)) {
            return IMPOSSIBLE;
        }
        books.limit[at(from, to)] = v;
        return was;
    }

    private int setStock(int member, int v) {
        if (!books.has(member) || !isLimit(v)) {
            return NONE;
        }
        int was = books.stock[member];
        if (was == v) {
            return NOTHING;
        }
        books.stock[member] = v;
        return was;
    }

    private int letOff(int u, int v, int x) {
        if (!isPayment(u, v, x)) {
            return NONE;
        }
        if (books.holdsAny()) {
            return SOME_HELD;
        }
        if (books.owed(u, v) < x) {
            return IMPOSSIBLE;
        }
        books.payStraight(v, u, x);
        return books.owed(u, v);
    }

    private boolean isPayment(int from, int to, int x) {
        return books.hasBoth(from, to) && isSum(x);
    }

    private static boolean isSum(int x) {
        return x >= 1 && x <= SUM_MOST;
    }

    private static boolean isLimit(int v) {
        return v >= 0 && v <= LIMIT_MOST;
    }

    private void tellWay() {
        told.begin();
        for (int i = 0; i < network.wayLength; i++) {
            told.add(network.wayMember(i));
        }
    }

    /** The place of a pair in a row of 64: always one of them, whatever u and v are. */
    private static int at(int u, int v) {
        return (u & 7) << 3 | v & 7;
    }

    /** All that undo() and again() bring back: LINES, what all OWE, what is HELD, STOCKS. */
    private static final class Books {
        int members;
        /** Of the LINE from u to v, at(u, v). */
        final int[] limit;
        /** What u OWES v, less what v OWES u, at(u, v): so at most one of two ever OWES. */
        final int[] debt;
        final int[] stock;
        final Holding[] holdings;

        Books() {
            members = 2;
            limit = new int[PAIRS];
            debt = new int[PAIRS];
            stock = new int[MEMBERS_MOST];
            holdings = new Holding[PLACES];
            for (int i = 0; i < PLACES; i++) {
                holdings[i] = new Holding();
            }
        }

        void startAnew(int many) {
            members = many;
            for (int i = 0; i < PAIRS; i++) {
                limit[i] = 0;
                debt[i] = 0;
            }
            for (int i = 0; i < MEMBERS_MOST; i++) {
                stock[i] = 0;
            }
            for (int i = 0; i < PLACES; i++) {
                holdings[i].sum = 0;
            }
        }

        void copyFrom(Books other) {
            members = other.members;
            System.arraycopy(other.limit, 0, limit, 0, PAIRS);
            System.arraycopy(other.debt, 0, debt, 0, PAIRS);
            System.arraycopy(other.stock, 0, stock, 0, MEMBERS_MOST);
            for (int i = 0; i < PLACES; i++) {
                holdings[i].copyFrom(other.holdings[i]);
            }
        }

        boolean has(int member) {
            return member >= 0 && member < members;
        }

        boolean hasBoth(int u, int v) {
            return has(u) && has(v) && u != v;
        }

        int owed(int u, int v) {
            return Math.max(debt[at(u, v)], 0);
        }

        int heldBetween(int u, int v) {
            int pair = at(u, v);
            int sum = 0;
            for (int i = 0; i < PLACES; i++) {
                if (holdings[i].sum > 0) {
                    sum += holdings[i].flow[pair];
                }
            }
            return sum;
        }

        int room(int u, int v) {
            return limit[at(v, u)] - debt[at(u, v)] - heldBetween(u, v);
        }

        void payStraight(int u, int v, int x) {
            debt[at(u, v)] += x;
            debt[at(v, u)] -= x;
        }

        int owedInAll() {
            int sum = 0;
            for (int i = 0; i < PAIRS; i++) {
                sum += Math.max(debt[i], 0);
            }
            return sum;
        }

        int limitsInAll() {
            int sum = 0;
            for (int i = 0; i < PAIRS; i++) {
                sum += limit[i];
            }
            return sum;
        }

        int openLines() {
            int many = 0;
            for (int i = 0; i < PAIRS; i++) {
                many += limit[i] > 0 ? 1 : 0;
            }
            return many;
        }

        int stockInAll() {
            int sum = 0;
            for (int i = 0; i < MEMBERS_MOST; i++) {
                sum += stock[i];
            }
            return sum;
        }

        /** Sets LIMIT 0 on all LINES of a member: how many had another. */
        int closeLines(int member) {
            int closed = 0;
            for (int other = 0; other < members; other++) {
                closed += closeLine(at(member, other)) + closeLine(at(other, member));
            }
            return closed;
        }

        private int closeLine(int place) {
            int had = limit[place] > 0 ? 1 : 0;
            limit[place] = 0;
            return had;
        }

        int heldPlaces() {
            int bits = 0;
            for (int i = 0; i < PLACES; i++) {
                bits |= holdings[i].sum > 0 ? 1 << i : 0;
            }
            return bits;
        }

        boolean holdsAny() {
            return heldPlaces() != 0;
        }

        boolean isHeldAt(int place) {
            return place >= 0 && place < PLACES && holdings[place].sum > 0;
        }

        /** The least place that is free, or NONE. */
        int freePlace() {
            for (int i = 0; i < PLACES; i++) {
                if (holdings[i].sum == 0) {
                    return i;
                }
            }
            return NONE;
        }

        /** Makes what is HELD at a place: how much it is, 0 if nothing is. */
        int makeAt(int place) {
            if (!isHeldAt(place)) {
                return 0;
            }
            int[] flow = holdings[place].flow;
            for (int u = 0; u < members; u++) {
                for (int v = 0; v < members; v++) {
                    payStraight(u, v, flow[at(u, v)]);
                }
            }
            return dropAt(place);
        }

        /** Lets go what is HELD at a place: how much it was, 0 if nothing is. */
        int dropAt(int place) {
            if (!isHeldAt(place)) {
                return 0;
            }
            int sum = holdings[place].sum;
            holdings[place].sum = 0;
            return sum;
        }
    }

    /** A PAYMENT that is HELD; a sum of 0 says that none is. */
    private static final class Holding {
        int from;
        int to;
        int sum;
        /** What is HELD from u to v by it, at(u, v); without meaning while sum is 0. */
        final int[] flow;

        Holding() {
            flow = new int[PAIRS];
        }

        void copyFrom(Holding other) {
            from = other.from;
            to = other.to;
            sum = other.sum;
            if (sum > 0) {
                System.arraycopy(other.flow, 0, flow, 0, PAIRS);
            }
        }

        void take(int payer, int payee, int x, Network network) {
            from = payer;
            to = payee;
            sum = x;
            for (int u = 0; u < MEMBERS_MOST; u++) {
                for (int v = 0; v < MEMBERS_MOST; v++) {
                    flow[at(u, v)] = Math.max(network.gone(u, v), 0);
                }
            }
        }

        int steps() {
            int many = 0;
            for (int i = 0; i < PAIRS; i++) {
                many += flow[i] > 0 ? 1 : 0;
            }
            return many;
        }
    }

    /** The books ahead of the latest changes, eight at most; the oldest ones are forgotten. */
    private static final class Past {
        final Books[] stack;
        int many;

        Past() {
            stack = new Books[UNDO_MOST];
            for (int i = 0; i < UNDO_MOST; i++) {
                stack[i] = new Books();
            }
        }

        void add(Books books) {
            if (many >= UNDO_MOST) {
                Books oldest = stack[0];
                for (int i = 1; i < UNDO_MOST; i++) {
                    stack[i - 1] = stack[i];
                }
                stack[UNDO_MOST - 1] = oldest;
                many = UNDO_MOST - 1;
            }
            stack[many].copyFrom(books);
            many++;
        }

        void takeInto(Books books) {
            if (many > 0) {
                many--;
                books.copyFrom(stack[many]);
            }
        }

        void forget() {
            many = 0;
        }
    }

    /** THE TEXT, and how its parts are read; -1 - p tells that the sign at p can't stand there. */
    private static final class Text {
        final int[] signs;
        int length;

        Text() {
            signs = new int[TEXT_MOST];
        }

        boolean append(int v) {
            if (length + 4 > TEXT_MOST) {
                return false;
            }
            for (int shift = 24; shift >= 0; shift -= 8) {
                signs[length] = v >>> shift & 255;
                length++;
            }
            return true;
        }

        boolean cutTo(int n) {
            if (n < 0 || n > length) {
                return false;
            }
            length = n;
            return true;
        }

        void empty() {
            length = 0;
        }

        /** The sign at p; NONE behind the end. */
        int signAt(int p) {
            return p >= 0 && p < length && p < TEXT_MOST ? signs[p] : NONE;
        }

        /** The digit at p, or NONE. */
        int digitAt(int p) {
            int s = signAt(p);
            return s >= '0' && s <= '9' ? s - '0' : NONE;
        }

        /** The member of the letter at p, of so many ones, or NONE. */
        int letterAt(int p, int members) {
            int s = signAt(p);
            return s >= 'a' && s < 'a' + members ? s - 'a' : NONE;
        }

        /** The number of so many digits from p on, or -1 less the place of the first sign that is none. */
        int numberAt(int p, int digits) {
            int number = 0;
            for (int i = p; i < p + digits; i++) {
                int digit = digitAt(i);
                if (digit < 0) {
                    return -1 - i;
                }
                number = 10 * number + digit;
            }
            return number;
        }

        /** A CLUB: how many LINES were told. The books are of no use if it is refused. */
        int readClub(Books into) {
            int members = digitAt(0);
            if (members < 2 || members > MEMBERS_MOST) {
                return -1;
            }
            into.startAnew(members);
            long seen = 0;
            int lines = 0;
            for (int p = 1; p < length; p += 5) {
                int from = letterAt(p, members);
                if (from < 0) {
                    return -1 - p;
                }
                int to = letterAt(p + 1, members);
                if (to < 0 || to == from || (seen >>> at(from, to) & 1) == 1) {
                    return -1 - (p + 1);
                }
                int limit = numberAt(p + 2, 3);
                if (limit < 0) {
                    return limit;
                }
                into.limit[at(from, to)] = limit;
                seen |= 1L << at(from, to);
                lines++;
            }
            return lines;
        }
    }

    /** ACTS or PAYMENTS that a text tells: two members and a number each, as far as its kind has them. */
    private static final class Acts {
        final int[] kind;
        final int[] first;
        final int[] second;
        final int[] number;

        int many;

        Acts() {
            kind = new int[TEXT_MOST];
            first = new int[TEXT_MOST];
            second = new int[TEXT_MOST];
            number = new int[TEXT_MOST];
        }

        /** PAYMENTS without signs between: how many, or -1 - p. */
        int readPayments(Text text, int members, int limit) {
            many = 0;
            for (int p = 0; p < text.length; p += 6) {
                if (many >= limit) {
                    return -1 - p;
                }
                int from = text.letterAt(p, members);
                if (from < 0) {
                    return -1 - p;
                }
                int to = text.letterAt(p + 1, members);
                if (to < 0 || to == from) {
                    return -1 - (p + 1);
                }
                int sum = text.numberAt(p + 2, 4);
                if (sum < 0) {
                    return sum;
                }
                if (sum == 0) {
                    return -1 - (p + 5);
                }
                add('p', from, to, sum);
            }
            return many;
        }

        /** A DAY: how many ACTS, or -1 - p. Whether they can be done is not looked at. */
        int readDay(Text text) {
            many = 0;
            int p = 0;
            while (p < text.length) {
                int sign = text.signAt(p);
                int letters = lettersOf(sign);
                if (letters < 0) {
                    return -1 - p;
                }
                p++;
                int a = letters > 0 ? text.letterAt(p, MEMBERS_MOST) : 0;
                if (a < 0) {
                    return -1 - p;
                }
                int b = letters > 1 ? text.letterAt(p + 1, MEMBERS_MOST) : 0;
                if (b < 0) {
                    return -1 - (p + 1);
                }
                p += letters;
                int digits = digitsOf(sign);
                int x = text.numberAt(p, digits);
                if (x < 0) {
                    return x;
                }
                p += digits;
                add(sign, a, b, x);
            }
            return many;
        }

        private void add(int sign, int a, int b, int x) {
            if (many < TEXT_MOST) {
                kind[many] = sign;
                first[many] = a;
                second[many] = b;
                number[many] = x;
                many++;
            }
        }

        /** How many letters an act of this sign has; NONE if no act begins with it. */
        private static int lettersOf(int sign) {
            switch (sign) {
                case 'p':
                case 'w':
                case 'l':
                case 'f':
                case 'h':
                    return 2;
                case 'k':
                    return 1;
                case 's':
                case 'm':
                case 'g':
                    return 0;
                default:
                    return NONE;
            }
        }

        private static int digitsOf(int sign) {
            switch (sign) {
                case 'p':
                case 'w':
                case 'f':
                case 'h':
                    return 4;
                case 'l':
                case 'k':
                    return 3;
                case 'm':
                case 'g':
                    return 1;
                default:
                    return 0;
            }
        }
    }

    /** The ROW. */
    private static final class Numbers {
        final long[] numbers;
        int many;

        Numbers() {
            numbers = new long[ROW_MOST];
        }

        void begin() {
            many = 0;
        }

        void add(long number) {
            if (many < ROW_MOST) {
                numbers[many] = number;
                many++;
            }
        }

        void tellOne(long a) {
            begin();
            add(a);
        }

        void tellTwo(long a, long b) {
            tellOne(a);
            add(b);
        }

        void tellThree(long a, long b, long c) {
            tellTwo(a, b);
            add(c);
        }
    }

    /**
     * The ROOM between all members, as it is and as it would be behind payments: what goes from
     * one to another makes the one ROOM less and the ROOM back more. Nothing of it is in the
     * books before bookIn().
     */
    private static final class Network {
        int members;
        final int[] space;
        final int[] spaceAtFirst;
        final int[] spaceSaved;
        final int[] distance;
        final int[] queue;
        final int[] path;
        int wayLength;
        final int[] partLengths;
        final int[] partSums;
        int parts;

        Network() {
            space = new int[PAIRS];
            spaceAtFirst = new int[PAIRS];
            spaceSaved = new int[PAIRS];
            distance = new int[MEMBERS_MOST];
            queue = new int[MEMBERS_MOST];
            path = new int[MEMBERS_MOST];
            partLengths = new int[PARTS_MOST];
            partSums = new int[PARTS_MOST];
        }

        void load(Books books) {
            members = books.members;
            for (int u = 0; u < MEMBERS_MOST; u++) {
                for (int v = 0; v < MEMBERS_MOST; v++) {
                    boolean bothThere = u < members && v < members && u != v;
                    space[at(u, v)] = bothThere ? books.room(u, v) : 0;
                }
            }
            System.arraycopy(space, 0, spaceAtFirst, 0, PAIRS);
        }

        void widen(int u, int v, int by) {
            space[at(u, v)] += by;
        }

        void bar(int member) {
            for (int other = 0; other < members; other++) {
                space[at(member, other)] = 0;
                space[at(other, member)] = 0;
            }
        }

        /** What went from u to v, less what went back, since the books were loaded. */
        int gone(int u, int v) {
            return spaceAtFirst[at(u, v)] - space[at(u, v)];
        }

        void bookIn(Books books) {
            for (int u = 0; u < members; u++) {
                for (int v = u + 1; v < members; v++) {
                    books.payStraight(u, v, gone(u, v));
                }
            }
        }

        int wayMember(int i) {
            return path[i & 7];
        }

        /** Puts the FIRST WAY for x in path; false if there is none. */
        boolean findWay(int from, int to, int x) {
            measure(to, x);
            int steps = distance[from & 7];
            if (steps < 0) {
                return false;
            }
            wayLength = steps + 1;
            int here = from;
            path[0] = from;
            for (int i = 1; i < wayLength && i < MEMBERS_MOST; i++) {
                here = nextTowards(here, wayLength - 1 - i, x);
                path[i] = here;
            }
            return true;
        }

        /** How many steps there are at least from each to a member; NONE if there is no WAY. */
        private void measure(int to, int x) {
            for (int i = 0; i < MEMBERS_MOST; i++) {
                distance[i] = NONE;
            }
            distance[to & 7] = 0;
            queue[0] = to;
            int tail = 1;
            for (int head = 0; head < tail && head < MEMBERS_MOST; head++) {
                int v = queue[head & 7];
                int steps = distance[v & 7] + 1;
                for (int u = 0; u < members && tail < MEMBERS_MOST; u++) {
                    if (distance[u & 7] < 0 && space[at(u, v)] >= x) {
                        distance[u & 7] = steps;
                        queue[tail] = u;
                        tail++;
                    }
                }
            }
        }

        private int nextTowards(int here, int steps, int x) {
            for (int v = 0; v < members; v++) {
                if (distance[v & 7] == steps && space[at(here, v)] >= x) {
                    return v;
                }
            }
            return here;
        }

        private int leastSpace() {
            int least = WITHOUT_END;
            for (int i = 1; i < wayLength; i++) {
                least = Math.min(least, space[at(wayMember(i - 1), wayMember(i))]);
            }
            return least;
        }

        /** Along the WAY that was found each pays the next x straight. */
        void pushAlong(int x) {
            for (int i = 1; i < wayLength; i++) {
                int u = wayMember(i - 1);
                int v = wayMember(i);
                space[at(u, v)] -= x;
                space[at(v, u)] += x;
            }
        }

        /** Sends x in PARTS, as far as they go: how much went. Less than x is MOST. */
        int send(int from, int to, int x) {
            parts = 0;
            int left = x;
            while (parts < PARTS_MOST && left > 0 && findWay(from, to, 1)) {
                int part = Math.min(left, leastSpace());
                pushAlong(part);
                partLengths[parts] = wayLength;
                partSums[parts] = part;
                parts++;
                left -= part;
            }
            return x - left;
        }

        /** A PAYMENT, SPLIT; if it can't be made, all is as ahead of it. */
        boolean payAll(int from, int to, int x) {
            System.arraycopy(space, 0, spaceSaved, 0, PAIRS);
            if (send(from, to, x) == x) {
                return true;
            }
            System.arraycopy(spaceSaved, 0, space, 0, PAIRS);
            return false;
        }

        int longestPart() {
            int longest = 0;
            for (int i = 0; i < parts; i++) {
                longest = Math.max(longest, partLengths[i]);
            }
            return longest;
        }

        /** The members to which there is a WAY for x, and the one from which (bits). */
        int reached(int from, int x) {
            int bits = 1 << from;
            queue[0] = from;
            int tail = 1;
            for (int head = 0; head < tail && head < MEMBERS_MOST; head++) {
                int u = queue[head & 7];
                for (int v = 0; v < members && tail < MEMBERS_MOST; v++) {
                    if ((bits >> v & 1) == 0 && space[at(u, v)] >= x) {
                        bits |= 1 << v;
                        queue[tail] = v;
                        tail++;
                    }
                }
            }
            return bits;
        }

        /** The most that goes by one WAY alone; 0 if there is none. */
        int widest(int from, int to) {
            for (int i = 0; i < MEMBERS_MOST; i++) {
                distance[i] = 0;
            }
            distance[from & 7] = WITHOUT_END;
            // Here distance holds how much gets to each; a WAY has fewer steps than members.
            for (int round = 1; round < members; round++) {
                for (int u = 0; u < members; u++) {
                    for (int v = 0; v < members; v++) {
                        int through = Math.min(distance[u & 7], space[at(u, v)]);
                        distance[v & 7] = Math.max(distance[v & 7], through);
                    }
                }
            }
            return distance[to & 7];
        }
    }

    /** Looks for the orders in which PAYMENTS can all be made. */
    private static final class Sequences {
        final int[][] spaceAhead;
        final int[] order;
        final int[] firstFound;
        int found;

        Sequences() {
            spaceAhead = new int[ORDERS_MOST][PAIRS];
            order = new int[ORDERS_MOST];
            firstFound = new int[ORDERS_MOST];
        }

        void search(Network network, Acts payments) {
            found = 0;
            goOn(network, payments, 0, 0);
        }

        /** Tries each PAYMENT that is not yet used (bits) as the next one; the depth is how many are. */
        private void goOn(Network network, Acts payments, int depth, int used) {
            if (depth >= payments.many) {
                if (found == 0) {
                    System.arraycopy(order, 0, firstFound, 0, ORDERS_MOST);
                }
                found++;
                return;
            }
            if (depth >= ORDERS_MOST) {
                return;
            }
            System.arraycopy(network.space, 0, spaceAhead[depth], 0, PAIRS);
            for (int k = 0; k < payments.many; k++) {
                if ((used >> k & 1) == 1) {
                    continue;
                }
                System.arraycopy(spaceAhead[depth], 0, network.space, 0, PAIRS);
                int sum = payments.number[k];
                if (network.send(payments.first[k], payments.second[k], sum) == sum) {
                    order[depth] = k;
                    goOn(network, payments, depth + 1, used | 1 << k);
                }
            }
        }
    }

    /** Looks for RINGS of debts and settles them. */
    private static final class Rings {
        final int[] distance;
        final int[] queue;
        final int[] path;
        int many;
        int least;

        Rings() {
            distance = new int[MEMBERS_MOST];
            queue = new int[MEMBERS_MOST];
            path = new int[MEMBERS_MOST];
        }

        int memberAt(int i) {
            return path[i & 7];
        }

        /** The FIRST RING goes to path, its least OWES to least; false if there is none. */
        boolean find(Books books) {
            int start = NONE;
            many = MEMBERS_MOST + 1;
            for (int s = 0; s < books.members; s++) {
                int length = lengthFrom(books, s);
                if (length > 0 && length < many) {
                    many = length;
                    start = s;
                }
            }
            if (start < 0) {
                many = 0;
                return false;
            }
            measure(books, start);
            int here = start;
            path[0] = start;
            for (int i = 1; i < many && i < MEMBERS_MOST; i++) {
                here = nextTowards(books, start, here, many - i);
                path[i] = here;
            }
            least = leastOwed(books);
            return true;
        }

        /** How many are on the shortest RING of which a member is the least; 0 without one. */
        private int lengthFrom(Books books, int start) {
            measure(books, start);
            int shortest = 0;
            for (int v = start + 1; v < books.members; v++) {
                int length = distance[v & 7] + 1;
                if (length > 1 && books.owed(start, v) > 0 && (shortest == 0 || length < shortest)) {
                    shortest = length;
                }
            }
            return shortest;
        }

        /** How many debts lead from each one above a member to it, over such ones alone; NONE if none do. */
        private void measure(Books books, int start) {
            for (int i = 0; i < MEMBERS_MOST; i++) {
                distance[i] = NONE;
            }
            distance[start & 7] = 0;
            queue[0] = start;
            int tail = 1;
            for (int head = 0; head < tail && head < MEMBERS_MOST; head++) {
                int v = queue[head & 7];
                int steps = distance[v & 7] + 1;
                for (int u = start + 1; u < books.members && tail < MEMBERS_MOST; u++) {
                    if (distance[u & 7] < 0 && books.debt[at(u, v)] > 0) {
                        distance[u & 7] = steps;
                        queue[tail] = u;
                        tail++;
                    }
                }
            }
        }

        private int nextTowards(Books books, int start, int here, int steps) {
            for (int v = start + 1; v < books.members; v++) {
                if (distance[v & 7] == steps && books.owed(here, v) > 0) {
                    return v;
                }
            }
            return here;
        }

        private int leastOwed(Books books) {
            int sum = WITHOUT_END;
            for (int i = 0; i < many; i++) {
                sum = Math.min(sum, books.owed(memberAt(i), nextOnRing(i)));
            }
            return sum;
        }

        private int nextOnRing(int i) {
            return i + 1 < many ? memberAt(i + 1) : memberAt(0);
        }

        /** Settles the FIRST RING till there is none: how many. Each time one debt at least goes. */
        int settleAll(Books books) {
            int settled = 0;
            while (settled < PAIRS && find(books)) {
                for (int i = 0; i < many; i++) {
                    books.payStraight(nextOnRing(i), memberAt(i), least);
                }
                settled++;
            }
            return settled;
        }
    }

    /** The FAILING of a member. */
    private static final class Failing {
        int failed;
        int rounds;
        int lossOfAll;
        int lossOfRest;

        void run(Books books, int member) {
            failed = 1 << member;
            rounds = 0;
            int next = nextToFail(books, failed);
            while (next != 0 && rounds < MEMBERS_MOST) {
                failed |= next;
                rounds++;
                next = nextToFail(books, failed);
            }
            lossOfAll = 0;
            lossOfRest = 0;
            for (int v = 0; v < books.members; v++) {
                int loss = lossOf(books, v, failed);
                lossOfAll += loss;
                lossOfRest += (failed >> v & 1) == 0 ? loss : 0;
            }
        }

        /** Those that FAIL in the next round (bits). */
        static int nextToFail(Books books, int failed) {
            int next = 0;
            for (int v = 0; v < books.members && v < MEMBERS_MOST; v++) {
                if ((failed >> v & 1) == 0 && lossOf(books, v, failed) > books.stock[v]) {
                    next |= 1 << v;
                }
            }
            return next;
        }

        static int lossOf(Books books, int member, int failed) {
            int loss = 0;
            for (int u = 0; u < books.members; u++) {
                loss += (failed >> u & 1) == 1 ? books.owed(u, member) : 0;
            }
            return loss;
        }
    }
}
