import java.io.IOException;

/** The boundary cases of promises 32 to 42: changes, and what is kept. */
public final class BoundaryChanges extends Sentences {
    public static void main(String[] args) throws IOException {
        run(32, new Runnable[] {
            BoundaryChanges::promise32, BoundaryChanges::promise33, BoundaryChanges::promise34,
            BoundaryChanges::promise35, BoundaryChanges::promise36, BoundaryChanges::promise37,
            BoundaryChanges::promise38, BoundaryChanges::promise39, BoundaryChanges::promise40,
            BoundaryChanges::promise41, BoundaryChanges::promise42});
    }

    // ---- changes

    private static void promise32() {
        says("LIMIT of a LINE becomes v (0 .. 999): what it was.", () -> {
            TrustClub x = new TrustClub();
            due(x.limits(1, 0, 999), 0);
            due(x.limits(1, 0, 1), 999);
            due(x.limits(1, 0, 0), 1);
            due(x.count(4), 3);
        });
        says("-2: it is so;", () -> {
            TrustClub x = usedAndFree();
            stays(x, -2, () -> x.limits(0, 1, 100));
            stays(x, -2, () -> x.limits(2, 0, 0));
        });
        says("-4: more is OWED by it;", () -> {
            TrustClub x = usedAndFree();
            stays(x, -4, () -> x.limits(0, 1, 3));
            stays(x, -4, () -> x.limits(0, 1, 0));
            due(x.limits(0, 1, 4), 100);
            stays(x, -4, () -> x.limits(0, 1, 3));
            stays(x, -2, () -> x.limits(0, 1, 4));
            // By b's line to a nothing is OWED.
            due(x.limits(1, 0, 1), 0);
            due(x.limits(1, 0, 0), 1);
        });
        says("NONE: others.", () -> {
            for (Maker maker : HELD_AND_FREE) {
                noPair(maker, (c, from, to) -> c.limits(from, to, 50));
                noLimit(maker, (c, v) -> c.limits(0, 1, v));
            }
        });
    }

    private static void promise33() {
        says("STOCK of a MEMBER becomes v (0 .. 999): what it was.", () -> {
            TrustClub x = chain();
            due(x.stocks(2, 999), 0);
            due(x.stocks(0, 999), 0);
            due(x.count(8), 1998);
            due(x.stocks(2, 1), 999);
            due(x.stocks(2, 0), 1);
            due(x.count(8), 999);
            due(x.count(4), 5);
            // What is HELD does not stop it.
            due(used().stocks(0, 6), 5);
        });
        says("-2: it is so;", () -> {
            TrustClub x = used();
            stays(x, -2, () -> x.stocks(0, 5));
            stays(x, -2, () -> x.stocks(2, 0));
        });
        says("NONE: others.", () -> {
            noMember(Sentences::used, (c, m) -> c.stocks(m, 1));
            noLimit(Sentences::used, (c, v) -> c.stocks(0, v));
        });
    }

    private static void promise34() {
        says("What u OWES v is let off by x (1 .. 9999): how much it OWES then.", () -> {
            TrustClub x = usedAndFree();
            due(x.lets(1, 0, 1), 3);
            due(x.lets(1, 0, 3), 0);
            due(x.count(3), 0);
            stays(x, -4, () -> x.lets(1, 0, 1));
        });
        says("-4: it OWES less;", () -> {
            TrustClub x = usedAndFree();
            stays(x, -4, () -> x.lets(1, 0, 5));
            stays(x, -4, () -> x.lets(1, 0, 9999));
            // Of the other one, which is owed, nothing can be let off.
            stays(x, -4, () -> x.lets(0, 1, 1));
            due(x.lets(1, 0, 4), 0);
        });
        says("NONE: others.", () -> {
            for (Maker maker : HELD_AND_FREE) {
                noPayment(maker, (c, from, to, sum) -> c.lets(from, to, sum));
            }
        });
    }

    private static void promise35() {
        says("All LINES from a MEMBER and to it get LIMIT 0: how many had another.", () -> {
            TrustClub x = club("3ab100bc050ca007cb000");
            due(x.leaves(2), 2);
            due(x.count(2), 100);
            due(x.leaves(2), 0);
            due(x.leaves(0), 1);
            due(x.count(1), 0);
            due(x.count(0), 3);
            TrustClub y = club("8");
            for (int m = 0; m < 8; m++) {
                due(y.sheet(m, 2, 7, 1, 0), 7);
            }
            due(y.leaves(7), 14);
            due(y.leaves(0), 12);
            due(y.count(1), 30);
        });
        says("-4: it OWES somebody, or somebody OWES it;", () -> {
            TrustClub x = usedAndFree();
            stays(x, -4, () -> x.leaves(0));
            stays(x, -4, () -> x.leaves(1));
            due(x.leaves(2), 1);
            due(x.lets(1, 0, 3), 1);
            stays(x, -4, () -> x.leaves(0));
            due(x.lets(1, 0, 1), 0);
            due(x.leaves(1), 1);
            // One OWES and is owed as much: NET 0.
            TrustClub y = chain();
            due(y.pays(2, 0, 5), 1);
            stays(y, -4, () -> y.leaves(1));
        });
        says("NONE: none such.", () -> {
            for (Maker maker : HELD_AND_FREE) {
                noMember(maker, (c, m) -> c.leaves(m));
            }
        });
    }

    private static void dayFault(String s, int p) {
        staysButText(Sentences::used, s, -1 - p, c -> c.day());
    }

    private static void promise36() {
        says("THE TEXT tells A DAY (an empty one: nothing), ACTS one behind another, without signs between", () -> {
            TrustClub x = usedAndFree();
            int ahead = x.count(4);
            due(tell(x, "").day(), 0);
            row(x, 0, 4);
            due(x.count(4), ahead);
            dayFault("pba0001 pba0001", 7);
            dayFault("pba00011", 7);
            // A text that is full: 16 acts of five signs.
            TrustClub y = chain();
            StringBuilder full = new StringBuilder();
            for (int i = 0; i < 16; i++) {
                full.append("ka0").append(10 + i);
            }
            due(tell(y, full.toString()).day(), 16);
            row(y, 0, 0);
            due(y.count(8), 25);
            due(y.count(4), 2);
            due(tell(y, "s".repeat(80)).day(), 0);
            row(y, 1, 0);
            // Nothing is left of a longer text ahead of it.
            due(tell(y, "pba0002pba0003").day(), 2);
            due(tell(y, "pcb0001").day(), 1);
            row(y, 0, 6);
        });
        says("p, two letters, four digits (pays()); w, likewise (whole()); l, two letters, three digits (limits()); f, "
                + "two letters, four digits (lets()); s (settles()); h, two letters, four digits (holds()); m, a digit "
                + "(makes()); g, a digit (letsGo()); k, a letter, three digits (stocks())", () -> {
            TrustClub x = triangle();
            due(tell(x, "pab0001wbc0002lba999fca0003shab0001m0hbc0002g0kc999").day(), 10);
            // a b 6, b c 9, c a 6; one ring of 6; then a b 1.
            row(x, 0, 4);
            due(x.net(1), 1 - 3);
            due(x.line(1, 0), 999);
            row(x, 1, 998, 0);
            due(x.count(8), 999);
            due(x.count(7), 0);
            // Nothing can be seen of the ROWS of its acts, and each was done as by the call.
            TrustClub y = triangle();
            due(tell(y, "hab0001hab0001hab0001hab0001hab0001").day(), 4);
            row(y, 1, 21);
            due(y.count(7), 15);
            due(tell(y, "g3m0g1m2g2").day(), 4);
            row(y, 1, 23);
        });
        promise36Ends();
        promise36Faults();
    }

    private static void promise36Ends() {
        says("they are done one by one, till one can't be (it answers below 0): how many were done;", () -> {
            String[] undoable = {"pba0097", "wcb0051", "lab100", "lab003", "fba0005", "fab0001", "s", "hba0097", "m1", "g9", "ka005"};
            for (String act : undoable) {
                TrustClub x = usedAndFree();
                due(tell(x, "kb001" + act + "kb002").day(), 1);
                row(x, 1, 4);
                due(x.count(8), 6);
            }
            // Answers of 0 are done: a STOCK that was 0, a debt that is 0 then, place 0, a LIMIT that was 0.
            TrustClub x = usedAndFree();
            due(tell(x, "kb001fba0004hba0001g0lba001").day(), 5);
            row(x, 0, 0);
        });
        says("the ROW: 1 if one could not be, else 0, what all OWE then.", () -> {
            TrustClub x = chain();
            due(tell(x, "pca0050").day(), 1);
            row(x, 0, 100);
            due(tell(x, "pca0001").day(), 0);
            row(x, 1, 100);
            due(tell(x, "fba0050pcb0001").day(), 1);
            row(x, 1, 50);
            due(tell(x, "").day(), 0);
            row(x, 0, 50);
        });
        says("letters of MEMBERS that there are not, numbers that can't be are read, and refused when done;", () -> {
            String[] read = {"pha0001", "pah0001", "paa0001", "pba0000", "whd0001", "waa0001", "wba0000", "lda001", "lad001", "lbb001",
                "fbd0001", "fba0000", "fbb0001", "hhb0001", "hba0000", "haa0001", "m9", "m4", "g9", "g4", "kd001", "kh001"};
            for (String act : read) {
                TrustClub x = usedAndFree();
                int ahead = x.count(4);
                due(tell(x, act + "kb001").day(), 0);
                row(x, 1, 4);
                due(x.count(8), 5);
                due(x.count(4), ahead);
                due(x.count(6), 0);
            }
        });
    }

    private static void promise36Faults() {
        says("-1 - p: the sign at p can't stand there", () -> {
            for (String sign : new String[] {"a", "x", "P", "0", " ", "\u0000", "\u00f0", "i"}) {
                dayFault(sign, 0);
                dayFault("kb001" + sign, 5);
            }
            dayFault("pia0001", 1);
            dayFault("pai0001", 2);
            dayFault("p`a0001", 1);
            dayFault("wAb0001", 1);
            dayFault("pab/001", 3);
            dayFault("pab000:", 6);
            dayFault("lab1234", 6);
            dayFault("m00", 2);
            dayFault("gx", 1);
            dayFault("m/", 1);
            dayFault("kbb001", 2);
            dayFault("k1001", 1);
            dayFault("fi", 1);
            dayFault("hab00a1", 5);
        });
        says("its end, if it ends too early);", () -> {
            for (String act : new String[] {"pba0001", "wba0001", "lab007", "fba0001", "hba0001", "m0", "g0", "kb001"}) {
                for (int n = 1; n < act.length(); n++) {
                    dayFault(act.substring(0, n), n);
                    dayFault("ka001" + act.substring(0, n), 5 + n);
                }
            }
            // A text that is full ends too early at 80.
            dayFault("ka001".repeat(15) + "pba00", 80);
        });
        says("nothing is done then.", () -> {
            dayFault("pba0001kb001x", 12);
            dayFault("m0g0m", 5);
            dayFault("sss?", 3);
        });
    }

    /** An act is done, and undone: all is as ahead of it, the lines one by one, too. */
    private static void undone(Maker maker, Question act) {
        TrustClub x = maker.make();
        String ahead = lines(x);
        int acts = x.count(4);
        due(act.ask(x) >= 0, true);
        due(x.count(4), acts + 1);
        due(lines(x).equals(ahead), false);
        due(x.undo(), acts);
        due(lines(x).equals(ahead), true);
    }

    private static String lines(TrustClub x) {
        StringBuilder b = new StringBuilder();
        int members = x.count(0);
        for (int u = 0; u < members; u++) {
            for (int v = 0; v < members; v++) {
                b.append(" ").append(x.line(u, v));
                for (int i = 0; i < 3 && u != v; i++) {
                    b.append(" ").append(x.row(i));
                }
            }
        }
        for (int place = 0; place < 4; place++) {
            for (int what = 0; what < 4 && (x.count(7) >> place & 1) == 1; what++) {
                b.append(" ").append(x.held(place, what));
            }
        }
        return b.append(" ").append(x.count(8)).toString();
    }

    private static void promise37() {
        says("The latest club(), pays(), whole(), holds(), makes(), letsGo(), batch(), settles(), limits(), lets(), "
                + "leaves(), stocks(), day()", () -> {
            undone(Sentences::used, c -> tell(c, "2ab001").club());
            undone(Sentences::used, c -> c.pays(2, 0, 1));
            undone(Sentences::used, c -> c.whole(2, 0, 1));
            undone(Sentences::used, c -> c.holds(2, 0, 1));
            undone(Sentences::used, c -> c.makes(0));
            undone(Sentences::used, c -> c.letsGo(0));
            undone(Sentences::used, c -> tell(c, "ca0001").batch());
            undone(Sentences::used, c -> c.stocks(0, 6));
            undone(Sentences::used, c -> tell(c, "m0s").day());
            undone(Sentences::triangle, c -> c.settles());
            undone(Sentences::usedAndFree, c -> c.limits(0, 1, 4));
            undone(Sentences::usedAndFree, c -> c.lets(1, 0, 4));
            undone(Sentences::usedAndFree, c -> c.leaves(2));
            // One that changed nothing but was done counts, too.
            TrustClub x = usedAndFree();
            due(x.leaves(2), 1);
            due(x.leaves(2), 0);
            due(x.undo(), 7);
            due(x.undo(), 6);
            due(x.line(1, 2), 50);
        });
        says("(of 8 that are kept, the latest ones; such as were done;", () -> {
            TrustClub x = new TrustClub();
            for (int i = 1; i <= 9; i++) {
                due(x.stocks(0, i), i - 1);
                due(x.count(4), Math.min(i, 8));
            }
            for (int i = 7; i >= 0; i--) {
                due(x.undo(), i);
                due(x.count(8), i + 1);
            }
            stays(x, -1, () -> x.undo());
            due(x.stocks(0, 7), 1);
            due(x.undo(), 0);
            due(x.count(8), 1);
            notDone();
        });
        says("batch() of one PAYMENT at least; day() of which one ACT was done, as one)", () -> {
            TrustClub x = chain();
            due(tell(x, "").batch(), 0);
            due(tell(x, "").day(), 0);
            due(tell(x, "kb000kb001").day(), 0);
            due(x.count(4), 1);
            due(tell(x, "ba0001").batch(), 1);
            due(x.count(4), 2);
            due(tell(x, "kb001kb001").day(), 1);
            due(x.count(4), 3);
            due(tell(x, "kb002kb003kb004").day(), 3);
            due(x.count(4), 4);
            due(x.undo(), 3);
            due(x.count(8), 1);
            due(x.undo(), 2);
            due(x.count(8), 0);
            due(x.undo(), 1);
            due(x.count(3), 0);
        });
        says("is undone (LINES, what all OWE, what is HELD, STOCKS are as ahead of it): how many are left that can be.", () -> {
            TrustClub x = used();
            due(tell(x, "2ab001").club(), 1);
            due(x.undo(), 5);
            due(x.count(0), 3);
            due(x.count(2), 150);
            due(x.count(3), 4);
            due(x.count(8), 5);
            due(x.count(7), 1);
            due(x.held(0, 0), 2);
            due(x.held(0, 2), 2);
            due(x.line(1, 2), 50);
            row(x, 0, 48, 2);
            // A payment of 1 that was HELD comes back whole, though another one was at its place.
            TrustClub y = chain();
            due(y.holds(2, 0, 1), 0);
            due(y.letsGo(0), 1);
            due(y.holds(1, 0, 5), 0);
            due(y.letsGo(0), 5);
            due(y.undo(), 4);
            due(y.held(0, 0), 1);
            due(y.undo(), 3);
            due(y.undo(), 2);
            int[] held = {2, 0, 1, 2};
            for (int what = 0; what < 4; what++) {
                due(y.held(0, what), held[what]);
            }
            due(y.makes(0), 1);
            due(y.net(2), -1);
            due(y.net(0), 1);
            due(y.count(3), 2);
        });
        says("Refused: none.", () -> {
            TrustClub x = new TrustClub();
            stays(x, -1, () -> x.undo());
            due(x.stocks(0, 1), 0);
            due(x.undo(), 0);
            stays(x, -1, () -> x.undo());
        });
        says("(again() forgets them, if it is not refused.)", () -> {
            TrustClub x = used();
            due(x.keep(0), true);
            due(x.again(1), false);
            due(x.again(2), false);
            due(x.count(4), 5);
            due(x.again(0), true);
            due(x.count(4), 0);
            stays(x, -1, () -> x.undo());
            due(x.stocks(0, 6), 5);
            due(x.undo(), 0);
        });
    }

    /** What was not done, and what is no change, can't be undone. */
    private static void notDone() {
        TrustClub x = usedAndFree();
        int ahead = x.count(4);
        due(x.pays(2, 0, 51), -4);
        due(x.whole(2, 0, 51), -4);
        due(x.holds(2, 0, 51), -4);
        due(x.makes(0), -1);
        due(x.letsGo(0), -1);
        due(tell(x, "ca0051").batch(), -100);
        due(tell(x, "ca0001").orders(), 1);
        due(x.settles(), -2);
        due(x.limits(0, 1, 100), -2);
        due(x.lets(1, 0, 5), -4);
        due(x.leaves(0), -4);
        due(x.stocks(0, 5), -2);
        due(tell(x, "9").club(), -1);
        due(x.sheet(2, 2, 1, 7, 0), 1);
        due(x.years(1, 30) >= 0, true);
        due(x.keep(0), true);
        due(x.count(4), ahead);
    }

    private static void promise38() {
        says("n times (1 .. 30; it is forgotten)", () -> {
            // R by 65536 from seed 37: 33193, 62812, 14640: b pays a 1.
            TrustClub x = club("2ab001");
            due(x.years(37, 1), 1);
            row(x, 1, 0);
            due(x.count(3), 0);
            due(x.count(4), 1);
            due(x.years(37, 30) >= 1, true);
            due(x.count(3), 0);
            due(x.line(0, 1), 1);
            row(x, 0, 1, 0);
        });
        says("a PAYMENT, SPLIT, of 1 more than the last (of one to itself: nothing; one that can't be made is not): "
                + "how many were made;", () -> {
            // From seed 4: 1817, 56934, 43259: of 3 c pays a 60, the most that is drawn.
            TrustClub x = club("3ac060");
            due(x.years(4, 1), 1);
            row(x, 60, 0);
            due(x.limits(0, 2, 59), 60);
            due(x.years(4, 1), 0);
            row(x, 0, 0);
            // From seed 8: 3634, 59632: b to b. From 22: 42762, 36309, 45522: a to a; then 19188, 19846, 63246: a pays b 7.
            TrustClub y = club("3ba007");
            due(y.years(8, 1), 0);
            row(y, 0, 0);
            due(y.years(22, 1), 0);
            due(y.years(22, 2), 1);
            row(y, 7, 0);
            due(y.limits(1, 0, 6), 7);
            due(y.years(22, 2), 0);
            // From seed 154: b pays a 20, 45, 20. The second one can't be made, the third one can.
            TrustClub z = club("2ab040");
            due(z.years(154, 1), 1);
            row(z, 20, 0);
            due(z.years(154, 2), 1);
            row(z, 20, 0);
            due(z.years(154, 3), 2);
            row(z, 40, 0);
        });
        says("the ROW: what all OWE then, RINGS that would be SETTLED then.", () -> {
            TrustClub x = triangle();
            due(x.limits(0, 2, 9), 100);
            due(x.limits(1, 0, 5), 100);
            due(x.limits(2, 1, 7), 100);
            // From seed 8: b to b; the ring that is there stays.
            due(x.years(8, 1), 0);
            row(x, 21, 1);
            due(x.count(3), 21);
        });
        says("NONE: another n.", () -> {
            TrustClub x = used();
            for (int n : new int[] {0, 31, -1, LOWEST, HIGHEST}) {
                stays(x, -1, () -> x.years(1, n));
            }
            due(x.years(1, 1) >= 0, true);
            due(x.years(1, 30) >= 0, true);
        });
        says("R = R times 1103515245 + 12345 (as ints; R is seed at first), (R without sign, by 65536) % n.", () -> {
            // From the lowest int: 32768, 21468, 9988: the first R is below 0 as an int; c pays a 29.
            TrustClub x = club("3ac029");
            due(x.years(LOWEST, 1), 1);
            row(x, 29, 0);
            due(x.limits(0, 2, 28), 29);
            due(x.years(LOWEST, 1), 0);
            // From -1: 48697, 4409, 9862: b pays c 23.
            TrustClub y = club("3cb023");
            due(y.years(-1, 1), 1);
            row(y, 23, 0);
            due(y.limits(2, 1, 22), 23);
            due(y.years(-1, 1), 0);
            // From the highest int: 15929, 37177, 42630: c pays b 31.
            TrustClub z = club("3bc031");
            due(z.years(HIGHEST, 1), 1);
            row(z, 31, 0);
            due(z.limits(1, 2, 30), 31);
            due(z.years(HIGHEST, 1), 0);
        });
    }

    // ---- kept

    private static void promise39() {
        says("are kept under a number 0 .. 1: true.", () -> {
            TrustClub x = chain();
            due(x.keep(0), true);
            due(x.pays(1, 0, 1), 1);
            due(x.keep(1), true);
            due(x.pays(1, 0, 1), 1);
            due(x.again(0), true);
            due(x.count(3), 0);
            due(x.again(1), true);
            due(x.count(3), 1);
            // Kept once more under one of them; the other one stays.
            due(x.keep(0), true);
            due(x.pays(1, 0, 5), 1);
            due(x.keep(1), true);
            due(x.again(0), true);
            due(x.count(3), 1);
            due(x.again(1), true);
            due(x.count(3), 6);
        });
        says("Refused: others.", () -> {
            TrustClub x = used();
            for (int i : new int[] {-1, 2, LOWEST, HIGHEST}) {
                stays(x, 0, () -> x.keep(i) ? 1 : 0);
                stays(x, 0, () -> x.again(i) ? 1 : 0);
            }
        });
    }

    private static void promise40() {
        says("They are as they were kept under a number.", () -> {
            TrustClub x = used();
            due(x.keep(1), true);
            due(tell(x, "2").club(), 0);
            due(x.again(1), true);
            due(x.count(0), 3);
            due(x.count(2), 150);
            due(x.count(3), 4);
            due(x.count(8), 5);
            due(x.held(0, 2), 2);
            due(x.makes(0), 2);
            due(x.holds(1, 0, 7), 0);
            due(x.again(1), true);
            due(x.count(7), 1);
            int[] held = {2, 1, 2, 1};
            for (int what = 0; what < 4; what++) {
                due(x.held(0, what), held[what]);
            }
            due(x.line(1, 2), 50);
            row(x, 0, 48, 2);
        });
        says("Refused: nothing kept.", () -> {
            TrustClub x = used();
            stays(x, 0, () -> x.again(0) ? 1 : 0);
            stays(x, 0, () -> x.again(1) ? 1 : 0);
            due(x.keep(1), true);
            stays(x, 0, () -> x.again(0) ? 1 : 0);
            stays(x, 0, () -> x.again(2) ? 1 : 0);
            stays(x, 0, () -> x.again(-1) ? 1 : 0);
            due(x.again(1), true);
        });
    }

    private static void promise41() {
        says("What 0: N, 1: LINES of a LIMIT above 0, 2: all LIMITS together, 3: what all OWE, 4: what can be undone, "
                + "5: numbers of the ROW, 6: signs of THE TEXT, 7: places at which a PAYMENT is HELD (bits), 8: STOCKS "
                + "together.", () -> {
            TrustClub x = club("8ab000ba001ha999");
            due(x.count(0), 8);
            due(x.count(1), 2);
            due(x.count(2), 1000);
            due(x.holds(0, 7, 3), 0);
            due(x.holds(0, 7, 3), 1);
            due(x.count(7), 3);
            due(x.letsGo(0), 3);
            due(x.count(7), 2);
            TrustClub y = rich();
            due(y.count(1), 56);
            due(y.count(2), 56 * 999);
            due(y.count(3), 13 * 999);
            due(y.count(4), 8);
            for (int m = 0; m < 8; m++) {
                due(y.stocks(m, 999), 0);
            }
            due(y.count(8), 8 * 999);
            due(y.pays(0, 7, 9999), 6);
            due(y.count(5), 12);
        });
        says("NONE for another what.", () -> {
            TrustClub x = used();
            for (int what : new int[] {-1, 9, LOWEST, HIGHEST}) {
                stays(x, -1, () -> x.count(what));
            }
        });
    }

    private static void promise42() {
        says("NoSuchElementException: none such.", () -> {
            TrustClub x = chain();
            for (int i : new int[] {0, -1, 1, LOWEST, HIGHEST}) {
                dueThrow(() -> x.row(i));
            }
            due(x.way(2, 0, 1), 3);
            due(x.row(2), 0);
            for (int i : new int[] {3, -1, 511, 512, LOWEST, HIGHEST}) {
                dueThrow(() -> x.row(i));
            }
            // A shorter ROW leaves nothing of a longer one.
            due(x.reach(2, 1), 3);
            due(x.row(0), 2);
            dueThrow(() -> x.row(1));
            due(x.count(5), 1);
        });
    }
}
