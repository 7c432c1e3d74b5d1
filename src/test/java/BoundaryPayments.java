import java.io.IOException;

/** The boundary cases of promises 14 to 31: payments, and what would be. */
public final class BoundaryPayments extends Sentences {
    public static void main(String[] args) throws IOException {
        run(14, new Runnable[] {
            BoundaryPayments::promise14, BoundaryPayments::promise15, BoundaryPayments::promise16,
            BoundaryPayments::promise17, BoundaryPayments::promise18, BoundaryPayments::promise19,
            BoundaryPayments::promise20, BoundaryPayments::promise21, BoundaryPayments::promise22,
            BoundaryPayments::promise23, BoundaryPayments::promise24, BoundaryPayments::promise25,
            BoundaryPayments::promise26, BoundaryPayments::promise27, BoundaryPayments::promise28,
            BoundaryPayments::promise29, BoundaryPayments::promise30, BoundaryPayments::promise31});
    }

    // ---- payments

    private static void promise14() {
        says("how many PARTS; the ROW: of each how many MEMBERS are on its WAY (both ends, too), how much.", () -> {
            TrustClub x = chain();
            due(x.pays(1, 0, 1), 1);
            row(x, 2, 1);
            TrustClub y = longChain();
            due(y.pays(0, 7, 1), 1);
            row(y, 8, 1);
            TrustClub z = detour();
            due(z.pays(0, 5, 2), 2);
            row(z, 4, 1, 8, 1);
        });
        says("-4: it can't be made (the ROW: MOST);", () -> {
            TrustClub x = diamond();
            due(x.pays(0, 3, 31), -4);
            row(x, 30);
            due(x.pays(0, 3, 9999), -4);
            row(x, 30);
            due(x.pays(3, 0, 1), -4);
            row(x, 0);
            due(x.count(3), 0);
            due(x.count(4), 1);
            due(x.pays(0, 3, 30), 2);
            due(x.pays(0, 3, 1), -4);
            row(x, 0);
        });
        says("NONE: no such MEMBERS, both are one, x not 1 .. 9999.", () -> {
            noPayment(Sentences::used, (c, from, to, sum) -> c.pays(from, to, sum));
        });
    }

    private static void promise15() {
        says("-4: it can't be made (the ROW: the most that could be, WHOLE);", () -> {
            TrustClub x = diamond();
            due(x.whole(0, 3, 21), -4);
            row(x, 20);
            due(x.whole(3, 0, 1), -4);
            row(x, 0);
            due(x.count(3), 0);
            due(x.count(4), 1);
            due(x.whole(0, 3, 20), 3);
            due(x.whole(0, 3, 11), -4);
            row(x, 10);
            // a can pay b, but c nobody.
            TrustClub z = club("3ba010");
            due(z.whole(2, 1, 5), -4);
            row(z, 0);
            // The most goes by the longest way.
            TrustClub y = club("4da001ba009cb008dc009");
            due(y.whole(0, 3, 9), -4);
            row(y, 8);
        });
        says("NONE: as pays().", () -> {
            TrustClub x = used();
            noPayment(Sentences::used, (c, from, to, sum) -> c.whole(from, to, sum));
            due(x.whole(2, 0, 9999), -4);
            row(x, 48);
        });
    }

    private static void promise16() {
        says("A PAYMENT is HELD at the least place that is free: it; the ROW: PARTS.", () -> {
            TrustClub x = diamond();
            due(x.holds(0, 3, 11), 0);
            row(x, 2);
            due(x.holds(0, 3, 1), 1);
            row(x, 1);
            due(x.holds(0, 3, 1), 2);
            due(x.letsGo(0), 11);
            due(x.letsGo(1), 1);
            due(x.holds(0, 3, 1), 0);
            due(x.holds(0, 3, 1), 1);
            due(x.holds(0, 3, 1), 3);
            due(x.makes(2), 1);
            due(x.holds(0, 3, 1), 2);
        });
        says("-3: four are;", () -> {
            TrustClub x = chain();
            for (int i = 0; i < 4; i++) {
                due(x.holds(1, 0, 1), i);
            }
            stays(x, -3, () -> x.holds(1, 0, 1));
            // Ahead of -4.
            stays(x, -3, () -> x.holds(1, 0, 9999));
            stays(x, -3, () -> x.holds(0, 1, 1));
            due(x.letsGo(3), 1);
            due(x.holds(1, 0, 98), -4);
            row(x, 97);
            due(x.holds(1, 0, 97), 3);
        });
        says("-4: it can't be made (the ROW: MOST);", () -> {
            TrustClub x = chain();
            due(x.holds(2, 0, 51), -4);
            row(x, 50);
            due(x.count(7), 0);
            due(x.count(4), 1);
            due(x.holds(2, 0, 50), 0);
            due(x.holds(2, 0, 1), -4);
            row(x, 0);
            due(x.count(7), 1);
            // What is HELD by another one makes ROOM less.
            due(x.holds(1, 0, 51), -4);
            row(x, 50);
        });
        says("NONE: as pays().", () -> {
            noPayment(Sentences::used, (c, from, to, sum) -> c.holds(from, to, sum));
        });
    }

    private static void promise17() {
        says("NONE: none is.", () -> {
            noPlace((c, place) -> c.makes(place));
            TrustClub x = used();
            due(x.makes(0), 2);
            stays(x, -1, () -> x.makes(0));
            due(x.holds(1, 0, 1), 0);
            due(x.letsGo(0), 1);
            stays(x, -1, () -> x.makes(0));
        });
    }

    private static void promise18() {
        says("NONE: none is.", () -> {
            noPlace((c, place) -> c.letsGo(place));
            TrustClub x = used();
            due(x.letsGo(0), 2);
            stays(x, -1, () -> x.letsGo(0));
            due(x.holds(1, 0, 1), 0);
            due(x.makes(0), 1);
            stays(x, -1, () -> x.letsGo(0));
        });
    }

    private static void promise19() {
        says("NoSuchElementException: none such, another what.", () -> {
            TrustClub x = used();
            for (int place : new int[] {1, 2, 3, 4, -1, 8, LOWEST, HIGHEST}) {
                for (int what = 0; what < 4; what++) {
                    int w = what;
                    dueThrow(() -> x.held(place, w));
                }
            }
            for (int what : new int[] {-1, 4, LOWEST, HIGHEST}) {
                dueThrow(() -> x.held(0, what));
            }
            due(x.held(0, 0), 2);
            due(x.held(0, 1), 1);
            due(x.held(0, 2), 2);
            due(x.held(0, 3), 1);
            row(x, 2, 3);
            due(x.letsGo(0), 2);
            dueThrow(() -> x.held(0, 0));
        });
    }

    private static void promise20() {
        says("NONE: as most(), another what.", () -> {
            noPair(Sentences::used, (c, from, to) -> c.mostThen(from, to, 0));
            noPair(Sentences::used, (c, from, to) -> c.mostThen(from, to, 1));
            for (int what : new int[] {-1, 2, LOWEST, HIGHEST}) {
                stays(Sentences::used, -1, c -> c.mostThen(2, 0, what));
            }
            // b lets c owe 50, of which 2 are HELD.
            stays(Sentences::used, 48, c -> c.mostThen(2, 1, 0));
            stays(Sentences::used, 50, c -> c.mostThen(2, 1, 1));
            stays(Sentences::used, 2, c -> c.mostThen(1, 2, 0));
            stays(Sentences::used, 0, c -> c.mostThen(1, 2, 1));
        });
    }

    private static void batchFault(String s, int p) {
        staysButText(Sentences::used, s, -1 - p, c -> c.batch());
    }

    private static void promise21() {
        says("THE TEXT tells PAYMENTS (an empty one: none; 8 at most), one behind another, without signs between: two "
                + "letters, four digits", () -> {
            staysButText(Sentences::used, "", 0, c -> c.batch());
            TrustClub x = used();
            due(tell(x, "ba0001".repeat(8)).batch(), 8);
            due(x.net(0), 12);
            batchFault("ba0001".repeat(9), 48);
            batchFault("ba0001 ba0001", 6);
            batchFault("ba0001,", 6);
            batchFault("ba00011", 6);
        });
        says("all of them are made, SPLIT, one by one, or none: how many.", () -> {
            TrustClub x = chain();
            due(tell(x, "ca0050").batch(), 1);
            due(tell(x, "ba0050ba0001").batch(), -101);
            row(x, 0);
            due(x.count(3), 100);
            due(x.count(4), 2);
            // Each one is made as the ones ahead of it left all: a can pay only what it got.
            due(tell(x, "ba0050ab0100").batch(), 2);
            due(x.net(0), 0);
            // Nothing is left of a longer text ahead of it.
            due(tell(x, "ba0002ba0003").batch(), 2);
            due(tell(x, "ba0001").batch(), 1);
            due(x.net(0), 6);
        });
        says("-1 - p: the sign at p can't stand there", () -> {
            batchFault("ba00a1", 4);
            batchFault("ba/001", 2);
            batchFault("ba000:", 5);
            batchFault("BA0001", 0);
            batchFault("ba0001b10001", 7);
            // Faults of the text come ahead of payments that can't be made.
            batchFault("ac0001ba000x", 11);
        });
        says("the fourth digit, if all are 0", () -> {
            batchFault("ba0000", 5);
            batchFault("ba0001ba0000", 11);
            due(tell(chain(), "ba0001").batch(), 1);
            due(tell(chain(), "ba0010").batch(), 1);
            due(tell(chain(), "ba0100").batch(), 1);
            due(tell(chain(), "ba1000").batch(), -100);
        });
        promise21Faults();
    }

    private static void promise21Faults() {
        says("the first sign of a ninth one", () -> {
            batchFault("ba0001".repeat(8) + "b", 48);
            batchFault("ba0001".repeat(8) + "x", 48);
            batchFault("ba0001".repeat(13) + "ba", 48);
            due(tell(chain(), "ba0001".repeat(8)).batch(), 8);
        });
        says("a letter of a MEMBER that there is not", () -> {
            batchFault("da0001", 0);
            batchFault("ad0001", 1);
            batchFault("`a0001", 0);
            batchFault("a`0001", 1);
            batchFault("ba0001ha0001", 6);
        });
        says("the second one, if both are one", () -> {
            batchFault("aa0001", 1);
            batchFault("ba0001cc0001", 7);
        });
        says("its end, if it ends too early", () -> {
            batchFault("b", 1);
            batchFault("ba", 2);
            batchFault("ba0", 3);
            batchFault("ba00", 4);
            batchFault("ba000", 5);
            batchFault("ba0001b", 7);
        });
        says("-100 - k: PAYMENT k (from 0) is the first that can't be made (the ROW: MOST of it then).", () -> {
            TrustClub x = chain();
            due(tell(x, "ba0101").batch(), -100);
            row(x, 100);
            due(tell(x, "ba0040ba0061ba9999").batch(), -101);
            row(x, 60);
            due(tell(x, "ba0001".repeat(7) + "ba0094").batch(), -107);
            row(x, 93);
            due(x.count(3), 0);
            due(x.count(4), 1);
            due(x.count(6), 0);
        });
    }

    private static void ordersFault(String s, int p) {
        staysButText(Sentences::used, s, -1 - p, c -> c.orders());
    }

    private static void promise22() {
        says("THE TEXT, as for batch(), of 5 PAYMENTS at most (else the first sign of the sixth can't stand)", () -> {
            TrustClub x = chain();
            due(tell(x, "ba0001".repeat(5)).orders(), 5);
            row(x, 0, 1, 2, 3, 4, 120);
            due(tell(x, "").orders(), 0);
            row(x, 1);
            ordersFault("ba0001".repeat(6), 30);
            ordersFault("ba0001".repeat(5) + "b", 30);
            ordersFault("ba0001".repeat(5) + "?", 30);
            ordersFault("ba0001".repeat(4) + "ba000", 29);
        });
        says("in which order they can all be made, SPLIT (the first one, by numbers): how many PAYMENTS; the ROW: that "
                + "order, how many orders there are.", () -> {
            TrustClub x = club("2ab010");
            due(tell(x, "ba0010").orders(), 1);
            row(x, 0, 1);
            due(tell(x, "ab0010ba0010").orders(), 2);
            row(x, 1, 0, 1);
            // The two of b in either order, that of a behind one of them: 1 0 2, 1 2 0, 2 0 1, 2 1 0.
            due(tell(x, "ab0001ba0004ba0005").orders(), 3);
            row(x, 1, 0, 2, 4);
            due(x.count(3), 0);
            due(x.count(4), 1);
        });
        says("-200: in none;", () -> {
            staysButText(Sentences::used, "ac0001", -200, c -> c.orders());
            staysButText(Sentences::used, "ba0096ba0001", -200, c -> c.orders());
            TrustClub x = used();
            due(tell(x, "ba0095ba0001").orders(), 2);
            row(x, 0, 1, 2);
        });
        says("-1 - p: as batch().", () -> {
            ordersFault("ba00a1", 4);
            ordersFault("ba0000", 5);
            ordersFault("da0001", 0);
            ordersFault("ad0001", 1);
            ordersFault("aa0001", 1);
            ordersFault("b", 1);
            ordersFault("ba", 2);
            ordersFault("ba000", 5);
            ordersFault("ba0001 ", 6);
        });
    }

    private static void promise23() {
        says("The FIRST RING is SETTLED, again and again, till there is none: how many; the ROW: how much less all OWE.", () -> {
            TrustClub x = triangle();
            due(x.settles(), 1);
            row(x, 15);
            TrustClub z = club("4ba009db009ca009dc009ad009");
            due(z.whole(0, 1, 7), 2);
            due(z.whole(1, 3, 7), 2);
            due(z.whole(0, 2, 6), 2);
            due(z.whole(2, 3, 6), 2);
            due(z.whole(3, 0, 8), 2);
            due(z.settles(), 2);
            row(z, 24);
            due(z.count(3), 10);
            due(z.ring(), -2);
        });
        says("-2: there was none.", () -> {
            TrustClub x = usedAndFree();
            stays(x, -2, () -> x.settles());
            TrustClub y = triangle();
            due(y.settles(), 1);
            stays(y, -2, () -> y.settles());
        });
    }

    // ---- what would be

    private static void promise24() {
        says("The LINE of which the least raise of its LIMIT (999 at most) lets a PAYMENT of x be made", () -> {
            // From b to a 100; LIMIT 999 would let 999 be paid.
            TrustClub x = club("2ab100");
            due(x.raise(1, 0, 101), 1);
            row(x, 1);
            due(x.raise(1, 0, 999), 1);
            row(x, 899);
            due(x.raise(1, 0, 1000), -3);
            due(x.raise(0, 1, 999), 10);
            row(x, 999);
            due(x.raise(0, 1, 1000), -3);
            // What b owes a goes the other way besides.
            due(x.pays(1, 0, 7), 1);
            due(x.raise(0, 1, 1006), 10);
            row(x, 999);
            due(x.raise(0, 1, 1007), -3);
            due(x.raise(1, 0, 992), 1);
            due(x.raise(1, 0, 993), -3);
        });
        says("(of equal raises the first LINE)", () -> {
            // From c to a: 5 by b, 5 straight. a's line to c, b's to c if a's to b were wider, too.
            TrustClub x = club("3ab020bc005ac005");
            due(x.raise(2, 0, 12), 2);
            row(x, 2);
            due(x.limits(0, 2, 998), 5);
            due(x.raise(2, 0, 1004), 2);
            row(x, 1);
            due(x.raise(2, 0, 1005), 12);
            row(x, 2);
            due(x.raise(2, 0, 1018), 12);
            row(x, 15);
            due(x.raise(2, 0, 1019), -3);
        });
        says("-2: it can be made now;", () -> {
            TrustClub x = used();
            stays(x, -2, () -> x.raise(2, 0, 48));
            due(x.raise(2, 0, 49), 2);
            row(x, 1);
        });
        says("-3: there is no such LINE;", () -> {
            // No one LINE alone can let c pay a.
            TrustClub x = used();
            stays(x, -3, () -> x.raise(2, 0, 9999));
            // a's line to b is full; by b, to whom just 1 more can go, one LINE can.
            TrustClub z = club("3ca999ba001");
            due(z.raise(0, 2, 1000), 21);
            row(z, 1);
            due(z.raise(0, 2, 1001), -3);
            TrustClub y = club("4");
            due(y.raise(0, 3, 1), 30);
            row(y, 1);
            stays(y, -3, () -> y.raise(0, 3, 1000));
            due(club("8").raise(0, 7, 1), 70);
            due(club("8").raise(7, 0, 1), 7);
        });
        says("NONE: as pays().", () -> {
            noPayment(Sentences::used, (c, from, to, sum) -> c.raise(from, to, sum));
        });
    }

    private static void promise25() {
        says("how many rounds in which some FAIL behind it", () -> {
            TrustClub x = longChain();
            due(x.pays(0, 7, 1), 1);
            due(x.fails(0), 7);
            row(x, 255, 7, 0);
            due(x.fails(6), 1);
            row(x, 64 | 128, 1, 0);
            due(x.fails(7), 0);
            row(x, 128, 0, 0);
            due(x.stocks(4, 1), 0);
            due(x.fails(0), 3);
            row(x, 15, 4, 1);
            // The first one's own LOSS does not make it FAIL once more.
            TrustClub y = triangle();
            due(y.fails(0), 2);
            row(y, 7, 21, 0);
        });
        says("NONE: no such one.", () -> {
            noMember(Sentences::used, (c, m) -> c.fails(m));
        });
    }

    private static void promise26() {
        says("(of equal ones the first): it; the ROW: that, how many FAIL besides.", () -> {
            // b owes a 5, d owes c 5.
            TrustClub x = club("4ab010cd010");
            due(x.pays(3, 2, 5), 1);
            due(x.worst(), 3);
            row(x, 5, 1);
            due(x.pays(1, 0, 5), 1);
            due(x.worst(), 1);
            row(x, 5, 1);
            due(x.stocks(0, 5), 0);
            due(x.worst(), 1);
            row(x, 5, 0);
            due(x.pays(3, 2, 1), 1);
            due(x.worst(), 3);
            row(x, 6, 1);
            TrustClub y = club("2ba005");
            due(y.pays(0, 1, 1), 1);
            due(y.worst(), 0);
            row(y, 1, 1);
        });
        says("-2: LOSS is 0 by each.", () -> {
            TrustClub x = chain();
            due(x.reach(0, 1), 0);
            stays(x, -2, () -> x.worst());
            due(x.pays(1, 0, 1), 1);
            due(x.worst(), 1);
            row(x, 1, 1);
            due(x.lets(1, 0, 1), 0);
            stays(x, -2, () -> x.worst());
        });
    }

    private static void promise27() {
        says("The other MEMBER to which alone more STOCK (beyond 999, too) given would keep all others from FAILING", () -> {
            // One that is owed 999 needs that; a debt is never more, so STOCK beyond 999 is never the least.
            TrustClub x = club("2ab999");
            due(x.pays(1, 0, 999), 1);
            due(x.enough(1), 0);
            row(x, 999);
            due(x.stocks(0, 998), 0);
            due(x.enough(1), 0);
            row(x, 1);
            due(x.stocks(0, 999), 998);
            due(x.enough(1), -2);
        });
        says("it; the ROW: how much more at least.", () -> {
            TrustClub x = longChain();
            due(x.pays(0, 7, 1), 1);
            due(x.enough(0), 1);
            row(x, 1);
            // b FAILS first, and all others by it: what b is owed by a counts alone.
            TrustClub y = triangle();
            due(y.enough(0), 1);
            row(y, 5);
            due(y.stocks(1, 4), 0);
            due(y.enough(0), 1);
            row(y, 1);
        });
        says("-2: no other one FAILS by it;", () -> {
            TrustClub x = usedAndFree();
            stays(x, -2, () -> x.enough(0));
            due(x.stocks(0, 3), 5);
            due(x.enough(1), 0);
            row(x, 1);
            due(x.stocks(0, 4), 3);
            stays(x, -2, () -> x.enough(1));
        });
        says("-3: there is no such MEMBER;", () -> {
            // a owes b 1 and c 2: both FAIL at once.
            TrustClub x = club("4ba009ca009");
            due(x.whole(0, 1, 1), 2);
            due(x.whole(0, 2, 2), 2);
            stays(x, -3, () -> x.enough(0));
            due(x.stocks(2, 1), 0);
            stays(x, -3, () -> x.enough(0));
            due(x.stocks(2, 2), 1);
            due(x.enough(0), 1);
            row(x, 1);
        });
        says("NONE: no such one.", () -> {
            noMember(Sentences::used, (c, m) -> c.enough(m));
        });
    }

    private static void promise28() {
        says("MOST, were a third MEMBER on no WAY: it; the ROW: how much less that is.", () -> {
            TrustClub x = diamond();
            due(x.without(0, 3, 1), 20);
            row(x, 10);
            due(x.without(0, 2, 1), 20);
            row(x, 0);
            due(chain().without(2, 0, 1), 0);
        });
        says("NONE: no such MEMBERS, two are one.", () -> {
            noMember(Sentences::used, (c, m) -> c.without(2, 0, m));
            noPair(Sentences::used, (c, from, to) -> c.without(from, to, 1));
            noPair(Sentences::used, (c, from, to) -> c.without(from, 1, to));
            noPair(Sentences::used, (c, from, to) -> c.without(1, from, to));
            stays(Sentences::used, -1, c -> c.without(1, 1, 1));
            TrustClub two = club("2ab001");
            stays(two, -1, () -> two.without(1, 0, 2));
        });
    }

    private static void promise29() {
        says("The third MEMBER without which MOST would be least (of equal ones the first): it; the ROW: that MOST.", () -> {
            TrustClub x = diamond();
            due(x.key(0, 3), 2);
            row(x, 10);
            due(x.limits(1, 0, 20), 10);
            due(x.key(0, 3), 1);
            row(x, 20);
            due(x.limits(1, 0, 21), 20);
            due(x.key(0, 3), 1);
            row(x, 20);
            // Without anybody all goes the same way: the first one that is neither end.
            due(x.key(3, 0), 1);
            row(x, 0);
            due(x.key(3, 1), 0);
            row(x, 0);
        });
        says("-2: there are two MEMBERS alone;", () -> {
            TrustClub x = club("2ab005");
            due(x.reach(1, 1), 1);
            stays(x, -2, () -> x.key(1, 0));
            stays(x, -2, () -> x.key(0, 1));
            stays(x, -1, () -> x.key(0, 2));
            due(club("3ab005").key(1, 0), 2);
        });
        says("NONE: as most().", () -> {
            noPair(Sentences::used, (c, from, to) -> c.key(from, to));
        });
    }

    private static void promise30() {
        says("MOST, were a LIMIT v (0 .. 999; not less than what is OWED by it: -4): it.", () -> {
            TrustClub x = chain();
            due(x.pays(1, 0, 5), 1);
            stays(x, 994, () -> x.were(1, 0, 0, 1, 999));
            stays(x, 0, () -> x.were(1, 0, 0, 1, 5));
            stays(x, -4, () -> x.were(1, 0, 0, 1, 4));
            stays(x, -4, () -> x.were(1, 0, 0, 1, 0));
            stays(x, 5, () -> x.were(0, 1, 1, 0, 0));
            stays(x, 1004, () -> x.were(0, 1, 1, 0, 999));
            stays(x, -1, () -> x.were(1, 0, 0, 1, 1000));
            stays(x, -1, () -> x.were(1, 0, 0, 1, -1));
            // The LIMIT that it has.
            stays(x, 95, () -> x.were(1, 0, 0, 1, 100));
        });
        says("NONE: others.", () -> {
            TrustClub x = used();
            noPair(Sentences::used, (c, from, to) -> c.were(from, to, 0, 1, 50));
            noPair(Sentences::used, (c, from, to) -> c.were(2, 0, from, to, 50));
            noLimit(Sentences::used, (c, v) -> c.were(2, 0, 0, 1, v));
            // Ahead of -4.
            stays(x, -1, () -> x.were(0, 0, 0, 1, 0));
            stays(x, -4, () -> x.were(2, 0, 0, 1, 3));
        });
    }

    private static void promise31() {
        says("1 if two PAYMENTS (SPLIT) can be made one behind the other, the first one first, 2 if the other way "
                + "round alone, 3 if either way, 0 if neither", () -> {
            TrustClub x = club("2ab010");
            due(x.both(1, 0, 10, 0, 1, 10), 1);
            due(x.both(0, 1, 10, 1, 0, 10), 2);
            due(x.both(1, 0, 4, 1, 0, 6), 3);
            due(x.both(1, 0, 4, 1, 0, 7), 0);
            due(x.both(1, 0, 11, 0, 1, 1), 0);
            due(x.both(0, 1, 11, 1, 0, 10), 0);
            due(x.count(3), 0);
        });
        says("the ROW: MOST of the second one behind the first one (NONE if that can't be made).", () -> {
            TrustClub x = club("2ab010");
            due(x.both(1, 0, 10, 0, 1, 11), 0);
            row(x, 10);
            due(x.both(1, 0, 10, 1, 0, 1), 0);
            row(x, 0);
            due(x.both(1, 0, 11, 1, 0, 1), 0);
            row(x, -1);
            due(x.both(0, 1, 10, 1, 0, 10), 2);
            row(x, -1);
        });
        says("NONE: no such MEMBERS, both of one are one, x or y not 1 .. 9999.", () -> {
            TrustClub x = used();
            noPayment(Sentences::used, (c, from, to, sum) -> c.both(from, to, sum, 1, 0, 1));
            noPayment(Sentences::used, (c, from, to, sum) -> c.both(1, 0, 1, from, to, sum));
            due(x.both(1, 0, 9999, 1, 0, 1), 0);
            due(x.both(1, 0, 1, 1, 0, 9999), 0);
            // Both payments may be of the same two.
            due(x.both(1, 0, 1, 1, 0, 1), 3);
        });
    }
}
