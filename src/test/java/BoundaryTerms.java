import java.io.IOException;

/** The boundary cases that the document names ahead of the promises. */
public final class BoundaryTerms extends Sentences {
    public static void main(String[] args) throws IOException {
        run(0, new Runnable[] {
            BoundaryTerms::terms});
    }

    // ---- what stands ahead of the promises

    private static void terms() {
        says("An object is used for at most 512 calls after it has been made", () -> {
            TrustClub x = new TrustClub();
            int calls = 0;
            due(x.limits(0, 1, 999), 0);
            calls++;
            while (calls < 510) {
                due(x.pays(1, 0, 1), 1);
                calls++;
            }
            due(x.count(3), 509);
            due(x.undo(), 7);
        });
        termsOfLines();
        termsOfPayments();
        termsOfHeldOnes();
        termsOfRingsAndFailing();
        termsOfAnswers();
    }

    private static void termsOfLines() {
        says("MEMBERS a .. h (0 .. N - 1), N 2 .. 8 (2 at first)", () -> {
            due(new TrustClub().count(0), 2);
            due(club("2").line(1, 0), 0);
            due(club("2").line(2, 0), -1);
            due(club("8").line(7, 0), 0);
            due(club("8").line(8, 0), -1);
            due(club("8").line(0, -1), -1);
            due(readClub("1"), -1);
            due(readClub("9"), -1);
            clubOfEight();
        });
        says("A LINE from v to u (unlike ones)", () -> {
            TrustClub x = chain();
            stays(x, -1, () -> x.line(1, 1));
            stays(x, -1, () -> x.limits(1, 1, 5));
            stays(x, -1, () -> x.were(2, 0, 1, 1, 5));
            due(readClub("2bb001"), -3);
        });
        says("has a LIMIT 0 .. 999 (0 at first)", () -> {
            TrustClub x = new TrustClub();
            due(x.line(0, 1), 0);
            due(x.line(1, 0), 0);
            due(x.limits(0, 1, 999), 0);
            due(x.limits(0, 1, 1000), -1);
            due(x.limits(0, 1, -1), -1);
            due(x.limits(0, 1, 0), 999);
            due(club("2ab999").line(0, 1), 999);
        });
        says("OWES of u to v (0 at first): of each two at most one owes the other.", () -> {
            TrustClub x = club("2ab010ba010");
            due(x.line(0, 1), 10);
            row(x, 0, 10, 0);
            due(x.pays(1, 0, 10), 1);
            due(x.pays(0, 1, 15), 1);
            due(x.line(0, 1), 10);
            row(x, 0, 15, 0);
            due(x.line(1, 0), 10);
            row(x, 5, 5, 0);
            due(x.count(3), 5);
        });
        says("If u PAYS v straight x (at most ROOM)", () -> {
            TrustClub x = chain();
            due(x.whole(1, 0, 101), -4);
            row(x, 100);
            due(x.whole(1, 0, 100), 2);
            due(x.whole(1, 0, 1), -4);
            row(x, 0);
            due(x.whole(0, 1, 101), -4);
            row(x, 100);
        });
        says("OWES of v to u is less by it, as far as there is any; by the rest OWES of u to v is more.", () -> {
            long[][] behind = {{1, -1}, {0, 0}, {-1, 1}};
            for (int i = 0; i < 3; i++) {
                TrustClub x = club("2ab010ba010");
                due(x.pays(1, 0, 10), 1);
                due(x.pays(0, 1, 9 + i), 1);
                due(x.net(0), behind[i][0]);
                due(x.net(1), behind[i][1]);
                due(x.debts(), i == 1 ? 0 : 1);
            }
        });
    }

    /** Debts of the first ones and of the last ones of a club that is full: each counts once. */
    private static void clubOfEight() {
        TrustClub x = club("8ah009hg009bh009ba009");
        due(x.whole(6, 7, 4), 2);
        due(x.whole(7, 0, 3), 2);
        due(x.whole(7, 1, 2), 2);
        due(x.whole(0, 1, 1), 2);
        int[] nets = {3 - 1, 2 + 1, 0, 0, 0, 0, -4, 4 - 5};
        for (int m = 0; m < 8; m++) {
            due(x.net(m), nets[m]);
        }
        due(x.debts(), 10);
        row(x, 4, 7, 5);
        due(x.holds(6, 0, 2), 0);
        due(x.holds(0, 1, 2), 1);
        due(x.held(0, 3), 2);
        due(x.held(1, 3), 1);
        due(x.makes(0), 2);
        due(x.makes(1), 2);
        // g owes h 6, h owes a 5 and b 2, a owes b 3.
        due(x.debts(), 16);
        row(x, 4, 7, 7);
        due(x.fails(6), 2);
        row(x, 1 | 2 | 64 | 128, 6 + 5 + 2 + 3, 0);
        due(x.worst(), 6);
        row(x, 16, 3);
        due(x.leaves(5), 0);
        due(x.leaves(0), -4);
    }

    private static void termsOfPayments() {
        says("MEMBERS s, .., t, all unlike, ROOM from each to the next x or more.", () -> {
            TrustClub x = chain();
            due(x.way(2, 0, 49), 3);
            due(x.way(2, 0, 50), 3);
            due(x.way(2, 0, 51), -2);
            TrustClub y = longChain();
            due(y.way(0, 7, 1), 8);
            row(y, 0, 1, 2, 3, 4, 5, 6, 7);
            due(y.way(0, 7, 2), -2);
        });
        says("FIRST: of the fewest MEMBERS; of several by MEMBERS, one behind another, at the first unlike place the "
                + "lesser.", () -> {
            // a b e f and a c d f: b is ahead of c, though d is ahead of e.
            TrustClub x = club("6ba001eb001fe001ca001dc001fd001");
            due(x.way(0, 5, 1), 4);
            row(x, 0, 1, 4, 5);
            // a b c f and a b d f.
            TrustClub y = club("6ba001cb001db001fc001fd001");
            due(y.way(0, 5, 1), 4);
            row(y, 0, 1, 2, 5);
            // a e f is shorter than a b c f.
            TrustClub z = club("6ba001cb001fc001ea001fe001");
            due(z.way(0, 5, 1), 3);
            row(z, 0, 4, 5);
        });
        says("A PAYMENT from s to t (unlike ones) of x (1 .. 9999), SPLIT: as long as something is left", () -> {
            TrustClub x = rich();
            stays(x, -1, () -> x.pays(0, 0, 1));
            stays(x, -1, () -> x.pays(0, 7, 0));
            stays(x, -1, () -> x.pays(0, 7, 10000));
            due(x.most(0, 7), 13986);
            row(x, 1, 7, 3);
            due(x.pays(0, 7, 9999), 6);
            row(x, 2, 1998, 3, 1998, 3, 1998, 3, 1998, 3, 1998, 3, 9);
            due(x.pays(0, 7, 1), 1);
            row(x, 3, 1);
            due(x.most(0, 7), 3986);
        });
        says("a PART: the lesser one of what is left and the least ROOM on it", () -> {
            due(diamond().pays(0, 3, 9), 1);
            due(diamond().pays(0, 3, 10), 1);
            TrustClub x = diamond();
            due(x.pays(0, 3, 11), 2);
            row(x, 3, 10, 3, 1);
        });
        says("If there is no WAY: it can't be made; all is as ahead of it.", () -> {
            TrustClub x = diamond();
            due(x.most(0, 3), 30);
            due(x.pays(0, 3, 31), -4);
            row(x, 30);
            due(x.count(3), 0);
            due(x.count(4), 1);
            due(x.most(0, 3), 30);
            due(x.pays(0, 3, 30), 2);
        });
        says("WHOLE: the FIRST WAY for x, by it all of it; without one it can't be made.", () -> {
            TrustClub x = diamond();
            due(x.whole(0, 3, 21), -4);
            row(x, 20);
            due(x.count(3), 0);
            due(x.whole(0, 3, 20), 3);
            row(x, 0, 2, 3);
            due(x.pays(0, 3, 10), 1);
            due(x.whole(0, 3, 1), -4);
            row(x, 0);
        });
        says("how much would go, PARTS being made till there is no WAY.", () -> {
            due(diamond().most(0, 3), 30);
            due(diamond().most(3, 0), 0);
            due(detour().most(0, 5), 2);
        });
        says("CUT: MEMBERS to which there is a WAY for 1 from s then, and s.", () -> {
            TrustClub x = diamond();
            due(x.most(3, 0), 0);
            row(x, 8, 0, 0);
            due(x.limits(1, 0, 31), 10);
            due(x.most(0, 3), 50);
            row(x, 1 | 2, 2, 3);
        });
    }

    private static void termsOfHeldOnes() {
        says("A PAYMENT may be HELD (at places 0 .. 3)", () -> {
            TrustClub x = chain();
            for (int place = 0; place < 4; place++) {
                due(x.holds(1, 0, 1), place);
            }
            stays(x, -3, () -> x.holds(1, 0, 1));
            due(x.count(7), 15);
            due(x.makes(4), -1);
            due(x.makes(-1), -1);
            due(x.makes(3), 1);
        });
        says("but nobody OWES more or less by it", () -> {
            TrustClub x = chain();
            due(x.pays(1, 0, 10), 1);
            due(x.holds(0, 1, 10), 0);
            due(x.holds(1, 0, 90), 1);
            due(x.count(3), 10);
            due(x.net(0), 10);
            due(x.most(0, 1), 0);
            due(x.most(1, 0), 0);
        });
        says("is HELD from the one to the other (if it is above 0)", () -> {
            // 1 would go from b to c and 1 back: nothing is HELD between them.
            TrustClub x = detour();
            due(x.holds(0, 5, 2), 0);
            row(x, 2);
            due(x.line(2, 1), 1);
            row(x, 0, 1, 0);
            due(x.line(1, 2), 0);
            row(x, 0, 0, 0);
            due(x.held(0, 3), 8);
        });
        says("MADE, later: all of that is taken off HELD, and PAID straight, step by step; LET GO: it is taken off.", () -> {
            TrustClub x = chain();
            due(x.holds(2, 0, 50), 0);
            due(x.line(1, 2), 50);
            row(x, 0, 0, 50);
            due(x.makes(0), 50);
            due(x.line(1, 2), 50);
            row(x, 50, 0, 0);
            due(x.line(0, 1), 100);
            row(x, 50, 50, 0);
            due(x.undo(), 2);
            due(x.letsGo(0), 50);
            due(x.line(1, 2), 50);
            row(x, 0, 50, 0);
        });
        says("While any is HELD, LIMITS stay, nobody is let off, no RING is SETTLED, nobody leaves: -5", () -> {
            Question[] stopped = {c -> c.limits(1, 0, 99), c -> c.sheet(0, 2, 1, 7, 0), c -> c.lets(0, 1, 1), c -> c.settles(),
                c -> c.leaves(0)};
            for (Question call : stopped) {
                stays(BoundaryTerms::holdingTwo, -5, call);
                stays(BoundaryTerms::holdingTheSecond, -5, call);
            }
            TrustClub x = triangle();
            due(x.holds(0, 1, 1), 0);
            due(x.letsGo(0), 1);
            due(x.limits(1, 0, 99), 100);
            due(x.lets(2, 0, 1), 8);
            due(x.settles(), 1);
            // A day is stopped by it as well.
            TrustClub y = chain();
            due(tell(y, "hba0001lab099").day(), 1);
            due(tell(y, "m0lab099").day(), 2);
            // None is HELD any more once it is MADE, undone, or all is another.
            TrustClub z = chain();
            due(z.keep(0), true);
            due(z.holds(1, 0, 1), 0);
            due(z.undo(), 1);
            due(z.leaves(2), 1);
            due(z.holds(1, 0, 1), 0);
            due(z.again(0), true);
            due(z.leaves(2), 1);
            due(z.holds(1, 0, 1), 0);
            due(tell(z, "2ab003").club(), 1);
            due(z.leaves(1), 1);
        });
        says("-5 (behind NONE, ahead of others)", () -> {
            TrustClub x = chain();
            due(x.holds(1, 0, 1), 0);
            due(x.limits(0, 1, 1000), -1);
            due(x.limits(0, 3, 5), -1);
            due(x.limits(0, 1, 100), -5);
            due(x.lets(1, 0, 0), -1);
            due(x.lets(1, 1, 1), -1);
            due(x.lets(1, 0, 5), -5);
            due(x.leaves(3), -1);
            due(x.leaves(-1), -1);
            due(x.settles(), -5);
            due(x.makes(0), 1);
            due(x.limits(0, 1, 100), -2);
            due(x.lets(1, 0, 5), -4);
            due(x.settles(), -2);
            TrustClub y = chain();
            due(y.pays(1, 0, 5), 1);
            due(y.holds(1, 0, 1), 0);
            due(y.limits(0, 1, 4), -5);
            due(y.leaves(0), -5);
            due(y.letsGo(0), 1);
            due(y.limits(0, 1, 4), -4);
            due(y.leaves(0), -4);
        });
    }

    private static TrustClub holdingTwo() {
        TrustClub x = triangle();
        due(x.holds(0, 1, 1), 0);
        due(x.holds(0, 1, 1), 1);
        return x;
    }

    private static TrustClub holdingTheSecond() {
        TrustClub x = holdingTwo();
        due(x.letsGo(0), 1);
        return x;
    }

    private static void termsOfRingsAndFailing() {
        says("three MEMBERS or more, all unlike, each OWES the next something, the last one the first one", () -> {
            TrustClub two = club("2ab010ba010");
            due(two.pays(0, 1, 5), 1);
            due(two.pays(1, 0, 3), 1);
            due(two.ring(), -2);
            TrustClub open = triangle();
            due(open.lets(2, 0, 9), 0);
            due(open.ring(), -2);
            due(triangle().ring(), 3);
            TrustClub x = club("8ba009cb009dc009ed009fe009gf009hg009ah009");
            for (int m = 0; m < 8; m++) {
                due(x.whole(m, (m + 1) % 8, 2), 2);
                due(x.ring(), m == 7 ? 8 : -2);
            }
            row(x, 0, 1, 2, 3, 4, 5, 6, 7, 2);
        });
        says("the least of them is told first. FIRST as of WAYS.", () -> {
            // d owes c, c owes b, b owes d.
            TrustClub x = club("4cd009bc009db009");
            due(x.whole(3, 2, 4), 2);
            due(x.whole(2, 1, 3), 2);
            due(x.whole(1, 3, 5), 2);
            due(x.ring(), 3);
            row(x, 1, 3, 2, 3);
            // a b c d of four comes behind e f g of three.
            TrustClub y = club("7ba009cb009dc009ad009fe009gf009eg009");
            int[] owing = {0, 1, 2, 3, 4, 5, 6};
            int[] owed = {1, 2, 3, 0, 5, 6, 4};
            for (int i = 0; i < 7; i++) {
                due(y.whole(owing[i], owed[i], 1), 2);
            }
            due(y.ring(), 3);
            row(y, 4, 5, 6, 1);
            // a b d and a c d: the lesser one at the second place.
            TrustClub z = club("4ba009db009ca009dc009ad009");
            due(z.whole(0, 1, 7), 2);
            due(z.whole(1, 3, 7), 2);
            due(z.whole(0, 2, 6), 2);
            due(z.whole(2, 3, 6), 2);
            due(z.whole(3, 0, 8), 2);
            due(z.ring(), 3);
            row(z, 0, 1, 3, 7);
            ringsBesideOthers();
        });
        says("SETTLED: the least OWES of it is taken off all of them.", () -> {
            TrustClub x = triangle();
            due(x.settles(), 1);
            due(x.net(0), 9 - 5);
            due(x.debts(), 6);
            row(x, 2, 2, 4);
            TrustClub y = club("3ba100cb100ac100");
            due(y.whole(0, 1, 5), 2);
            due(y.whole(1, 2, 5), 2);
            due(y.whole(2, 0, 5), 2);
            due(y.settles(), 1);
            row(y, 15);
            due(y.debts(), 0);
            row(y, 0, -1, 0);
            // A short ring, behind a long one that was told: a b c goes, the others stay.
            TrustClub z = owing("abbccddeeffgghha");
            due(z.ring(), 8);
            due(z.limits(0, 2, 1), 0);
            due(z.whole(2, 0, 1), 2);
            due(z.settles(), 1);
            row(z, 3);
            due(z.debts(), 6);
            row(z, 6, 2, 1);
        });
        says("Each MEMBER has a STOCK 0 .. 999 (0 at first).", () -> {
            TrustClub x = new TrustClub();
            due(x.count(8), 0);
            due(x.stocks(1, 0), -2);
            due(x.stocks(1, 1000), -1);
            due(x.stocks(1, -1), -1);
            due(x.stocks(1, 999), 0);
            due(x.stocks(1, 0), 999);
        });
        says("all others at once FAIL whose LOSS is more than their STOCK, till none does.", () -> {
            TrustClub x = chain();
            due(x.pays(2, 0, 30), 1);
            due(x.stocks(1, 30), 0);
            due(x.fails(2), 0);
            row(x, 4, 30, 30);
            due(x.stocks(1, 29), 30);
            due(x.fails(2), 2);
            row(x, 7, 60, 0);
        });
        says("what those that FAILED OWE it, together.", () -> {
            // b and c owe d 3 and 4; both FAIL by a.
            TrustClub x = club("4ba009ca009db009dc009");
            due(x.whole(0, 1, 1), 2);
            due(x.whole(0, 2, 2), 2);
            due(x.whole(1, 3, 3), 2);
            due(x.whole(2, 3, 4), 2);
            due(x.stocks(3, 7), 0);
            due(x.fails(0), 1);
            row(x, 7, 10, 7);
            due(x.stocks(3, 6), 7);
            due(x.fails(0), 2);
            row(x, 15, 10, 0);
        });
    }

    /** Of debts of 1 each, told as letters of who owes whom. */
    private static TrustClub owing(String pairs) {
        StringBuilder text = new StringBuilder("8");
        for (int i = 0; i < pairs.length(); i += 2) {
            text.append(pairs.charAt(i + 1)).append(pairs.charAt(i)).append("001");
        }
        TrustClub x = club(text.toString());
        for (int i = 0; i < pairs.length(); i += 2) {
            due(x.whole(pairs.charAt(i) - 'a', pairs.charAt(i + 1) - 'a', 1), 2);
        }
        return x;
    }

    private static void ringsBesideOthers() {
        TrustClub equal = owing("deeffdabbcca");
        due(equal.ring(), 3);
        row(equal, 0, 1, 2, 1);
        TrustClub longer = owing("abbccaaddeeffa");
        due(longer.ring(), 3);
        row(longer, 0, 1, 2, 1);
        TrustClub longerFirst = owing("abbccddaaeeffa");
        due(longerFirst.ring(), 3);
        row(longerFirst, 0, 4, 5, 1);
        // b owes d as c does, but a does not owe b.
        TrustClub aside = owing("accddabd");
        due(aside.ring(), 3);
        row(aside, 0, 2, 3, 1);
    }

    private static void termsOfAnswers() {
        says("numbers told last by a call that says so.", () -> {
            TrustClub x = new TrustClub();
            due(x.count(5), 0);
            dueThrow(() -> x.row(0));
            due(x.line(0, 1), 0);
            due(x.count(5), 3);
            due(x.reach(0, 1), 0);
            due(x.count(5), 1);
        });
        says("Sets are bits (a is 1).", () -> {
            due(longChain().reach(6, 1), 128);
            due(club("2ab001").reach(1, 1), 1);
        });
        says("Questions change nothing.", BoundaryTerms::questions);
        says("Refused calls answer NONE, or false, and change nothing but THE TEXT, which a call that reads it empties.", () -> {
            refusedCalls(Sentences::used);
            refusedCalls(Sentences::usedAndFree);
            staysButText(Sentences::used, "3ab10", -6, c -> c.club());
            staysButText(Sentences::used, "", -1, c -> c.club());
            staysButText(Sentences::used, "ba000", -6, c -> c.batch());
            staysButText(Sentences::used, "ba0000", -6, c -> c.orders());
            staysButText(Sentences::used, "pba000", -7, c -> c.day());
        });
        says("NONE comes ahead of other answers below 0;", () -> {
            // All of these would answer otherwise -2, -3, -4 or -5.
            noPayment(Sentences::used, (c, from, to, sum) -> c.lets(from, to, sum));
            noPair(Sentences::used, (c, from, to) -> c.limits(from, to, 100));
            noLimit(Sentences::used, (c, v) -> c.limits(0, 1, v));
            noMember(Sentences::used, (c, m) -> c.leaves(m));
            noMember(Sentences::used, (c, m) -> c.sheet(m, 3, -1, 0, 0));
            noPair(Sentences::used, (c, from, to) -> c.were(from, to, 0, 1, 3));
            noPayment(BoundaryTerms::full, (c, from, to, sum) -> c.holds(from, to, sum));
            stays(BoundaryTerms::full, -3, c -> c.holds(1, 0, 9999));
            stays(Sentences::used, -5, c -> c.lets(1, 0, 9999));
            stays(Sentences::used, -5, c -> c.limits(0, 1, 100));
            stays(Sentences::used, -5, c -> c.sheet(0, 3, -1, 0, 0));
            stays(Sentences::used, -4, c -> c.were(2, 0, 0, 1, 3));
        });
        says("the ROW stays with each answer that tells of a refusal or that there is none", BoundaryTerms::answersWithoutRow);
        says("and with calls that do not tell of it, but where it is said.", BoundaryTerms::callsWithoutRow);
    }

    /** Four payments are HELD. */
    private static TrustClub full() {
        TrustClub x = used();
        for (int place = 1; place < 4; place++) {
            due(x.holds(1, 0, 1), place);
        }
        return x;
    }

    private static void questions() {
        Question[] all = {c -> c.line(0, 1), c -> c.net(0), c -> c.debts(), c -> c.way(2, 0, 1), c -> c.reach(2, 1),
            c -> c.most(2, 0), c -> c.ring(), c -> c.rings(), c -> c.held(0, 3), c -> c.mostThen(2, 0, 0), c -> c.mostThen(2, 0, 1),
            c -> c.raise(2, 0, 60), c -> c.fails(1), c -> c.worst(), c -> c.enough(1), c -> c.without(2, 0, 1), c -> c.key(2, 0),
            c -> c.were(2, 0, 1, 2, 70), c -> c.both(2, 0, 1, 1, 0, 2), c -> c.count(0), c -> c.row(0), c -> c.years(1, 30)};
        for (Question question : all) {
            asks(Sentences::used, question);
        }
        asks(Sentences::triangle, c -> c.ring());
        asks(Sentences::triangle, c -> c.rings());
        TrustClub x = tell(used(), "ca0001");
        String ahead = look(x);
        due(x.orders(), 1);
        due(look(x).equals(ahead), true);
    }

    private static void refusedCalls(Maker maker) {
        Question[] all = {c -> c.sheet(3, 2, 1, 1, 1), c -> c.line(0, 3), c -> c.way(0, 0, 1), c -> c.reach(3, 1), c -> c.most(0, 3),
            c -> c.pays(0, 1, 0), c -> c.whole(0, 1, 0), c -> c.holds(0, 1, 0), c -> c.makes(1), c -> c.letsGo(1),
            c -> c.mostThen(0, 1, 2), c -> c.raise(0, 1, 0), c -> c.fails(3), c -> c.enough(3), c -> c.without(0, 1, 1),
            c -> c.key(0, 3), c -> c.were(0, 1, 1, 2, 1000), c -> c.both(0, 1, 1, 0, 1, 0), c -> c.limits(0, 1, 1000),
            c -> c.stocks(0, 1000), c -> c.lets(1, 0, 0), c -> c.leaves(3), c -> c.years(1, 31), c -> c.count(9)};
        for (Question question : all) {
            stays(maker, -1, question);
        }
        stays(maker, 0, c -> c.keep(2) ? 1 : 0);
        stays(maker, 0, c -> c.again(1) ? 1 : 0);
        stays(maker, 0, c -> c.end(1) ? 1 : 0);
        // THE TEXT stays with a refused call that does not read it.
        TrustClub x = maker.make();
        due(x.sign(7), 4);
        due(x.pays(0, 1, 0), -1);
        due(x.end(5), false);
        due(x.count(6), 4);
    }

    private static void answersWithoutRow() {
        Maker free = Sentences::usedAndFree;
        stays(free, -2, c -> c.way(2, 0, 51));
        stays(free, -2, c -> c.ring());
        stays(free, -2, c -> c.settles());
        stays(free, -2, c -> c.raise(2, 0, 1));
        stays(free, -3, c -> c.raise(2, 0, 9999));
        stays(free, -2, c -> c.enough(0));
        stays(free, -2, c -> c.limits(0, 1, 100));
        stays(free, -4, c -> c.limits(0, 1, 2));
        stays(free, -2, c -> c.stocks(0, 5));
        stays(free, -4, c -> c.lets(1, 0, 5));
        stays(free, -4, c -> c.leaves(0));
        stays(free, -4, c -> c.were(2, 0, 0, 1, 3));
        stays(free, -2, c -> c.sheet(0, 2, -1, 0, 0));
        stays(free, -3, c -> c.sheet(0, 3, 1, 0, 0));
        stays(BoundaryTerms::full, -3, c -> c.holds(1, 0, 1));
        stays(Sentences::used, -5, c -> c.settles());
        staysButText(free, "ac0001", -200, c -> c.orders());
        staysButText(free, "ac000", -6, c -> c.orders());
        TrustClub two = new TrustClub();
        due(two.line(0, 1), 0);
        stays(two, -2, () -> two.key(0, 1));
        stays(two, -2, () -> two.worst());
        stays(two, -1, () -> two.undo());
    }

    private static void callsWithoutRow() {
        TrustClub x = chain();
        due(x.pays(1, 0, 3), 1);
        due(x.sign(0), 4);
        due(x.end(0), true);
        due(x.net(0), 3);
        due(x.mostThen(2, 0, 0), 50);
        due(x.were(2, 0, 1, 2, 60), 60);
        due(x.limits(0, 1, 99), 100);
        due(x.stocks(0, 1), 0);
        due(x.lets(1, 0, 1), 2);
        due(x.undo(), 4);
        due(x.keep(0), true);
        due(x.again(0), true);
        due(x.count(0), 3);
        due(x.sheet(2, 2, 1, 7, 0), 1);
        due(tell(x, "ba0001").batch(), 1);
        row(x, 2, 3);
        due(x.holds(1, 0, 1), 0);
        row(x, 1);
        due(x.held(0, 0), 1);
        due(x.makes(0), 1);
        due(x.holds(1, 0, 1), 0);
        due(x.letsGo(0), 1);
        due(tell(x, "3ab007").club(), 1);
        due(x.leaves(0), 1);
        row(x, 1);
        // It is said: answers of -4 that tell MOST, or which entry; and -100 - k.
        due(x.pays(1, 0, 3), -4);
        row(x, 0);
        due(x.sheet(0, 2, 1, 1000, 0), -4);
        row(x, 0, 2);
        due(x.whole(1, 0, 3), -4);
        row(x, 0);
        due(tell(x, "ba0001").batch(), -100);
        row(x, 0);
    }
}
