import java.io.IOException;

/** The boundary cases of promises 1 to 13: texts, and what there is. */
public final class BoundaryTexts extends Sentences {
    public static void main(String[] args) throws IOException {
        run(1, new Runnable[] {
            BoundaryTexts::promise1, BoundaryTexts::promise2, BoundaryTexts::promise3, BoundaryTexts::promise4,
            BoundaryTexts::promise5, BoundaryTexts::promise6, BoundaryTexts::promise7, BoundaryTexts::promise8,
            BoundaryTexts::promise9, BoundaryTexts::promise10, BoundaryTexts::promise11, BoundaryTexts::promise12,
            BoundaryTexts::promise13});
    }

    // ---- texts

    private static void promise1() {
        says("Two MEMBERS, no LIMITS.", () -> {
            TrustClub x = new TrustClub();
            for (int what = 0; what < 9; what++) {
                due(x.count(what), what == 0 ? 2 : 0);
            }
            due(x.line(0, 1), 0);
            row(x, 0, 0, 0);
            due(x.line(1, 0), 0);
            row(x, 0, 0, 0);
            due(x.undo(), -1);
            due(x.again(0), false);
            due(x.again(1), false);
            due(x.batch(), 0);
            due(x.day(), 0);
            due(x.club(), -1);
        });
    }

    private static void promise2() {
        says("Four signs come behind THE TEXT, of v the highest byte first: how many it has.", () -> {
            TrustClub x = new TrustClub();
            due(x.sign('2' << 24 | 'a' << 16 | 'b' << 8 | '0'), 4);
            due(x.sign('0' << 24 | '7' << 16), 8);
            due(x.end(6), true);
            due(x.sign('b' << 24 | 'a' << 16 | '0' << 8 | '0'), 10);
            due(x.sign('9' << 24), 14);
            due(x.end(11), true);
            due(x.club(), 2);
            due(x.line(0, 1), 7);
            due(x.line(1, 0), 9);
            // The sign of v is the first sign's highest bit: 178 is not the digit 2.
            due(x.sign(0xb2 << 24), 4);
            due(x.end(1), true);
            due(x.club(), -1);
            due(x.sign(-1), 4);
            due(x.club(), -1);
        });
        says("Refused: there would be more than 80.", () -> {
            TrustClub x = new TrustClub();
            for (int i = 1; i <= 20; i++) {
                due(x.sign(i), 4 * i);
            }
            for (int signs = 80; signs > 76; signs--) {
                due(x.end(signs), true);
                stays(x, -1, () -> x.sign(7));
                due(x.count(6), signs);
            }
            due(x.end(76), true);
            due(x.sign(7), 80);
        });
    }

    private static void promise3() {
        says("THE TEXT has its first n signs alone: true;", () -> {
            TrustClub x = new TrustClub();
            due(x.end(0), true);
            due(x.sign(0x33616230), 4);
            due(x.end(4), true);
            due(x.count(6), 4);
            due(x.end(1), true);
            due(x.count(6), 1);
            due(x.club(), 0);
            due(x.count(0), 3);
        });
        says("false if it has not so many, or n is below 0.", () -> {
            TrustClub x = new TrustClub();
            due(x.end(1), false);
            due(x.sign(0x33616230), 4);
            for (int n : new int[] {5, 81, HIGHEST, -1, LOWEST}) {
                stays(x, 0, () -> x.end(n) ? 1 : 0);
            }
            due(x.end(3), true);
            stays(x, 0, () -> x.end(4) ? 1 : 0);
        });
    }

    private static void clubFault(String s, int p) {
        staysButText(Sentences::used, s, -1 - p, c -> c.club());
    }

    private static void promise4() {
        says("all anew (nobody OWES anything, nothing is HELD, no STOCKS)", () -> {
            TrustClub x = used();
            due(tell(x, "3").club(), 0);
            int[] counts = {3, 0, 0, 0};
            for (int what = 0; what < 4; what++) {
                due(x.count(what), counts[what]);
            }
            due(x.count(7), 0);
            due(x.count(8), 0);
            due(x.net(0), 0);
            dueThrow(() -> x.held(0, 0));
            due(x.line(0, 1), 0);
            row(x, 0, 0, 0);
            // Behind questions that went through what would be, too.
            TrustClub y = used();
            due(y.rings(), 0);
            due(y.mostThen(2, 0, 0), 48);
            due(y.stocks(2, 9), 0);
            due(y.holds(1, 0, 1), 1);
            due(y.rings(), 0);
            due(tell(y, "3").club(), 0);
            for (int what : new int[] {1, 2, 3, 7, 8}) {
                due(y.count(what), 0);
            }
            due(y.limits(0, 1, 5), 0);
            due(y.most(1, 0), 5);
        });
        says("a digit 2 .. 8 (N)", () -> {
            due(readClub("2"), 0);
            due(readClub("8"), 0);
            for (String s : new String[] {"0", "1", "9", "/", ":", "a", " ", "\u0000", "\u00ff", "-2"}) {
                clubFault(s, 0);
            }
        });
        says("then any many times: two letters and three digits (the LINE from the one to the other, its LIMIT): how "
                + "many LINES were told.", () -> {
            due(club("2").count(1), 0);
            TrustClub x = club("8ab000ba001ac002ca003ad004da005ae006ea007af008fa009ag010ga011ah012ha999bc014");
            due(x.count(1), 14);
            due(x.line(0, 1), 0);
            due(x.line(7, 0), 999);
            due(x.line(1, 2), 14);
            due(x.count(2), 12 * 13 / 2 + 999 + 14);
        });
        promise4Faults();
    }

    private static void promise4Faults() {
        says("-1 - p: the sign at p can't stand there", () -> {
            clubFault("3ab/00", 3);
            clubFault("3ab0:0", 4);
            clubFault("3ab00a", 5);
            clubFault("3ab 01", 3);
            clubFault("3ab001 ", 6);
            clubFault("3ab0011", 6);
            clubFault("33ab001", 1);
            clubFault("3AB001", 1);
            clubFault("3ab001bc\u0030\u00b01", 9);
        });
        says("a letter of a MEMBER that there is not", () -> {
            clubFault("2ca001", 1);
            clubFault("2ac001", 2);
            clubFault("8ia001", 1);
            clubFault("8ai001", 2);
            clubFault("3`a001", 1);
            clubFault("3a`001", 2);
            due(readClub("8ha001"), 1);
            due(readClub("2ba001"), 1);
        });
        says("the second letter, if both are one", () -> {
            clubFault("2aa001", 2);
            clubFault("8ab001hh001", 7);
        });
        says("or that LINE was told", () -> {
            clubFault("3ab001ab002", 7);
            clubFault("3ab000ab000", 7);
            clubFault("3ab001bc001ab001", 12);
            due(readClub("3ab001ba001"), 2);
        });
        says("its end, if it ends too early", () -> {
            clubFault("", 0);
            clubFault("3a", 2);
            clubFault("3ab", 3);
            clubFault("3ab0", 4);
            clubFault("3ab00", 5);
            clubFault("3ab001b", 7);
            String fifteen = "8ab001ac001ad001ae001af001ag001ah001ba001bc001bd001be001bf001bg001bh001ca001";
            due(fifteen.length(), 76);
            due(readClub(fifteen), 15);
            // A text that is full ends too early at 80.
            clubFault(fifteen + "cb00", 80);
            clubFault(fifteen + "c", 77);
        });
    }

    private static void promise5() {
        says("LIMITS of LINES from a MEMBER to MEMBERS 0, 1, .. (without itself) become as a sheet tells, entry by entry", () -> {
            int[][] others = {{1, 2, 3}, {0, 2, 3}, {0, 1, 3}, {0, 1, 2}};
            for (int from = 0; from < 4; from++) {
                TrustClub x = club("4");
                due(x.sheet(from, 2, 3, 5, 1), 3);
                for (int i = 0; i < 3; i++) {
                    due(x.line(from, others[from][i]), 5 + i);
                }
                due(x.count(2), 18);
            }
        });
        says("of n entries f, f + step, .. (as ints; of bytes, shorts the lowest bits, with their sign)", () -> {
            sheetOf(0, 127, 127);
            sheetOf(0, 128, -4);
            sheetOf(0, 255, -4);
            sheetOf(0, 256, 0);
            sheetOf(0, 256 + 127, 127);
            sheetOf(0, -256 + 5, 5);
            sheetOf(0, -1, -4);
            sheetOf(0, LOWEST, 0);
            sheetOf(0, HIGHEST, -4);
            sheetOf(1, 999, 999);
            sheetOf(1, 1000, -4);
            sheetOf(1, 65536 + 999, 999);
            sheetOf(1, 65535, -4);
            sheetOf(1, 32768, -4);
            sheetOf(1, LOWEST + 7, 7);
            sheetOf(2, 999, 999);
            sheetOf(2, 65536 + 999, -4);
            sheetOf(2, 256, 256);
            sheetOf(2, LOWEST, -4);
            sheetOf(2, HIGHEST, -4);
            // f + step goes beyond the highest int: 127, then the lowest int, of which the lowest bits are 0.
            TrustClub x = club("3");
            due(x.sheet(0, 0, 2, 0x7fffff7f, 0x81), 1);
            due(x.line(0, 1), 127);
            due(x.line(0, 2), 0);
            due(x.sheet(0, 2, 2, 8, LOWEST), -4);
            row(x, 1, 2);
            TrustClub y = club("4");
            due(y.sheet(0, 0, 3, 8, LOWEST), 3);
            due(y.line(0, 3), 8);
        });
        says("or a missing one (3): how many are another then.", () -> {
            TrustClub x = club("3ab005ac006");
            due(x.sheet(0, 2, 2, 5, 1), 0);
            due(x.sheet(0, 2, 2, 6, 0), 1);
            due(x.sheet(0, 2, 2, 0, 0), 2);
            due(x.sheet(0, 2, 1, 1, 0), 1);
            due(x.line(0, 2), 0);
            stays(x, -3, () -> x.sheet(0, 3, 2, 6, 0));
        });
        promise5Answers();
    }

    private static void sheetOf(int kind, int entry, int want) {
        TrustClub x = club("2ab777");
        due(x.sheet(0, kind, 1, entry, 0), want == -4 ? -4 : 1);
        if (want == -4) {
            row(x, 0, 2);
        }
        due(x.line(0, 1), want == -4 ? 777 : want);
    }

    private static void promise5Answers() {
        says("Nothing is kept of it that could be undone, nothing changes but if it is done in all.", () -> {
            TrustClub x = chain();
            due(x.sheet(0, 2, 2, 200, 0), 2);
            due(x.count(4), 1);
            due(x.sheet(0, 2, 2, 999, 1), -4);
            due(x.count(2), 450);
            due(x.sheet(0, 2, 3, 7, 0), -4);
            due(x.count(2), 450);
            due(x.undo(), 0);
        });
        says("-2: n below 0", () -> {
            for (int kind = 0; kind < 3; kind++) {
                int k = kind;
                stays(Sentences::usedAndFree, -2, c -> c.sheet(0, k, -1, 5, 1));
                stays(Sentences::usedAndFree, -2, c -> c.sheet(0, k, LOWEST, 5, 1));
                stays(Sentences::usedAndFree, 0, c -> c.sheet(0, k, 0, -5, 1));
            }
        });
        says("-3: missing (whatever n)", () -> {
            for (int n : new int[] {LOWEST, -1, 0, 1, 2, 3, 20}) {
                stays(Sentences::usedAndFree, -3, c -> c.sheet(0, 3, n, 5, 1));
            }
        });
        says("-4: an entry can't be (the ROW: which entry; 1 there is no such LINE for it, 2 it is not 0 .. 999, 3 it "
                + "is less than what is OWED by it;", () -> {
            TrustClub x = chain();
            due(x.pays(1, 0, 5), 1);
            due(x.sheet(0, 2, 3, 7, 0), -4);
            row(x, 2, 1);
            due(x.sheet(0, 2, 2, 1000, 0), -4);
            row(x, 0, 2);
            due(x.sheet(0, 2, 2, 5, -6), -4);
            row(x, 1, 2);
            due(x.sheet(0, 2, 2, 4, 1), -4);
            row(x, 0, 3);
            due(x.line(0, 1), 100);
            due(x.sheet(0, 2, 2, 5, 1), 2);
            due(x.sheet(0, 2, 2, 999, 0), 2);
            // What a owes by another one's line does not count.
            due(x.sheet(1, 2, 2, 0, 0), 1);
        });
        says("the first such one; of one the first of these)", () -> {
            TrustClub x = chain();
            due(x.pays(2, 1, 5), 1);
            // b's line to a may be 4, that to c not; there is no third one.
            due(x.sheet(1, 2, 3, 4, 0), -4);
            row(x, 1, 3);
            due(x.sheet(1, 2, 3, 1000, 0), -4);
            row(x, 0, 2);
            // An entry without a LINE, which could not be besides: 1; one below 0, which is less than what is OWED, too: 2.
            due(x.sheet(1, 2, 3, 998, 1), -4);
            row(x, 2, 1);
            due(x.sheet(1, 2, 2, 4, -5), -4);
            row(x, 1, 2);
        });
        says("-5: some are HELD (ahead of -2, -3, -4).", () -> {
            stays(Sentences::used, -5, c -> c.sheet(0, 2, -1, 5, 1));
            stays(Sentences::used, -5, c -> c.sheet(0, 3, 1, 5, 1));
            stays(Sentences::used, -5, c -> c.sheet(0, 2, 1, 1000, 1));
            stays(Sentences::used, -5, c -> c.sheet(0, 2, 20, 5, 1));
            stays(Sentences::used, -5, c -> c.sheet(0, 2, 0, 5, 1));
            stays(Sentences::usedAndFree, 0, c -> c.sheet(0, 2, 0, 5, 1));
        });
        says("NONE: no such MEMBER, another kind, n above 20 (these first).", () -> {
            // These come ahead of -5.
            for (Maker maker : HELD_AND_FREE) {
                noMember(maker, (c, m) -> c.sheet(m, 2, 1, 5, 1));
                for (int kind : new int[] {-1, 4, LOWEST, HIGHEST}) {
                    stays(maker, -1, c -> c.sheet(0, kind, 1, 5, 1));
                    stays(maker, -1, c -> c.sheet(0, kind, -1, 5, 1));
                }
                stays(maker, -1, c -> c.sheet(0, 2, 21, 5, 1));
                stays(maker, -1, c -> c.sheet(0, 3, 21, 5, 1));
                stays(maker, -1, c -> c.sheet(0, 2, HIGHEST, 5, 1));
            }
            TrustClub x = chain();
            due(x.sheet(0, 2, 20, 5, 1), -4);
            row(x, 2, 1);
        });
    }

    // ---- what there is

    private static void promise6() {
        says("NONE: no such ones, both are one.", () -> {
            noPair(Sentences::used, (c, from, to) -> c.line(from, to));
            TrustClub x = used();
            due(x.line(1, 2), 50);
            row(x, 0, 48, 2);
            due(x.line(2, 1), 0);
            row(x, 0, 0, 0);
        });
    }

    private static void promise7() {
        says("NoSuchElementException: none such.", () -> {
            TrustClub x = used();
            for (int m : new int[] {-1, 3, 7, 8, LOWEST, HIGHEST}) {
                dueThrow(() -> x.net(m));
            }
            due(x.net(0), 4);
            due(x.net(1), -4);
            due(x.net(2), 0);
            row(x, 2, 3);
        });
    }

    private static void promise8() {
        says("the MEMBER that OWES most in all (of equal ones the first; NONE if nobody does), what that is.", () -> {
            TrustClub x = club("4ab010cd010cb010");
            due(x.debts(), 0);
            row(x, 0, -1, 0);
            due(x.pays(3, 2, 1), 1);
            due(x.debts(), 1);
            row(x, 1, 3, 1);
            due(x.pays(3, 2, 4), 1);
            due(x.debts(), 5);
            row(x, 1, 3, 5);
            due(x.pays(1, 0, 5), 1);
            due(x.debts(), 10);
            row(x, 2, 1, 5);
            due(x.pays(3, 2, 1), 1);
            due(x.debts(), 11);
            row(x, 2, 3, 6);
            // b owes two together more.
            due(x.pays(1, 2, 2), 1);
            due(x.debts(), 13);
            row(x, 3, 1, 7);
            TrustClub y = club("2ba007");
            due(y.pays(0, 1, 7), 1);
            due(y.debts(), 7);
            row(y, 1, 0, 7);
        });
    }

    private static void promise9() {
        says("-2: there is none;", () -> {
            TrustClub x = used();
            stays(x, -2, () -> x.way(2, 0, 49));
            due(x.way(2, 0, 48), 3);
            row(x, 2, 1, 0);
            stays(x, -2, () -> x.way(2, 0, 9999));
            stays(x, -2, () -> x.way(0, 2, 1));
        });
        says("NONE: no such MEMBERS, both are one, x not 1 .. 9999.", () -> {
            TrustClub x = used();
            noPayment(Sentences::used, (c, from, to, sum) -> c.way(from, to, sum));
            due(x.way(2, 0, 1), 3);
        });
    }

    private static void promise10() {
        says("MEMBERS to which there is a WAY for x from one (bits, without it); the ROW: how many.", () -> {
            TrustClub x = diamond();
            due(x.reach(0, 10), 2 | 4 | 8);
            row(x, 3);
            due(x.reach(0, 11), 4 | 8);
            row(x, 2);
            due(x.reach(0, 20), 4 | 8);
            due(x.reach(0, 21), 0);
            row(x, 0);
            // A way back to it is none.
            TrustClub y = club("3ab005ba005");
            due(y.reach(0, 5), 2);
            row(y, 1);
            due(y.reach(2, 1), 0);
            row(y, 0);
            TrustClub z = club("8ab001ba001bc001cb001cd001dc001de001ed001ef001fe001fg001gf001gh001hg001");
            due(z.reach(0, 1), 254);
            row(z, 7);
            due(z.reach(7, 1), 127);
            row(z, 7);
        });
        says("NONE: no such one, x not 1 .. 9999.", () -> {
            noMember(Sentences::used, (c, m) -> c.reach(m, 1));
            noPayment(Sentences::used, (c, from, to, sum) -> sum == 1 ? -1 : c.reach(from, sum));
            TrustClub x = used();
            due(x.reach(2, 9999), 0);
            row(x, 0);
            due(x.reach(2, 1), 3);
        });
    }

    private static void promise11() {
        says("the ROW: CUT (bits), PARTS, of all PARTS the most MEMBERS on a WAY (0 without).", () -> {
            TrustClub x = chain();
            due(x.most(0, 2), 0);
            row(x, 1, 0, 0);
            due(x.most(1, 0), 100);
            row(x, 2, 1, 2);
            TrustClub y = detour();
            due(y.most(0, 5), 2);
            row(y, 1, 2, 8);
            due(y.most(0, 1), 1);
            row(y, 1 | 4 | 8 | 16 | 32, 1, 2);
            due(y.most(5, 0), 0);
            row(y, 32, 0, 0);
        });
        says("NONE: no such MEMBERS, both are one.", () -> {
            noPair(Sentences::used, (c, from, to) -> c.most(from, to));
        });
    }

    private static void promise12() {
        says("-2: there is none.", () -> {
            TrustClub x = used();
            stays(x, -2, () -> x.ring());
            TrustClub y = triangle();
            due(y.ring(), 3);
            row(y, 0, 1, 2, 5);
            due(y.lets(0, 1, 4), 1);
            due(y.ring(), 3);
            row(y, 0, 1, 2, 1);
            due(y.lets(0, 1, 1), 0);
            stays(y, -2, () -> y.ring());
        });
    }

    private static void promise13() {
        says("the FIRST one each time, till there is none; the ROW: what all would OWE then.", () -> {
            TrustClub x = usedAndFree();
            due(x.rings(), 0);
            row(x, 4);
            TrustClub y = triangle();
            due(y.rings(), 1);
            row(y, 6);
            due(y.count(3), 21);
            due(y.count(4), 4);
            // a b d, then a c d: the second one is left 1 of what d owes a.
            TrustClub z = club("4ba009db009ca009dc009ad009");
            due(z.whole(0, 1, 7), 2);
            due(z.whole(1, 3, 7), 2);
            due(z.whole(0, 2, 6), 2);
            due(z.whole(2, 3, 6), 2);
            due(z.whole(3, 0, 8), 2);
            due(z.rings(), 2);
            row(z, 34 - 21 - 3);
        });
    }
}
