/** Promises 19 to 25: wouldGet, best, bestWith, bestCard, bestIn, wouldScore, digest. */
public final class WouldBeTest {
    private static final int MIN = Integer.MIN_VALUE;
    private static final int MAX = Integer.MAX_VALUE;

    public static void main(String[] args) {
        wouldGet();
        wouldGetRefuses();
        noBestPlay();
        bestPlay();
        bestWithinATrick();
        bestOfTheOtherSide();
        bestWithWrongCard();
        bestWithRefuses();
        bestIn();
        revokesAreLeftAside();
        wouldScore();
        wouldScoreRefuses();
        digest();
        Due.end("WouldBeTest");
    }

    private static void wouldGet() {
        PepperboxTable x = Tables.given(3, new int[] {8, 31, 16}, new int[] {9, 10, 0}, new int[] {11, 1, 17},
                new int[] {2, 12, 3});
        Due.is("19 the first CARD", 1, x.wouldGet(0));
        x.play(9);
        Due.is("19 better", 2, x.wouldGet(11));
        Due.is("19 not of the SUIT", 1, x.wouldGet(1));
        Due.is("19 TRUMP, though a REVOKE", 2, x.wouldGet(17));
        Due.is("16 nothing is changed", 1, x.now(5));
        Due.is("17 nothing is changed", 0, x.side(0, 2));
        x.play(11);
        Due.is("19 better", 3, x.wouldGet(12));
        Due.is("19 worse", 2, x.wouldGet(2));
        x.play(12);
        Due.is("19 the last CARD, worse", 3, x.wouldGet(8));
        Due.is("19 the last CARD, TRUMP", 0, x.wouldGet(16));
        Due.is("19 the last CARD, another SUIT", 3, x.wouldGet(31));
        x.play(16);
        Due.is("19 the next TRICK", 0, x.wouldGet(31));
        PepperboxTable y = Tables.playing(0, 0, 1, 8, 5);
        Due.is("19 with many CARDS", 1, y.wouldGet(1));
        Tables.plays(x, 31, 10);
        x.back();
        Due.is("19 what was taken back is gone", 0, x.wouldGet(0));
        lastOfEight();
    }

    /** The PLAYER 3 has the two best CARDS of each SUIT, and gets all. */
    private static void lastOfEight() {
        PepperboxTable x = new PepperboxTable();
        for (int card = 0; card < 32; card++) {
            x.give(card % 8 / 2, card);
        }
        x.open();
        Tables.bids(x, 5, 0, 0, 0);
        Tables.playRightly(x, 28);
        for (int k = 0; k < 4; k++) {
            int last = Tables.aCardInTurn(x);
            Due.is("19 the eighth TRICK", 3, x.wouldGet(last));
            Due.is("20 the eighth TRICK", 0, x.best());
            Due.is("21 the eighth TRICK", 0, x.bestWith(last));
            Due.is("22 the eighth TRICK", last, x.bestCard());
            x.play(last);
        }
        Due.is("15 who got the eighth TRICK", 3, x.trick(7, 1));
    }

    private static void wouldGetRefuses() {
        PepperboxTable x = Tables.playing(0, 0, 1, 2, 5);
        PepperboxTable y = new PepperboxTable();
        for (int bad : new int[] {-1, 32, MIN, MAX}) {
            Due.noPlace("19 wouldGet", x, () -> x.wouldGet(bad));
            Due.noPlace("19 the place first", y, () -> y.wouldGet(bad));
        }
        Due.noState("19 of another HAND", x, () -> x.wouldGet(0));
        Due.noState("19 of no HAND", x, () -> x.wouldGet(31));
        x.play(1);
        Due.noState("19 played", x, () -> x.wouldGet(1));
        y.deal(0, 1, 2);
        Due.noState("19 in the STATE 0", y, () -> y.wouldGet(0));
        y.open();
        Due.noState("19 in the STATE 1", y, () -> y.wouldGet(0));
        Tables.bids(y, 0, 0, 0, 0);
        Due.noState("19 in the STATE 3", y, () -> y.wouldGet(0));
    }

    private static void noBest(String where, PepperboxTable x) {
        Due.is("20 " + where, -1, x.best());
        Due.is("22 " + where, -1, x.bestCard());
        for (int trump = 0; trump <= 4; trump++) {
            Due.is("23 " + where, -1, x.bestIn(trump));
        }
    }

    private static void noBestPlay() {
        PepperboxTable x = new PepperboxTable();
        noBest("in the STATE 0", x);
        x.deal(0, 1, 3);
        noBest("in the STATE 0", x);
        x.open();
        noBest("in the STATE 1", x);
        Tables.bids(x, 0, 0, 0, 0);
        noBest("in the STATE 3", x);
        PepperboxTable y = Tables.playing(0, 0, 1, 4, 5);
        noBest("with 4 CARDS", y);
        Due.is("21 with 4 CARDS", -1, y.bestWith(1));
        Tables.playRightly(y, 3);
        noBest("one has 4 CARDS", y);
        Due.is("21 one has 4 CARDS", -1, y.bestWith(Tables.aCardInTurn(y)));
        Tables.playRightly(y, 1);
        Due.is("20 with 3 CARDS", true, y.best() >= 0);
        Due.is("21 with 3 CARDS", true, y.bestWith(Tables.aCardInTurn(y)) >= 0);
        Tables.playRightly(y, 12);
        noBest("over", y);
    }

    private static void bestPlay() {
        // SIDE 0 has all that is great, but one.
        PepperboxTable x = Tables.given(5, new int[] {7, 15, 22}, new int[] {0, 8, 23}, new int[] {6, 14, 20},
                new int[] {1, 9, 16});
        Due.is("20 1 leads, and takes the one", 2, x.best());
        Due.is("22 all are as good", 0, x.bestCard());
        Due.is("21 the one", 2, x.bestWith(23));
        PepperboxTable all = Tables.given(5, new int[] {7, 15, 23}, new int[] {0, 8, 16}, new int[] {1, 9, 17},
                new int[] {2, 10, 18});
        Due.is("20 all three", 3, all.best());
        Due.is("22 the CARD 0", 0, all.bestCard());
        Due.is("21 all three", 3, all.bestWith(16));
        Due.is("23 all three", 3, all.bestIn(2));
        // If 1 leads another, 2 or 0 has to lead 22 or 20 at last.
        Due.is("21 0", 2, x.bestWith(0));
        Tables.plays(x, 23, 20, 16, 22);
        Due.is("20 then", 2, x.best());
        Due.is("17 those that are ended are not counted", 1, x.side(1, 0));
        // Each SIDE gets one, whatever 1 leads.
        PepperboxTable y = Tables.given(5, new int[] {6, 8}, new int[] {5, 9}, new int[] {4, 10}, new int[] {3, 11});
        Due.is("21 the SUIT 1 first", 1, y.bestWith(9));
        Due.is("21 the SUIT 0 first", 1, y.bestWith(5));
        Due.is("20 either", 1, y.best());
        Due.is("22 the smallest of both", 5, y.bestCard());
    }

    private static void bestWithinATrick() {
        PepperboxTable x = Tables.given(5, new int[] {7}, new int[] {0}, new int[] {6}, new int[] {1});
        Tables.plays(x, 0, 6, 1);
        Due.is("20 the one that lies there is counted", 1, x.best());
        Due.is("21 the one that lies there is counted", 1, x.bestWith(7));
        Due.is("22 the last CARD", 7, x.bestCard());
        x.play(7);
        noBest("over", x);
        // 0 can take the TRICK of the own partner, or leave it; to leave it keeps 7 for the next one.
        PepperboxTable y = Tables.given(5, new int[] {7, 4, 8}, new int[] {1, 2, 16}, new int[] {6, 14, 24},
                new int[] {3, 5, 15});
        Tables.plays(y, 1, 6, 3);
        int leave = y.bestWith(4);
        int take = y.bestWith(7);
        Due.is("20 the more of both", Math.max(leave, take), y.best());
        Due.is("22 the smaller of the best", leave >= take ? 4 : 7, y.bestCard());
    }

    private static void bestOfTheOtherSide() {
        // SIDE 1 is on turn, and wants as few as can be for SIDE 0.
        PepperboxTable x = Tables.given(5, new int[] {4}, new int[] {5}, new int[] {3}, new int[] {2});
        Due.is("20 SIDE 1 gets it", 0, x.best());
        PepperboxTable y = Tables.given(1, new int[] {0}, new int[] {8}, new int[] {16}, new int[] {24});
        Due.is("20 the TRUMP of 0", 1, y.best());
        // If 1 leads 0, the PLAYER 0 takes it with the TRUMP 25; if 31, that TRUMP is drawn.
        PepperboxTable z = Tables.given(4, new int[] {16, 25}, new int[] {0, 31}, new int[] {17, 18},
                new int[] {1, 19});
        Due.is("21 the TRUMP is drawn", 0, z.bestWith(31));
        Due.is("21 the TRUMP gets one", 1, z.bestWith(0));
        Due.is("20 SIDE 1 draws it", 0, z.best());
        Due.is("22 not the smallest", 31, z.bestCard());
    }

    private static void bestWithWrongCard() {
        PepperboxTable x = Tables.given(1, new int[] {16, 17}, new int[] {10, 15}, new int[] {1, 14},
                new int[] {24, 25});
        x.play(15);
        Due.is("14 wrong", false, x.isRight(1));
        Due.is("21 rightly", 1, x.bestWith(14));
        Due.is("21 with the TRUMP, wrongly", 2, x.bestWith(1));
        Due.is("20 rightly alone", 1, x.best());
        Due.is("22 rightly alone", 14, x.bestCard());
        Due.is("17 nothing is changed", 0, x.side(0, 2));
    }

    private static void bestWithRefuses() {
        PepperboxTable x = Tables.playing(0, 0, 1, 2, 5);
        PepperboxTable y = new PepperboxTable();
        for (int bad : new int[] {-1, 32, MIN, MAX}) {
            Due.noPlace("21 bestWith", x, () -> x.bestWith(bad));
            Due.noPlace("21 the place first", y, () -> y.bestWith(bad));
        }
        Due.noState("21 of another HAND", x, () -> x.bestWith(0));
        Due.noState("21 of no HAND", x, () -> x.bestWith(31));
        x.play(1);
        Due.noState("21 played", x, () -> x.bestWith(1));
        PepperboxTable four = Tables.playing(0, 0, 1, 4, 5);
        Due.noState("21 ahead of NONE", four, () -> four.bestWith(0));
        y.deal(0, 1, 2);
        Due.noState("21 in the STATE 0", y, () -> y.bestWith(0));
        y.open();
        Due.noState("21 in the STATE 1", y, () -> y.bestWith(0));
        Tables.bids(y, 0, 0, 0, 0);
        Due.noState("21 in the STATE 3", y, () -> y.bestWith(0));
    }

    private static void bestIn() {
        PepperboxTable x = Tables.given(5, new int[] {0, 1}, new int[] {8, 9}, new int[] {16, 17}, new int[] {24, 25});
        int[] due = {2, 0, 2, 0, 0};
        for (int trump = 0; trump <= 4; trump++) {
            Due.is("23 bestIn(" + trump + ")", due[trump], x.bestIn(trump));
        }
        Due.is("20 as before", 0, x.best());
        Due.is("11 as before", 4, x.contract(1));
        x.play(8);
        x.play(16);
        Due.is("23 in a TRICK", 2, x.bestIn(2));
        Due.is("23 in a TRICK", 0, x.bestIn(3));
        Due.is("16 as before", 1, x.now(6));
        PepperboxTable y = new PepperboxTable();
        for (int bad : new int[] {-1, 5, MIN, MAX}) {
            Due.noArgument("23 bestIn", x, () -> x.bestIn(bad));
            Due.noArgument("23 without a best play, too", y, () -> y.bestIn(bad));
        }
    }

    private static void revokesAreLeftAside() {
        PepperboxTable x = Tables.revoked();
        int before = x.best();
        x.back();
        x.play(3);
        PepperboxTable y = Tables.revoked();
        Due.is("20 the REVOKE costs nothing here", before, y.best());
        // SIDE 1 revoked, and would pay with its last TRICK as it is over.
        PepperboxTable z = Tables.given(5, new int[] {0, 8}, new int[] {7, 15}, new int[] {1, 9}, new int[] {2, 16});
        Tables.plays(z, 7, 1, 16, 0);
        Due.is("17 a REVOKE", 1, z.side(1, 2));
        Due.is("20 best play", 0, z.best());
        Tables.plays(z, 15, 9, 2, 8);
        Due.is("17 it is paid as it is over", 1, z.side(0, 0));
    }

    private static void wouldScore() {
        int[] worth = {20, 20, 30, 30, 40};
        for (int bid = 1; bid <= 40; bid++) {
            for (int dealer = 0; dealer < 4; dealer++) {
                PepperboxTable x = Tables.bidding(dealer, 8);
                Tables.bids(x, bid, 41, 0, 0, 0);
                int level = (bid - 1) / 5 + 1;
                for (int first = 0; first <= 8; first++) {
                    int tricks = dealer % 2 == 0 ? first : 8 - first;
                    int made = 2 * level * worth[(bid - 1) % 5] + 40 * (tricks - level) + (level >= 6 ? 50 : 0);
                    int declared = tricks >= level ? made : -100 * (level - tricks);
                    Due.is("24 bid " + bid, dealer % 2 == 0 ? declared : -declared, x.wouldScore(first));
                }
            }
        }
        PepperboxTable y = Tables.playing(0, 0, 1, 2, 5);
        Due.is("24 none of two", -50, y.wouldScore(0));
        Due.is("24 two of two", 60, y.wouldScore(2));
        Tables.playRightly(y, 8);
        Due.is("24 as it is over", 60, y.wouldScore(2));
        PepperboxTable z = Tables.playing(1, 0, 1, 2, 5);
        Due.is("24 all others are of SIDE 1", -60, z.wouldScore(0));
        Due.is("24 all others are of SIDE 1", 50, z.wouldScore(2));
    }

    private static void wouldScoreRefuses() {
        PepperboxTable x = Tables.playing(0, 0, 1, 2, 5);
        PepperboxTable y = new PepperboxTable();
        for (int bad : new int[] {-1, 9, MIN, MAX}) {
            Due.noArgument("24 wouldScore", x, () -> x.wouldScore(bad));
            Due.noArgument("24 the argument first", y, () -> y.wouldScore(bad));
        }
        Due.noState("24 more than the CARDS", x, () -> x.wouldScore(3));
        Due.noState("24 more than the CARDS", x, () -> x.wouldScore(8));
        Tables.playRightly(x, 4);
        Due.is("24 as BIDS were begun, not now", 60, x.wouldScore(2));
        Due.noState("24 in the STATE 0", y, () -> y.wouldScore(0));
        y.deal(0, 1, 2);
        y.open();
        y.bid(1);
        Tables.bids(y, 0, 0);
        Due.noState("24 in the STATE 1", y, () -> y.wouldScore(0));
        y.bid(0);
        y.begin(0);
        Due.noState("24 behind begin", y, () -> y.wouldScore(0));
        PepperboxTable z = Tables.over();
        Due.noState("24 over without a CONTRACT", z, () -> z.wouldScore(0));
    }

    private static void digest() {
        PepperboxTable x = new PepperboxTable();
        Due.is("25 a new one", 2421067619878842837L, x.digest());
        Due.is("25 a new one", Edges.digestByHand(x), x.digest());
        x.deal(3, 5, 3);
        Due.is("25 with CARDS", Edges.digestByHand(x), x.digest());
        x.open();
        Tables.bids(x, 2, 41, 0, 0);
        Due.is("25 with BIDS", Edges.digestByHand(x), x.digest());
        for (int k = 0; k <= 12; k++) {
            PepperboxTable t = Tables.playing(1, 3, 5, 3, 2);
            Tables.playRightly(t, k);
            Due.is("25 with so many CARDS played: " + k, Edges.digestByHand(t), t.digest());
        }
        PepperboxTable y = Tables.revoked();
        Due.is("25 with a REVOKE", Edges.digestByHand(y), y.digest());
    }
}
