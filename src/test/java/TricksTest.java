/** Promises 12 to 18: play, back, isRight, trick, now, side, meanScore. */
public final class TricksTest {
    private static final int MIN = Integer.MIN_VALUE;
    private static final int MAX = Integer.MAX_VALUE;

    public static void main(String[] args) {
        playsToTheEnd();
        takers();
        playRefuses();
        back();
        backAndRevokes();
        isRight();
        trick();
        now();
        side();
        revokesArePaidInTurn();
        revokeCostsATrick();
        twoRevokesOfOnePlayerCountOnce();
        scores();
        meanScore();
        Due.end("TricksTest");
    }

    private static void playsToTheEnd() {
        PepperboxTable x = Tables.playing(0, 0, 1, 2, 5);
        Due.is("12 turn", 2, x.play(1));
        Due.is("12 turn", 3, x.play(6));
        Due.is("12 turn", 0, x.play(3));
        Due.is("12 who got it leads", 2, x.play(4));
        Due.is("12 turn", 3, x.play(2));
        Due.is("12 turn", 0, x.play(7));
        Due.is("12 turn", 1, x.play(0));
        Due.is("12 over", -1, x.play(5));
        Due.is("12 state", 3, x.now(0));
        Due.is("12 HANDS", 0, x.hand(0, 4, 0) + x.hand(1, 4, 0) + x.hand(2, 4, 0) + x.hand(3, 4, 0));
        Due.is("16 deals", 1, x.now(7));
        Due.is("17 tricks", 1, x.side(0, 0));
        Due.is("17 tricks", 1, x.side(1, 0));
    }

    private static void takers() {
        // Led by the PLAYER 1; TRUMP 2, or none: {bid, CARDS of 0 to 3, who gets it}.
        int[][] rows = {
            {3, 9, 8, 10, 11, 3},
            {3, 9, 15, 10, 11, 1},
            {3, 16, 15, 10, 11, 0},
            {3, 16, 15, 23, 17, 2},
            {3, 31, 8, 30, 29, 1},
            {3, 7, 8, 9, 29, 2},
            {5, 16, 15, 23, 17, 1},
            {5, 31, 8, 9, 29, 2},
            {3, 16, 17, 18, 19, 3},
        };
        for (int[] row : rows) {
            PepperboxTable x = Tables.given(row[0], new int[] {row[1]}, new int[] {row[2]}, new int[] {row[3]},
                    new int[] {row[4]});
            Tables.plays(x, row[2], row[3], row[4], row[1]);
            Due.is("12 who gets it", row[5], x.trick(0, 1));
            Due.is("17 of which SIDE", 1, x.side(row[5] % 2, 0));
            Due.is("17 of which not", 0, x.side(1 - row[5] % 2, 0));
        }
    }

    private static void playRefuses() {
        PepperboxTable x = Tables.playing(0, 0, 1, 2, 5);
        PepperboxTable y = new PepperboxTable();
        for (int bad : new int[] {-1, 32, MIN, MAX}) {
            Due.noPlace("12 play", x, () -> x.play(bad));
            Due.noPlace("12 the place first", y, () -> y.play(bad));
        }
        Due.noState("12 of another HAND", x, () -> x.play(0));
        Due.noState("12 of no HAND", x, () -> x.play(31));
        x.play(1);
        Due.noState("12 played", x, () -> x.play(1));
        Due.noState("12 not whose turn it is", x, () -> x.play(5));
        y.deal(0, 1, 2);
        Due.noState("12 in the STATE 0", y, () -> y.play(0));
        y.open();
        Due.noState("12 in the STATE 1", y, () -> y.play(0));
        Tables.bids(y, 0, 0, 0, 0);
        Due.noState("12 in the STATE 3", y, () -> y.play(0));
    }

    private static void back() {
        PepperboxTable x = Tables.playing(0, 0, 1, 2, 5);
        Due.noState("13 none lies there", x, () -> x.back());
        long[] before = Snapshot.of(Tables.playing(0, 0, 1, 2, 5));
        Tables.plays(x, 1, 6, 3);
        Due.is("13 lying", 3, x.now(5));
        Due.is("13 back", 3, x.back());
        Due.is("13 turn", 3, x.now(2));
        Due.is("13 in the HAND", true, x.has(3, 3));
        Due.is("13 lying", 2, x.now(5));
        Due.is("13 back", 6, x.back());
        Due.is("13 back", 1, x.back());
        Due.is("13 all as before", true, java.util.Arrays.equals(before, Snapshot.of(x)));
        Due.noState("13 none lies there any more", x, () -> x.back());
        Tables.plays(x, 5, 2, 3, 0);
        Due.noState("13 the TRICK is ended", x, () -> x.back());
        x.play(1);
        Due.is("13 of the second TRICK", 1, x.back());
        Due.is("13 turn", 1, x.now(2));
        Tables.plays(x, 1, 6, 7, 4);
        Due.noState("13 in the STATE 3", x, () -> x.back());
        PepperboxTable y = new PepperboxTable();
        Due.noState("13 in the STATE 0", y, () -> y.back());
        y.deal(0, 1, 2);
        y.open();
        Due.noState("13 in the STATE 1", y, () -> y.back());
    }

    private static void backAndRevokes() {
        PepperboxTable x = Tables.revoked();
        Due.is("17 a REVOKE", 1, x.side(1, 2));
        Due.is("17 none of the other", 0, x.side(0, 2));
        Due.is("13 back", 8, x.back());
        Due.is("13 no REVOKE any more", 0, x.side(1, 2));
        Tables.plays(x, 3, 0);
        Due.is("17 none", 0, x.side(1, 2));
        PepperboxTable y = Tables.revoked();
        y.play(0);
        Due.is("12 who got it", 2, y.now(2));
        Tables.plays(y, 6, 23);
        Due.is("17 the second of the same PLAYER", 1, y.side(1, 2));
        Due.is("13 back", 23, y.back());
        Due.is("13 the first REVOKE stays", 1, y.side(1, 2));
    }

    private static void isRight() {
        PepperboxTable x = Tables.given(5, new int[] {0, 8, 16}, new int[] {1, 2, 9}, new int[] {3, 10, 11},
                new int[] {24, 25, 26});
        for (int card = 0; card < 32; card++) {
            Due.is("14 who leads is free: " + card, card == 1 || card == 2 || card == 9, x.isRight(card));
        }
        x.play(9);
        for (int card = 0; card < 32; card++) {
            Due.is("14 who can has to follow: " + card, card == 10 || card == 11, x.isRight(card));
        }
        x.play(3);
        for (int card = 0; card < 32; card++) {
            Due.is("14 who cannot is free: " + card, card >= 24 && card <= 26, x.isRight(card));
        }
        for (int bad : new int[] {-1, 32, MIN, MAX}) {
            Due.noPlace("14 isRight", x, () -> x.isRight(bad) ? 1 : 0);
        }
        PepperboxTable y = new PepperboxTable();
        y.deal(0, 1, 2);
        Due.is("14 in the STATE 0", false, y.isRight(0));
        y.open();
        Due.is("14 in the STATE 1", false, y.isRight(0));
        Tables.bids(y, 0, 0, 0, 0);
        Due.is("14 in the STATE 3", false, y.isRight(0));
        Due.noPlace("14 in any STATE", y, () -> y.isRight(32) ? 1 : 0);
    }

    private static void trick() {
        PepperboxTable x = Tables.playing(0, 0, 1, 2, 5);
        Due.noPlace("15 none yet", x, () -> x.trick(0, 0));
        Tables.plays(x, 1, 6, 3);
        Due.noPlace("15 not ended", x, () -> x.trick(0, 0));
        x.play(4);
        Tables.plays(x, 2, 7, 0, 5);
        int[][] due = {{1, 2, 4, 1, 6, 3}, {2, 3, 0, 5, 2, 7}};
        for (int trick = 0; trick < 2; trick++) {
            for (int what = 0; what <= 5; what++) {
                Due.is("15 trick(" + trick + ", " + what + ")", due[trick][what], x.trick(trick, what));
            }
        }
        for (int bad : new int[] {-1, 2, 8, MIN, MAX}) {
            Due.noPlace("15 trick", x, () -> x.trick(bad, 0));
            Due.noPlace("15 the place first", x, () -> x.trick(bad, 6));
        }
        for (int bad : new int[] {-1, 6, MIN, MAX}) {
            Due.noArgument("15 what", x, () -> x.trick(1, bad));
        }
        PepperboxTable whole = Tables.playing(0, 0, 1, 8, 5);
        Tables.playRightly(whole, 32);
        Due.is("15 eight TRICKS", 8, whole.now(4));
        Due.is("15 the last one", whole.trick(6, 1), whole.trick(7, 0));
        Due.noPlace("15 no ninth", whole, () -> whole.trick(8, 0));
    }

    private static void now() {
        PepperboxTable x = Tables.playing(3, 0, 1, 2, 1);
        int[] due = {2, 3, 0, 4, 0, 0, -1, 0};
        for (int what = 0; what <= 7; what++) {
            Due.is("16 now(" + what + ")", due[what], x.now(what));
        }
        x.play(0);
        Due.is("16 who would get it", 0, x.now(6));
        x.play(5);
        Due.is("16 who would get it", 1, x.now(6));
        x.play(2);
        Due.is("16 who would get it", 1, x.now(6));
        Due.is("16 lying", 3, x.now(5));
        Due.is("16 ended", 0, x.now(4));
        x.play(7);
        Due.is("16 lying", 0, x.now(5));
        Due.is("16 nobody", -1, x.now(6));
        Due.is("16 ended", 1, x.now(4));
        Due.is("16 turn", 3, x.now(2));
        Tables.plays(x, 3, 4, 1, 6);
        int[] end = {3, 3, -1, 4, 2, 0, -1, 1};
        for (int what = 0; what <= 7; what++) {
            Due.is("16 at the end: now(" + what + ")", end[what], x.now(what));
        }
        for (int bad : new int[] {-1, 8, MIN, MAX}) {
            Due.noArgument("16 now", x, () -> x.now(bad));
        }
    }

    private static void side() {
        PepperboxTable x = Tables.playing(0, 0, 1, 2, 5);
        for (int bad : new int[] {-1, 2, MIN, MAX}) {
            Due.noPlace("17 side", x, () -> x.side(bad, 0));
            Due.noPlace("17 the place first", x, () -> x.side(bad, 3));
        }
        for (int bad : new int[] {-1, 3, MIN, MAX}) {
            Due.noArgument("17 what", x, () -> x.side(1, bad));
        }
        Tables.plays(x, 1, 6, 3, 4);
        Due.is("17 tricks", 1, x.side(0, 0));
        Due.is("17 tricks", 0, x.side(1, 0));
        Due.is("17 no score yet", 0, x.side(0, 1) + x.side(1, 1));
    }

    private static void revokesArePaidInTurn() {
        // 0 revokes, but its SIDE has no TRICK to pay with.
        PepperboxTable x = Tables.given(5, new int[] {0, 8}, new int[] {3, 9}, new int[] {1, 10}, new int[] {2, 11});
        Tables.plays(x, 3, 1, 2, 8);
        Due.is("12 who leads", 1, x.now(2));
        Due.is("17 SIDE 0 has a REVOKE", 1, x.side(0, 2));
        Tables.plays(x, 9, 10, 11, 0);
        Due.is("17 0 of 0 cannot be paid", 0, x.side(0, 0));
        Due.is("17 the other has both", 2, x.side(1, 0));
        // 0 and 1 revoke, SIDE 0 gets all: 0 pays one, and 1 pays that one back.
        PepperboxTable z = Tables.given(5, new int[] {0, 8, 16}, new int[] {1, 9, 17}, new int[] {7, 15, 23},
                new int[] {2, 10, 18});
        Tables.plays(z, 1, 7, 2, 8, 15, 10, 0, 17, 23, 18, 16, 9);
        Due.is("17 a REVOKE of SIDE 0", 1, z.side(0, 2));
        Due.is("17 a REVOKE of SIDE 1", 1, z.side(1, 2));
        Due.is("17 one that came by a REVOKE is paid, too", 3, z.side(0, 0));
        Due.is("17 so none is left", 0, z.side(1, 0));
        Due.is("15 who got a TRICK stays", 2, z.trick(0, 1));
    }

    private static void revokeCostsATrick() {
        // 2 revokes, its SIDE gets both, and pays one.
        PepperboxTable x = Tables.given(5, new int[] {7, 15}, new int[] {0, 8}, new int[] {6, 14}, new int[] {1, 9});
        Tables.plays(x, 8, 6, 9, 15);
        Due.is("12 2 revoked, 0 leads", 0, x.now(2));
        Due.is("17 one of SIDE 0", 1, x.side(0, 2));
        Tables.plays(x, 7, 0, 14, 1);
        Due.is("17 SIDE 0 pays one", 1, x.side(0, 0));
        Due.is("17 SIDE 1 gets it", 1, x.side(1, 0));
        Due.is("17 REVOKES stay as it is over", 1, x.side(0, 2));
        // 0 revokes, and the partner's TRICK pays for it.
        PepperboxTable y = Tables.given(5, new int[] {0, 8}, new int[] {1, 9}, new int[] {7, 15}, new int[] {2, 10});
        Tables.plays(y, 1, 7, 2, 8);
        Due.is("17 not paid yet", 1, y.side(0, 0));
        Tables.plays(y, 15, 10, 0, 9);
        Due.is("17 one REVOKE", 1, y.side(0, 2));
        Due.is("17 one paid", 1, y.side(1, 0));
        // The LEVEL is counted behind what the REVOKE costs: 2 bid, 1 left.
        Due.is("17 not made", 0, scoreBehindRevoke(10, 0));
        Due.is("17 not made", 50, scoreBehindRevoke(10, 1));
        Due.is("17 made", 40, scoreBehindRevoke(5, 0));
    }

    private static int scoreBehindRevoke(int bid, int side) {
        PepperboxTable y = Tables.given(bid, new int[] {0, 8}, new int[] {1, 9}, new int[] {7, 15}, new int[] {2, 10});
        Tables.plays(y, 1, 7, 2, 8, 15, 10, 0, 9);
        return y.side(side, 1);
    }

    private static void twoRevokesOfOnePlayerCountOnce() {
        PepperboxTable x = Tables.given(5, new int[] {7, 15, 23}, new int[] {0, 8, 16}, new int[] {6, 14, 22},
                new int[] {1, 9, 17});
        // 3 revokes with 9; when 15 is led then, 3 has none left to follow.
        Tables.plays(x, 0, 6, 9, 7);
        Due.is("17 3 revoked", 1, x.side(1, 2));
        Tables.plays(x, 15, 8, 14, 17);
        Due.is("17 3 has none to follow", 1, x.side(1, 2));
        Tables.plays(x, 23, 16, 22, 1);
        Due.is("17 nothing to pay with", 0, x.side(1, 0));
        PepperboxTable y = Tables.given(5, new int[] {6, 14, 22}, new int[] {7, 15, 23}, new int[] {5, 13, 21},
                new int[] {4, 12, 20});
        // 3 revokes twice, 1 gets all: one TRICK is paid.
        Tables.plays(y, 7, 5, 12, 6, 23, 21, 4, 22);
        Due.is("17 twice by one", 1, y.side(1, 2));
        Tables.plays(y, 15, 13, 20, 14);
        Due.is("17 one is paid", 2, y.side(1, 0));
        Due.is("17 one is paid", 1, y.side(0, 0));
        // 3 revokes with 22, 1 with 23; their SIDE gets all four, and pays for both.
        PepperboxTable z = Tables.given(5, new int[] {2, 3, 11, 19}, new int[] {5, 6, 13, 23},
                new int[] {1, 4, 12, 20}, new int[] {7, 14, 15, 22});
        Tables.plays(z, 5, 4, 22, 3, 13, 12, 15, 11, 7, 2, 23, 1);
        Due.is("17 two PLAYERS of one SIDE", 2, z.side(1, 2));
        Due.is("17 not yet paid", 3, z.side(1, 0));
        Tables.plays(z, 14, 19, 6, 20);
        Due.is("17 two are paid", 2, z.side(1, 0));
        Due.is("17 two are paid", 2, z.side(0, 0));
    }

    private static void scores() {
        int[] worth = {20, 20, 30, 30, 40};
        for (int bid = 1; bid <= 40; bid++) {
            for (int times = 1; times <= 4; times *= 2) {
                int level = (bid - 1) / 5 + 1;
                int made = times * level * worth[(bid - 1) % 5] + 20 * times * (8 - level) + (level >= 6 ? 50 : 0);
                for (int winner = 0; winner < 4; winner++) {
                    scoreOf(bid, times, winner, winner, made);
                    scoreOf(bid, times, winner, (winner + 2) % 4, made);
                    scoreOf(bid, times, winner, (winner + 1) % 4, 50 * times * level);
                    scoreOf(bid, times, winner, (winner + 3) % 4, 50 * times * level);
                }
            }
        }
    }

    private static void scoreOf(int bid, int times, int winner, int declarer, int due) {
        int[][] bids = {{bid, 0, 0, 0}, {bid, 41, 0, 0, 0}, {bid, 41, 42, 0, 0, 0}};
        PepperboxTable x = Edges.allEight(winner, declarer, bids[times / 2]);
        int scorer = winner % 2;
        String what = "17 bid " + bid + " times " + times;
        Due.is(what + " over", 3, x.now(0));
        Due.is(what, due, x.side(scorer, 1));
        Due.is(what + " the other", 0, x.side(1 - scorer, 1));
        Due.is(what + " tricks", 8, x.side(scorer, 0));
        Due.is("15 the first led", (declarer + 1) % 4, x.trick(0, 0));
        for (int trick = 0; trick < 8; trick++) {
            Due.is("15 who got " + trick, winner, x.trick(trick, 1));
        }
    }

    private static void meanScore() {
        PepperboxTable x = new PepperboxTable();
        int[] bids = {5, 10, 3, 1};
        int[] dues0 = {40, 40, 70, 90};
        int[] dues1 = {0, 50, 50, 50};
        double[] means = {40.0, 45.0, 40.0, 35.0};
        for (int deal = 0; deal < 4; deal++) {
            oneCardDeal(x, bids[deal]);
            Due.is("17 score 0", dues0[deal], x.side(0, 1));
            Due.is("17 score 1", dues1[deal], x.side(1, 1));
            Due.is("16 deals", deal + 1, x.now(7));
            Due.isDouble("18 meanScore", means[deal], x.meanScore());
        }
        x.begin(0);
        Due.isDouble("18 stays", 35.0, x.meanScore());
        x.deal(0, 1, 1);
        x.open();
        Tables.bids(x, 0, 0, 0, 0);
        Due.is("16 without a CONTRACT", 4, x.now(7));
        Due.isDouble("18 stays", 35.0, x.meanScore());
        oneCardDeal(x, 5);
        oneCardDeal(x, 5);
        Due.isDouble("18 not cut", 220.0 / 6.0, x.meanScore());
        oneCardDeal(x, 5);
        Due.isDouble("18 not cut", 260.0 / 7.0, x.meanScore());
    }

    private static void oneCardDeal(PepperboxTable x, int bid) {
        x.begin(0);
        Tables.gives(x, new int[] {7}, new int[] {0}, new int[] {1}, new int[] {2});
        x.open();
        Tables.bids(x, bid, 0, 0, 0);
        Tables.plays(x, 0, 1, 2, 7);
    }
}
