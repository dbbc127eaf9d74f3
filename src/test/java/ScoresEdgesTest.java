/** The boundary sentences of "4. Scores" and of the promises 17 and 18, each with a test of its own. */
public final class ScoresEdgesTest {
    private static final int DOUBLE = 41;
    private static final int REDOUBLE = 42;

    public static void main(String[] args) {
        revokes();
        revokesInTurn();
        made();
        missed();
        sums();
        side();
        sideRefuses();
        meanScore();
        Due.end("ScoresEdgesTest");
    }

    private static void isTricks(String what, int of0, int of1, PepperboxTable x) {
        Due.is(what + ": TRICKS of the SIDE 0", of0, x.side(0, 0));
        Due.is(what + ": TRICKS of the SIDE 1", of1, x.side(1, 0));
    }

    private static void isScores(String what, int of0, int of1, PepperboxTable x) {
        Due.is(what + ": SCORE of the SIDE 0", of0, x.side(0, 1));
        Due.is(what + ": SCORE of the SIDE 1", of1, x.side(1, 1));
    }

    // ---- REVOKES

    /** The PLAYER 1 gets all three; 3 had 4 and played 12, then had 20 and played 4. */
    private static PepperboxTable twiceByOne() {
        return Tables.given(5, new int[] {6, 14, 22}, new int[] {7, 15, 23}, new int[] {5, 13, 21},
                new int[] {4, 12, 20});
    }

    private static void revokes() {
        Due.sentence("TRICKS of a SIDE are those that its PLAYERS got", () -> {
            for (int winner = 0; winner < 4; winner++) {
                isTricks("all of " + winner, winner % 2 == 0 ? 8 : 0, winner % 2 == 0 ? 0 : 8,
                        Edges.allEight(winner, 0, 5, 0, 0, 0));
            }
        });
        Due.sentence("for each PLAYER with a REVOKE (one or more)", () -> {
            PepperboxTable once = twiceByOne();
            Tables.plays(once, 7, 5, 12, 6, 23, 21, 20, 22, 15, 13, 4, 14);
            isTricks("one", 1, 2, once);
            PepperboxTable twice = twiceByOne();
            Tables.plays(twice, 7, 5, 12, 6, 23, 21, 4, 22, 15, 13, 20, 14);
            isTricks("two of one PLAYER", 1, 2, twice);
            // 3 revokes with 22, 1 with 23.
            PepperboxTable both = Tables.given(5, new int[] {2, 3, 11, 19}, new int[] {5, 6, 13, 23},
                    new int[] {1, 4, 12, 20}, new int[] {7, 14, 15, 22});
            Tables.plays(both, 5, 4, 22, 3, 13, 12, 15, 11, 7, 2, 23, 1, 14, 19, 6, 20);
            isTricks("one each of two PLAYERS", 2, 2, both);
        });
        Due.sentence("the other SIDE gets one TRICK of that PLAYER's SIDE", () -> {
            // 2 revokes with 15, and the partner's TRICK pays for it.
            PepperboxTable x = Tables.given(5, new int[] {7, 14}, new int[] {0, 8}, new int[] {6, 15},
                    new int[] {1, 9});
            Tables.plays(x, 0, 15, 1, 7);
            isTricks("ahead of the end", 1, 0, x);
            Tables.plays(x, 14, 8, 6, 9);
            isTricks("as it is over", 1, 1, x);
        });
        Due.sentence("if it has one then", () -> {
            // 0 revokes with 8, and the SIDE 1 gets both.
            PepperboxTable x = Tables.given(5, new int[] {0, 8}, new int[] {3, 9}, new int[] {1, 10},
                    new int[] {2, 11});
            Tables.plays(x, 3, 1, 2, 8, 9, 10, 11, 0);
            Due.is("a REVOKE", 1, x.side(0, 2));
            isTricks("none to pay with", 0, 2, x);
        });
    }

    private static void revokesInTurn() {
        Due.sentence("from 0 on", () -> {
            // 0 revokes with 9, 1 with 16; the SIDE 1 gets all. 0 has none to pay with, and then 1 pays one.
            PepperboxTable x = Tables.given(5, new int[] {1, 9, 17}, new int[] {0, 8, 16}, new int[] {2, 10, 18},
                    new int[] {7, 15, 23});
            Tables.plays(x, 0, 2, 7, 9, 15, 1, 16, 10, 23, 17, 8, 18);
            Due.is("one of the SIDE 0", 1, x.side(0, 2));
            Due.is("one of the SIDE 1", 1, x.side(1, 2));
            isTricks("0 ahead of 1", 1, 2, x);
            // The same, with all seats one to the left: 1 has none to pay with, and then 2 pays one.
            PepperboxTable y = Edges.dealtBy(1, 5, new int[] {7, 15, 23}, new int[] {1, 9, 17}, new int[] {0, 8, 16},
                    new int[] {2, 10, 18});
            Tables.plays(y, 0, 2, 7, 9, 15, 1, 16, 10, 23, 17, 8, 18);
            isTricks("1 ahead of 2", 2, 1, y);
        });
        Due.sentence("(one that came by a REVOKE, too)", () -> {
            // 0 and 1 revoke, the SIDE 0 gets all: 0 pays one, and 1 pays that one back.
            PepperboxTable x = Tables.given(5, new int[] {0, 8, 16}, new int[] {1, 9, 17}, new int[] {7, 15, 23},
                    new int[] {2, 10, 18});
            Tables.plays(x, 1, 7, 2, 8, 15, 10, 0, 17, 23, 18, 16, 9);
            Due.is("one of the SIDE 0", 1, x.side(0, 2));
            Due.is("one of the SIDE 1", 1, x.side(1, 2));
            isTricks("paid back", 3, 0, x);
        });
    }

    // ---- the CONTRACT

    private static void made() {
        Due.sentence("MADE, if the SIDE of the DECLARER then has as many TRICKS as the LEVEL, or more", () -> {
            isScores("two of LEVEL 1", 60, 0, Edges.playedTwoOfThree(0, 5, 0, 0, 0));
            isScores("two of LEVEL 2", 80, 0, Edges.playedTwoOfThree(0, 10, 0, 0, 0));
            isScores("two of LEVEL 3", 0, 50, Edges.playedTwoOfThree(0, 15, 0, 0, 0));
            isScores("one of LEVEL 1, by the SIDE 1", 0, 40, Edges.playedTwoOfThree(1, 5, 0, 0, 0));
            isScores("one of LEVEL 2, by the SIDE 1", 50, 0, Edges.playedTwoOfThree(1, 10, 0, 0, 0));
            isScores("all eight of LEVEL 8", 370, 0, Edges.allEight(2, 0, 40, 0, 0, 0));
        });
        Due.sentence("then has as many TRICKS as the LEVEL", () -> {
            // 0 revokes with 8, which costs one of two.
            int[][] hands = {{0, 8}, {1, 9}, {7, 15}, {2, 10}};
            PepperboxTable x = Tables.given(10, hands);
            Tables.plays(x, 1, 7, 2, 8, 15, 10, 0, 9);
            isScores("two got, one left of LEVEL 2", 0, 50, x);
            PepperboxTable y = Tables.given(5, hands);
            Tables.plays(y, 1, 7, 2, 8, 15, 10, 0, 9);
            isScores("two got, one left of LEVEL 1", 40, 0, y);
        });
        Due.sentence("with W 20 for the TRUMPS 0 and 1, 30 for 2 and 3, 40 without", () -> {
            int[] worth = {20, 20, 30, 30, 40};
            for (int trump = 0; trump <= 4; trump++) {
                isScores("the TRUMP " + trump, 2 * worth[trump], 0, Edges.playedTwoOfThree(0, 6 + trump, 0, 0, 0));
            }
        });
        Due.sentence("It scores TIMES * LEVEL * W", () -> {
            isScores("once", 60, 0, Edges.playedTwoOfThree(0, 8, 0, 0, 0));
            isScores("twice", 120, 0, Edges.playedTwoOfThree(0, 8, DOUBLE, 0, 0, 0));
            isScores("four times", 240, 0, Edges.playedTwoOfThree(0, 8, DOUBLE, REDOUBLE, 0, 0, 0));
        });
        Due.sentence("20 * TIMES for each TRICK more than the LEVEL", () -> {
            isScores("one more", 30 + 20, 0, Edges.playedTwoOfThree(0, 3, 0, 0, 0));
            isScores("one more, twice", 60 + 40, 0, Edges.playedTwoOfThree(0, 3, DOUBLE, 0, 0, 0));
            isScores("one more, four times", 120 + 80, 0, Edges.playedTwoOfThree(0, 3, DOUBLE, REDOUBLE, 0, 0, 0));
            isScores("seven more", 0, 20 + 140, Edges.allEight(3, 3, 1, 0, 0, 0));
        });
        Due.sentence("and 50, if the LEVEL is 6 or more", () -> {
            isScores("LEVEL 5", 100 + 60, 0, Edges.allEight(0, 0, 21, 0, 0, 0));
            isScores("LEVEL 6", 120 + 40 + 50, 0, Edges.allEight(0, 0, 26, 0, 0, 0));
            isScores("LEVEL 7", 140 + 20 + 50, 0, Edges.allEight(0, 0, 31, 0, 0, 0));
            isScores("LEVEL 8", 160 + 50, 0, Edges.allEight(0, 0, 36, 0, 0, 0));
            isScores("TIMES do not count for it", 4 * (120 + 40) + 50, 0,
                    Edges.allEight(0, 0, 26, DOUBLE, REDOUBLE, 0, 0, 0));
        });
    }

    private static void missed() {
        Due.sentence("Otherwise the other SIDE scores 50 * TIMES for each TRICK that is missing", () -> {
            isScores("one", 0, 50, Edges.playedTwoOfThree(0, 15, 0, 0, 0));
            isScores("one, twice", 0, 100, Edges.playedTwoOfThree(0, 15, DOUBLE, 0, 0, 0));
            isScores("one, four times", 0, 200, Edges.playedTwoOfThree(0, 15, DOUBLE, REDOUBLE, 0, 0, 0));
            isScores("two", 0, 100, Edges.playedTwoOfThree(0, 16, 0, 0, 0));
            isScores("all eight, and no 50 for the LEVEL", 400, 0, Edges.allEight(0, 1, 40, 0, 0, 0));
            isScores("all eight, four times", 1600, 0, Edges.allEight(0, 1, 40, DOUBLE, REDOUBLE, 0, 0, 0));
        });
        Due.sentence("As a deal with a CONTRACT comes to be over", () -> {
            PepperboxTable x = Edges.twoOfThree(0, 5, 0, 0, 0);
            Tables.playRightly(x, 11);
            isScores("one CARD is left", 0, 0, x);
            Tables.playRightly(x, 1);
            isScores("none is left", 60, 0, x);
            isScores("without a CONTRACT", 0, 0, Edges.inState(4));
        });
    }

    private static void next(PepperboxTable x, int dealer, int... bids) {
        x.begin(dealer);
        Tables.gives(x, new int[] {7, 15, 16}, new int[] {0, 8, 23}, new int[] {1, 9, 17}, new int[] {2, 10, 18});
        x.open();
        Tables.bids(x, bids);
        if (x.now(0) == 2) {
            Tables.playRightly(x, 12);
        }
    }

    private static void sums() {
        Due.sentence("The SCORES of the SIDES are 0 at first, and grow, deal by deal", () -> {
            PepperboxTable x = Edges.twoOfThree(0, 0, 0, 0, 0);
            isScores("at first", 0, 0, x);
            next(x, 0, 5, 0, 0, 0);
            isScores("the first", 60, 0, x);
            next(x, 1, 5, 0, 0, 0);
            isScores("the second", 60, 40, x);
            next(x, 2, 10, 0, 0, 0);
            isScores("the third", 140, 40, x);
            next(x, 3, 10, 0, 0, 0);
            isScores("the fourth", 190, 40, x);
            next(x, 3, 0, 0, 0, 0);
            isScores("one without a CONTRACT", 190, 40, x);
        });
    }

    // ---- promise 17

    private static void side() {
        Due.sentence("0 its TRICKS", () -> {
            PepperboxTable x = Edges.twoOfThree(0, 5, 0, 0, 0);
            isTricks("none yet", 0, 0, x);
            Tables.playRightly(x, 3);
            isTricks("not ended", 0, 0, x);
            Tables.playRightly(x, 1);
            isTricks("the first", 1, 0, x);
            Tables.playRightly(x, 4);
            isTricks("the second", 2, 0, x);
            Tables.playRightly(x, 4);
            isTricks("the third", 2, 1, x);
        });
        Due.sentence("(of REVOKES, too, as it is over)", () -> {
            PepperboxTable x = twiceByOne();
            Tables.plays(x, 7, 5, 12, 6, 23, 21, 20, 22, 15, 13, 4);
            isTricks("not over", 0, 2, x);
            x.play(14);
            isTricks("over", 1, 2, x);
            for (int trick = 0; trick < 3; trick++) {
                Due.is("who got it stays", 1, x.trick(trick, 1));
            }
        });
        Due.sentence("1 its SCORE", () -> {
            isScores("of the SIDE 0", 60, 0, Edges.playedTwoOfThree(0, 5, 0, 0, 0));
            isScores("of the SIDE 1", 0, 40, Edges.playedTwoOfThree(1, 5, 0, 0, 0));
        });
        Due.sentence("2 how many of its PLAYERS have a REVOKE", () -> {
            PepperboxTable none = Edges.playedTwoOfThree(0, 5, 0, 0, 0);
            Due.is("none", 0, none.side(0, 2) + none.side(1, 2));
            PepperboxTable x = twiceByOne();
            Tables.plays(x, 7, 5, 12);
            Due.is("one, as soon as it lies", 1, x.side(1, 2));
            Tables.plays(x, 6, 23, 21, 4);
            Due.is("the second of the same PLAYER", 1, x.side(1, 2));
            Due.is("none of the other SIDE", 0, x.side(0, 2));
            Tables.plays(x, 14);
            Due.is("one of the other SIDE", 1, x.side(0, 2));
            Tables.playRightly(x, 4);
            Due.is("it stays as it is over", 1, x.side(1, 2));
            PepperboxTable both = Edges.dealtBy(3, 5, new int[] {3, 8}, new int[] {5, 23}, new int[] {1, 4},
                    new int[] {7, 22});
            Tables.plays(both, 3, 23, 4, 22);
            Due.is("both of one SIDE", 2, both.side(1, 2));
            Due.is("none of the other SIDE", 0, both.side(0, 2));
        });
    }

    private static void sideRefuses() {
        Due.sentence("if there is no such SIDE", () -> {
            for (int state = 0; state <= 4; state++) {
                PepperboxTable x = Edges.inState(state);
                for (int bad : Edges.outside(0, 1)) {
                    Due.noPlace("side(" + bad + ", 0) in " + state, x, () -> x.side(bad, 0));
                }
            }
        });
        Due.sentence("side: if what is not 0 to 2", () -> {
            for (int state = 0; state <= 4; state++) {
                PepperboxTable x = Edges.inState(state);
                for (int bad : Edges.outside(0, 2)) {
                    Due.noArgument("side(0, " + bad + ") in " + state, x, () -> x.side(0, bad));
                }
                Due.is("the greatest", 0, x.side(1, 2));
            }
        });
    }

    // ---- promise 18

    private static void meanScore() {
        Due.sentence("Returns both SCORES together, divided by now() of 7", () -> {
            PepperboxTable x = Edges.playedTwoOfThree(0, 5, 0, 0, 0);
            Due.isDouble("one deal", 60.0, x.meanScore());
            next(x, 1, 5, 0, 0, 0);
            Due.isDouble("two deals, of both SIDES", 50.0, x.meanScore());
            next(x, 1, 0, 0, 0, 0);
            Due.isDouble("one without a CONTRACT is none", 50.0, x.meanScore());
            x.begin(0);
            Due.isDouble("it stays", 50.0, x.meanScore());
        });
        Due.sentence("not cut", () -> {
            PepperboxTable x = Edges.playedTwoOfThree(0, 5, 0, 0, 0);
            next(x, 1, 5, 0, 0, 0);
            next(x, 1, 5, 0, 0, 0);
            Due.isDouble("140 / 3", 140.0 / 3.0, x.meanScore());
        });
        Due.sentence("0 if that is 0", () -> {
            for (int state : new int[] {0, 1, 2, 4}) {
                Due.isDouble("in " + state, 0.0, Edges.inState(state).meanScore());
            }
        });
    }
}
