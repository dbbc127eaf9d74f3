import java.math.BigInteger;
import java.util.Arrays;

/** The boundary sentences of "5. The best play" and of the promises 19 to 25, each with a test of its own. */
public final class WouldBeEdgesTest {
    private static final int DOUBLE = 41;

    public static void main(String[] args) {
        whenThereIsABestPlay();
        bestPlay();
        bestPlayIsRight();
        wouldGet();
        best();
        bestWith();
        bestCard();
        bestIn();
        wouldScore();
        wouldScoreRefuses();
        digest();
        Due.end("WouldBeEdgesTest");
    }

    private static void hasBest(String what, boolean due, PepperboxTable x) {
        Due.is(what + ": best", due, x.best() != -1);
        Due.is(what + ": bestCard", due, x.bestCard() != -1);
        for (int trump = 0; trump <= 4; trump++) {
            Due.is(what + ": bestIn(" + trump + ")", due, x.bestIn(trump) != -1);
        }
        if (x.now(0) == 2) {
            Due.is(what + ": bestWith", due, x.bestWith(Tables.aCardInTurn(x)) != -1);
        }
    }

    // ---- 5. The best play

    private static void whenThereIsABestPlay() {
        Due.sentence("In the STATE 2", () -> {
            for (int state = 0; state <= 4; state++) {
                hasBest("in " + state, state == 2, Edges.inState(state));
            }
            hasBest("without CARDS", false, new PepperboxTable());
        });
        Due.sentence("if no HAND has more than 3 CARDS", () -> {
            for (int many = 1; many <= 8; many++) {
                hasBest("many " + many, many <= 3, Tables.playing(0, 0, 1, many, 5));
            }
            for (int dealer = 0; dealer < 4; dealer++) {
                PepperboxTable x = Tables.playing(dealer, 0, 1, 4, 5);
                Tables.playRightly(x, 3);
                hasBest("one HAND has 4", false, x);
                Tables.playRightly(x, 1);
                hasBest("none has 4", true, x);
                Tables.playRightly(x, 11);
                hasBest("one HAND has one", true, x);
                Tables.playRightly(x, 1);
                hasBest("over", false, x);
            }
        });
    }

    /** That hand for the PLAYER who leads, and so on to the left; the DECLARER sits on the leader's right. */
    private static PepperboxTable ledBy(int leader, int bid, int[]... hands) {
        int[][] seats = new int[4][];
        for (int k = 0; k < 4; k++) {
            seats[(leader + k) % 4] = hands[k];
        }
        return Edges.dealtBy((leader + 3) % 4, bid, seats);
    }

    /** Of so many TRICKS, what the SIDE 0 gets if the SIDE of that PLAYER gets so many. */
    private static int of0(int player, int many, int all) {
        return player % 2 == 0 ? many : all - many;
    }

    private static void bestPlay() {
        Due.sentence("one with which the own SIDE gets as many as it can of the TRICKS that are not ended", () -> {
            for (int leader = 0; leader < 4; leader++) {
                // 31 draws the only other TRUMP; with 0 ahead, that one takes 0.
                PepperboxTable x = ledBy(leader, 4, new int[] {0, 31}, new int[] {17, 18}, new int[] {1, 19},
                        new int[] {16, 25});
                Due.is("the most for " + leader, of0(leader, 2, 2), x.best());
                Due.is("the CARD for it", 31, x.bestCard());
                Due.is("not this one", of0(leader, 1, 2), x.bestWith(0));
                // The last one takes 5 with 6, and 4 gets the next; without that, it gets none.
                PepperboxTable y = ledBy(leader, 5, new int[] {5, 15}, new int[] {0, 8}, new int[] {1, 9},
                        new int[] {4, 6});
                Tables.plays(y, 5, 0, 1);
                int last = (leader + 3) % 4;
                Due.is("the most for " + last, of0(last, 2, 2), y.best());
                Due.is("the CARD for it", 6, y.bestCard());
                Due.is("not this one", of0(last, 0, 2), y.bestWith(4));
            }
        });
        Due.sentence("gets as many as it can", () -> {
            // With the smallest, the middle, the greatest of three CARDS alone.
            for (int leader = 0; leader < 4; leader++) {
                isAlone(leader, 7, ledBy(leader, 1, new int[] {7, 8, 16}, new int[] {26, 27, 28},
                        new int[] {29, 30, 31}, new int[] {24, 25, 1}));
                isAlone(leader, 15, ledBy(leader, 2, new int[] {0, 15, 16}, new int[] {26, 27, 28},
                        new int[] {29, 30, 31}, new int[] {24, 25, 9}));
                isAlone(leader, 23, ledBy(leader, 3, new int[] {0, 8, 23}, new int[] {26, 27, 28},
                        new int[] {29, 30, 31}, new int[] {24, 25, 17}));
            }
        });
        Due.sentence("if all others do so, too", () -> {
            for (int leader = 0; leader < 4; leader++) {
                // Who leads has 5 and would get it from 4; but the last one has 6, too, and takes it.
                PepperboxTable x = ledBy(leader, 5, new int[] {5, 15}, new int[] {0, 8}, new int[] {1, 9},
                        new int[] {4, 6});
                Due.is("5 is taken, and 4 behind it", of0(leader, 0, 2), x.bestWith(5));
                Due.is("15 is not, but 5 behind it", of0(leader, 1, 2), x.bestWith(15));
                Due.is("the most", of0(leader, 1, 2), x.best());
            }
        });
        Due.sentence("of the TRICKS that are not ended", () -> {
            PepperboxTable x = Edges.twoOfThree(0, 5, 0, 0, 0);
            int[] due = {2, 2, 2, 2, 1, 1, 1, 1, 0, 0, 0, 0};
            for (int k = 0; k < 12; k++) {
                Due.is("behind " + k + " CARDS", due[k], x.best());
                Tables.playRightly(x, 1);
            }
        });
    }

    /** That CARD draws the only other TRUMP, and gets all three; each other one leaves one TRICK to that TRUMP. */
    private static void isAlone(int leader, int card, PepperboxTable x) {
        Due.is("all for " + leader, of0(leader, 3, 3), x.best());
        Due.is("the CARD for it", card, x.bestCard());
        for (int other = 0; other < 32; other++) {
            if (x.has(leader, other)) {
                Due.is("with " + other, of0(leader, other == card ? 3 : 2, 3), x.bestWith(other));
            }
        }
    }

    private static void bestPlayIsRight() {
        Due.sentence("of the CARDS that may be played rightly", () -> {
            // 2 could take 15 with the TRUMP 1, but has to follow.
            PepperboxTable x = Tables.given(1, new int[] {16, 17}, new int[] {10, 15}, new int[] {1, 14},
                    new int[] {24, 25});
            x.play(15);
            Due.is("rightly", 1, x.best());
            Due.is("the CARD that follows", 14, x.bestCard());
            Due.is("wrongly it would be more", 2, x.bestWith(1));
        });
        Due.sentence("What a REVOKE costs is left aside", () -> {
            // 3 revokes with 16; the SIDE 1 gets both, and will pay one.
            PepperboxTable x = Tables.given(5, new int[] {0, 8}, new int[] {7, 15}, new int[] {1, 9},
                    new int[] {2, 16});
            Tables.plays(x, 7, 1);
            Due.is("that is to come", 0, x.bestWith(16));
            x.play(16);
            Due.is("that lies there", 0, x.best());
            x.play(0);
            Due.is("that is ended", 0, x.best());
            Tables.plays(x, 15, 9, 2, 8);
            Due.is("it is paid as it is over", 1, x.side(0, 0));
        });
    }

    // ---- promise 19

    private static void wouldGet() {
        Due.sentence("if that CARD was played now, and no other one behind it", () -> {
            PepperboxTable x = Tables.given(3, new int[] {8, 31, 16}, new int[] {9, 10, 0}, new int[] {11, 1, 17},
                    new int[] {2, 12, 3});
            Due.is("alone", 1, x.wouldGet(9));
            Due.is("alone, the smallest", 1, x.wouldGet(0));
            x.play(9);
            Due.is("the better of two", 2, x.wouldGet(11));
            Due.is("another SUIT", 1, x.wouldGet(1));
            Due.is("a TRUMP, wrongly", 2, x.wouldGet(17));
            Tables.plays(x, 11, 12);
            Due.is("the last of four, not better", 3, x.wouldGet(8));
            Due.is("the last of four, a TRUMP", 0, x.wouldGet(16));
            x.play(8);
            Due.is("alone in the next one", 3, x.wouldGet(2));
            Tables.plays(x, 2, 16);
            x.back();
            x.back();
            Due.is("without those that were taken back", 3, x.wouldGet(2));
        });
        Due.sentence("Returns who would get the TRICK that lies there", () -> {
            // The eighth of a deal.
            for (int winner = 0; winner < 4; winner++) {
                PepperboxTable x = Edges.lastOfEight(winner);
                for (int k = 0; k < 4; k++) {
                    int card = Tables.aCardInTurn(x);
                    Due.is("so many lie there: " + k, winner, x.wouldGet(card));
                    Due.is("best", of0(winner, 1, 1), x.best());
                    Due.is("bestWith", of0(winner, 1, 1), x.bestWith(card));
                    Due.is("bestCard", card, x.bestCard());
                    x.play(card);
                }
            }
        });
        Due.sentence("wouldGet: if there is no such CARD", () -> {
            PepperboxTable x = Edges.oneEach(5, 1, 0, 31, 2);
            for (int bad : Edges.outside(0, 31)) {
                Due.noPlace("wouldGet(" + bad + ")", x, () -> x.wouldGet(bad));
            }
            Due.is("the first", 1, x.wouldGet(0));
            x.play(0);
            Due.is("the last", 1, x.wouldGet(31));
        });
        Due.sentence("wouldGet: if it is not in the STATE 2", () -> {
            for (int state : new int[] {0, 1, 3, 4}) {
                PepperboxTable x = Edges.inState(state);
                for (int card = 0; card < 8; card++) {
                    int c = card;
                    Due.noState(card + " in " + state, x, () -> x.wouldGet(c));
                }
            }
        });
        Due.sentence("wouldGet: or the CARD is not in the HAND of the PLAYER whose turn it is", () -> {
            PepperboxTable x = Edges.inState(2);
            for (int card = 0; card < 32; card++) {
                int c = card;
                if (card != 1 && card != 5) {
                    Due.noState("1 has not " + card, x, () -> x.wouldGet(c));
                }
            }
            x.play(1);
            Due.noState("played", x, () -> x.wouldGet(1));
        });
    }

    // ---- promise 20

    private static void best() {
        Due.sentence("how many of the TRICKS that are not ended the SIDE 0 gets", () -> {
            Due.is("all three", 3, ledBy(0, 5, new int[] {7, 15, 23}, new int[] {0, 8, 16}, new int[] {1, 9, 17},
                    new int[] {2, 10, 18}).best());
            Due.is("none of three", 0, ledBy(1, 5, new int[] {7, 15, 23}, new int[] {0, 8, 16}, new int[] {1, 9, 17},
                    new int[] {2, 10, 18}).best());
            PepperboxTable x = Edges.oneEach(5, 7, 0, 6, 1);
            for (int card : new int[] {0, 6, 1}) {
                Due.is("with the one that lies there", 1, x.best());
                x.play(card);
            }
            Due.is("the last CARD of all", 1, x.best());
        });
        Due.sentence("best: NONE if there is no best play", () -> {
            Due.is("not in the STATE 2", -1, Edges.inState(1).best());
            Due.is("over", -1, Edges.inState(3).best());
            Due.is("4 CARDS", -1, Tables.playing(0, 0, 1, 4, 5).best());
            Due.is("none of three TRICKS is not NONE", 0, ledBy(1, 5, new int[] {7}, new int[] {0}, new int[] {1},
                    new int[] {2}).best());
        });
    }

    // ---- promise 21

    private static void bestWith() {
        Due.sentence("how many of them (with the one that lies there)", () -> {
            PepperboxTable x = Edges.oneEach(5, 7, 0, 6, 1);
            Tables.plays(x, 0, 6, 1);
            Due.is("the last CARD of all", 1, x.bestWith(7));
            PepperboxTable y = Edges.twoOfThree(0, 5, 0, 0, 0);
            Tables.plays(y, 0, 1, 2);
            Due.is("two, with the one that lies there", 2, y.bestWith(7));
            y.play(7);
            Due.is("one, without it", 1, y.bestWith(15));
        });
        Due.sentence("if that CARD is played now, rightly or not", () -> {
            PepperboxTable x = Tables.given(1, new int[] {16, 17}, new int[] {10, 15}, new int[] {1, 14},
                    new int[] {24, 25});
            x.play(15);
            Due.is("rightly", 1, x.bestWith(14));
            Due.is("not", 2, x.bestWith(1));
            Due.is("no REVOKE is left", 0, x.side(0, 2));
        });
        Due.sentence("NONE if there is no best play as it is now", () -> {
            PepperboxTable x = Tables.playing(0, 0, 1, 4, 5);
            for (int k = 0; k < 4; k++) {
                Due.is("the PLAYER has 4, " + k + " lie there", -1, x.bestWith(Tables.aCardInTurn(x)));
                Tables.playRightly(x, 1);
            }
            Due.is("all have 3", true, x.bestWith(Tables.aCardInTurn(x)) >= 0);
        });
        Due.sentence("bestWith: if there is no such CARD", () -> {
            PepperboxTable x = Edges.oneEach(5, 1, 0, 31, 2);
            for (int bad : Edges.outside(0, 31)) {
                Due.noPlace("bestWith(" + bad + ")", x, () -> x.bestWith(bad));
            }
            Due.is("the first", 0, x.bestWith(0));
            x.play(0);
            Due.is("the last", 0, x.bestWith(31));
        });
        Due.sentence("bestWith: if it is not in the STATE 2", () -> {
            for (int state : new int[] {0, 1, 3, 4}) {
                PepperboxTable x = Edges.inState(state);
                for (int card = 0; card < 8; card++) {
                    int c = card;
                    Due.noState(card + " in " + state, x, () -> x.bestWith(c));
                }
            }
        });
        Due.sentence("bestWith: or the CARD is not in the HAND of the PLAYER whose turn it is", () -> {
            PepperboxTable x = Edges.inState(2);
            for (int card = 0; card < 32; card++) {
                int c = card;
                if (card != 1 && card != 5) {
                    Due.noState("1 has not " + card, x, () -> x.bestWith(c));
                }
            }
            PepperboxTable four = Tables.playing(0, 0, 1, 4, 5);
            Due.noState("without a best play, too", four, () -> four.bestWith(0));
        });
    }

    // ---- promise 22

    private static void bestCard() {
        Due.sentence("the smallest CARD that the PLAYER whose turn it is can play in the best play", () -> {
            PepperboxTable same = Tables.given(5, new int[] {0, 8, 16}, new int[] {23, 15, 7}, new int[] {1, 9, 17},
                    new int[] {2, 10, 18});
            Due.is("all three are as good", 7, same.bestCard());
            PepperboxTable x = Tables.given(4, new int[] {16, 25}, new int[] {0, 31}, new int[] {17, 18},
                    new int[] {1, 19});
            Due.is("the smallest is not in it", 31, x.bestCard());
            PepperboxTable one = Edges.oneEach(5, 1, 0, 31, 2);
            Due.is("the CARD 0 is one", 0, one.bestCard());
            one.play(0);
            Due.is("the CARD 31 is one", 31, one.bestCard());
            // 2 has to follow with 14; 1 would be smaller.
            PepperboxTable follow = Tables.given(5, new int[] {16, 17}, new int[] {10, 15}, new int[] {1, 14},
                    new int[] {24, 25});
            follow.play(15);
            Due.is("a smaller one is not right", 14, follow.bestCard());
            // The SIDE 0 gets none, with 1 or with 8.
            PepperboxTable same8 = Tables.given(5, new int[] {16, 17}, new int[] {10, 15}, new int[] {1, 8},
                    new int[] {24, 25});
            same8.play(15);
            Due.is("a smaller one is as good, but not right", 8, same8.bestCard());
        });
        Due.sentence("bestCard: NONE if there is none", () -> {
            Due.is("4 CARDS", -1, Tables.playing(0, 0, 1, 4, 5).bestCard());
            for (int state : new int[] {0, 1, 3, 4}) {
                Due.is("in " + state, -1, Edges.inState(state).bestCard());
            }
        });
    }

    // ---- promise 23

    private static void bestIn() {
        Due.sentence("Returns best(), as if that was the TRUMP", () -> {
            PepperboxTable x = Tables.given(5, new int[] {0, 1}, new int[] {8, 9}, new int[] {16, 17},
                    new int[] {24, 25});
            int[] due = {2, 0, 2, 0, 0};
            for (int trump = 0; trump <= 4; trump++) {
                Due.is("bestIn(" + trump + ")", due[trump], x.bestIn(trump));
            }
            Due.is("the TRUMP is as it was", 4, x.contract(1));
            Due.is("best() is as it was", 0, x.best());
            Tables.plays(x, 8, 16, 24);
            Due.is("of what lies there, too", 2, x.bestIn(2));
            Due.is("of what lies there, too", 0, x.bestIn(3));
        });
        Due.sentence("bestIn: NONE if there is no best play", () -> {
            PepperboxTable four = Tables.playing(0, 0, 1, 4, 5);
            for (int trump = 0; trump <= 4; trump++) {
                Due.is("4 CARDS", -1, four.bestIn(trump));
                Due.is("in the STATE 1", -1, Edges.inState(1).bestIn(trump));
                Due.is("in the STATE 3", -1, Edges.inState(3).bestIn(trump));
            }
        });
        Due.sentence("if trump is not 0 to 4", () -> {
            for (int state = 0; state <= 4; state++) {
                PepperboxTable x = Edges.inState(state);
                for (int bad : Edges.outside(0, 4)) {
                    Due.noArgument("bestIn(" + bad + ") in " + state, x, () -> x.bestIn(bad));
                }
            }
            Due.is("the least", true, Edges.inState(2).bestIn(0) >= 0);
            Due.is("the greatest", true, Edges.inState(2).bestIn(4) >= 0);
        });
    }

    // ---- promise 24

    private static void wouldScore() {
        Due.sentence("what the SIDE 0 would score less what the SIDE 1 would", () -> {
            Due.is("made by the SIDE 0", 60, Edges.twoOfThree(0, 5, 0, 0, 0).wouldScore(2));
            Due.is("not made by the SIDE 0", -50, Edges.twoOfThree(0, 5, 0, 0, 0).wouldScore(0));
            Due.is("made by the SIDE 1", -60, Edges.twoOfThree(1, 5, 0, 0, 0).wouldScore(1));
            Due.is("not made by the SIDE 1", 50, Edges.twoOfThree(1, 5, 0, 0, 0).wouldScore(3));
        });
        Due.sentence("with the CONTRACT", () -> {
            Due.is("as many as the LEVEL", 80, Edges.twoOfThree(2, 10, 0, 0, 0).wouldScore(2));
            Due.is("one less, twice", -100, Edges.twoOfThree(2, 10, DOUBLE, 0, 0, 0).wouldScore(1));
            Due.is("one more, twice", 200, Edges.twoOfThree(2, 10, DOUBLE, 0, 0, 0).wouldScore(3));
        });
        Due.sentence("and the SIDE 1 all others", () -> {
            Due.is("none of three", -80, Edges.twoOfThree(3, 5, 0, 0, 0).wouldScore(0));
            Due.is("all of three", 50, Edges.twoOfThree(3, 5, 0, 0, 0).wouldScore(3));
            Due.is("none of eight", -180, Tables.playing(3, 0, 1, 8, 5).wouldScore(0));
        });
        Due.sentence("as it is over (of REVOKES, too)", () -> {
            PepperboxTable x = Tables.revoked();
            int[] due = {-50, 40, 60, 80};
            for (int first = 0; first <= 3; first++) {
                Due.is("the other SIDE's REVOKE is not paid once more", due[first], x.wouldScore(first));
                Due.is("nor that of the DECLARER's SIDE", -due[3 - first], revokedBySide1(first));
            }
        });
    }

    /** The SIDE 1 has the CONTRACT, and a REVOKE. */
    private static int revokedBySide1(int first) {
        PepperboxTable x = Edges.dealtBy(1, 5, new int[] {3, 8, 23}, new int[] {0, 4, 20}, new int[] {1, 5, 21},
                new int[] {2, 6, 22});
        Tables.plays(x, 1, 22);
        Due.is("a REVOKE", 1, x.side(1, 2));
        return x.wouldScore(first);
    }

    private static void wouldScoreRefuses() {
        Due.sentence("if first is not 0 to 8", () -> {
            for (int state = 0; state <= 4; state++) {
                PepperboxTable x = Edges.inState(state);
                for (int bad : Edges.outside(0, 8)) {
                    Due.noArgument("wouldScore(" + bad + ") in " + state, x, () -> x.wouldScore(bad));
                }
            }
            Due.is("the least", -50, Tables.playing(0, 0, 1, 8, 5).wouldScore(0));
            Due.is("the greatest", 180, Tables.playing(0, 0, 1, 8, 5).wouldScore(8));
        });
        Due.sentence("if there is no CONTRACT", () -> {
            for (int state : new int[] {0, 1, 4}) {
                PepperboxTable x = Edges.inState(state);
                Due.noState("in " + state, x, () -> x.wouldScore(0));
            }
            PepperboxTable x = Tables.bidding(0, 2);
            Tables.bids(x, 5, 0, 0);
            Due.noState("one PASS ahead of it", x, () -> x.wouldScore(0));
            Due.is("as it is over", 60, Edges.inState(3).wouldScore(2));
            PepperboxTable y = Edges.inState(3);
            y.begin(0);
            Due.noState("that of the last deal", y, () -> y.wouldScore(0));
        });
        Due.sentence("or each HAND had fewer CARDS than first as BIDS were begun", () -> {
            for (int many = 1; many <= 8; many++) {
                PepperboxTable x = Tables.playing(0, 0, 1, many, 5);
                Due.is("as many as the CARDS", 40 + 20 * (many - 1), x.wouldScore(many));
                for (int first = many + 1; first <= 8; first++) {
                    int f = first;
                    Due.noState(first + " of " + many, x, () -> x.wouldScore(f));
                }
                Tables.playRightly(x, 4 * many);
                Due.is("not as it is now", 40 + 20 * (many - 1), x.wouldScore(many));
            }
        });
    }

    // ---- promise 25

    /** The numbers of a new object, in the digest's order. */
    private static int[] newObject() {
        int[] all = new int[8 + 4 + 6 + 60 + 7];
        int[] now = {0, 0, -1, 0, 0, 0, -1, 0};
        System.arraycopy(now, 0, all, 0, 8);
        Arrays.fill(all, 8, 12, -1);
        for (int k = 0; k < 60; k++) {
            all[18 + k] = k % 3 == 0 ? 0 : -1;
        }
        Arrays.fill(all, 78, 85, -1);
        return all;
    }

    private static void digest() {
        Due.sentence("A number d starts with 968", () -> {
            long d = 968;
            for (int v : newObject()) {
                d = d * 31 + v;
            }
            Due.is("a new object", d, new PepperboxTable().digest());
        });
        Due.sentence("which wraps around as a 64-bit integer", () -> {
            BigInteger d = BigInteger.valueOf(968);
            for (int v : newObject()) {
                d = d.multiply(BigInteger.valueOf(31)).add(BigInteger.valueOf(v));
            }
            Due.is("it does not fit into 64 bits", true, d.bitLength() > 64);
            Due.is("the last 64 bits of it", d.longValue(), new PepperboxTable().digest());
        });
        Due.sentence("each bidAt()", () -> {
            int[] bids = {};
            for (int many = 0; many <= 4; many++) {
                PepperboxTable x = Tables.bidding(0, 4);
                Tables.bids(x, bids);
                Due.is("so many BIDS: " + many, Edges.digestByHand(x), x.digest());
                bids = Arrays.copyOf(bids, many + 1);
                bids[many] = many == 1 ? 7 : 0;
            }
        });
        Due.sentence("for each TRICK that is ended trick() of 0 to 5", () -> {
            for (int many = 0; many <= 16; many++) {
                PepperboxTable x = Tables.playing(2, 9, 7, 4, 12);
                Tables.playRightly(x, many);
                Due.is("so many CARDS played: " + many, Edges.digestByHand(x), x.digest());
            }
        });
        Due.sentence("for each v in this order", () -> {
            for (int state = 0; state <= 4; state++) {
                PepperboxTable x = Edges.inState(state);
                Due.is("in " + state, Edges.digestByHand(x), x.digest());
            }
            PepperboxTable x = Tables.revoked();
            Due.is("with a REVOKE, within a TRICK", Edges.digestByHand(x), x.digest());
            PepperboxTable whole = Tables.playing(3, 5, 7, 8, 33);
            Tables.playRightly(whole, 18);
            Due.is("with many CARDS", Edges.digestByHand(whole), whole.digest());
        });
    }
}
