/** The boundary sentences of "3. Tricks" and of the promises 12 to 16, each with a test of its own. */
public final class TricksEdgesTest {
    public static void main(String[] args) {
        tricks();
        takers();
        over();
        revokes();
        play();
        back();
        isRight();
        trick();
        now();
        nowCounts();
        Due.end("TricksEdgesTest");
    }

    // ---- 3. Tricks

    private static void tricks() {
        Due.sentence("A TRICK are four CARDS", () -> {
            PepperboxTable x = Edges.inState(2);
            for (int k = 0; k < 4; k++) {
                Due.is("not ended with " + k, 0, x.now(4));
                Due.is("lying", k, x.now(5));
                Tables.playRightly(x, 1);
            }
            Due.is("ended with 4", 1, x.now(4));
            Due.is("none lies", 0, x.now(5));
        });
        Due.sentence("one of each PLAYER, in turn, beginning with who LEADS", () -> {
            for (int dealer = 0; dealer < 4; dealer++) {
                PepperboxTable x = Edges.dealtBy(dealer, 5, new int[] {0}, new int[] {1}, new int[] {2},
                        new int[] {3});
                for (int k = 1; k <= 4; k++) {
                    Due.is("turn " + k, (dealer + k) % 4, x.now(2));
                    x.play((dealer + k) % 4);
                }
            }
        });
        Due.sentence("To FOLLOW is to play a CARD of the SUIT that was led; who has one in the HAND has to", () -> {
            // 3 and 4 are next to one another, as are 7 and 8, of two SUITS.
            PepperboxTable x = Tables.given(5, new int[] {0, 1, 2}, new int[] {7, 16, 17}, new int[] {3, 8, 6},
                    new int[] {9, 10, 11});
            x.play(7);
            Due.is("of the SUIT that was led", true, x.isRight(3));
            Due.is("of it, too", true, x.isRight(6));
            Due.is("of another", false, x.isRight(8));
            x.play(8);
            Due.is("who has none is free", true, x.isRight(9) && x.isRight(10) && x.isRight(11));
        });
        Due.sentence("Who got it LEADS the next one", () -> {
            for (int player = 0; player < 4; player++) {
                int[][] hands = {{0, 8}, {1, 9}, {2, 10}, {3, 11}};
                hands[player][0] = 7;
                PepperboxTable x = Tables.given(5, hands);
                Tables.plays(x, hands[1][0], hands[2][0], hands[3][0]);
                Due.is("who leads", player, x.play(hands[0][0]));
                x.play(hands[player][1]);
                Tables.playRightly(x, 3);
                Due.is("who led", player, x.trick(1, 0));
            }
        });
    }

    private static int takerOf(int bid, int of1, int of2, int of3, int of0) {
        PepperboxTable x = Edges.oneEach(bid, of0, of1, of2, of3);
        Tables.plays(x, of1, of2, of3, of0);
        return x.trick(0, 1);
    }

    private static void takers() {
        Due.sentence("of those of the SUIT that is TRUMP, if there are any", () -> {
            Due.is("the smallest TRUMP", 0, takerOf(1, 15, 14, 13, 0));
            Due.is("the greater of two, behind", 3, takerOf(1, 15, 0, 1, 14));
            Due.is("the greater of two, ahead", 2, takerOf(1, 15, 1, 0, 14));
            Due.is("led", 1, takerOf(1, 0, 15, 23, 31));
            Due.is("the greatest of four", 3, takerOf(4, 26, 25, 31, 24));
        });
        Due.sentence("otherwise of those of the SUIT that was led", () -> {
            Due.is("the smallest CARD, led", 1, takerOf(5, 0, 15, 23, 31));
            Due.is("the greater of two", 3, takerOf(5, 8, 31, 9, 7));
            Due.is("a SUIT above it is nothing, nor one below", 1, takerOf(5, 8, 7, 16, 31));
            Due.is("the TRUMP was not played", 2, takerOf(4, 0, 1, 15, 23));
        });
        Due.sentence("with a TRUMP, 0 to 3 for SUITS, or 4 for none", () -> {
            for (int trump = 0; trump <= 4; trump++) {
                int bid = trump + 1;
                // Led by 1 is the SUIT 0; the PLAYERS 2, 3, 0 play the SUITS 1, 2, 3.
                int[] due = {1, 2, 3, 0, 1};
                Due.is("the TRUMP " + trump, due[trump], takerOf(bid, 7, 8, 16, 24));
            }
        });
    }

    private static void over() {
        Due.sentence("When all HANDS are without CARDS behind a TRICK, it is over", () -> {
            for (int many = 1; many <= 8; many++) {
                PepperboxTable x = Tables.playing(0, 0, 1, many, 5);
                Tables.playRightly(x, 4 * many - 1);
                Due.is("one CARD is left", 2, x.now(0));
                Tables.playRightly(x, 1);
                Due.is("none is left", 3, x.now(0));
                Due.is("so many TRICKS", many, x.now(4));
            }
        });
    }

    // ---- REVOKES: the PLAYERS 1 and 0 lead 7, then 15

    private static PepperboxTable led7() {
        PepperboxTable x = Tables.given(2, new int[] {1, 2, 9}, new int[] {7, 15, 16}, new int[] {0, 8, 24},
                new int[] {17, 18, 10});
        x.play(7);
        return x;
    }

    private static void revokes() {
        Due.sentence("a CARD that does not FOLLOW, though there is one in the HAND that would: a REVOKE", () -> {
            PepperboxTable x = led7();
            Due.is("who leads has none", 0, x.side(1, 2));
            x.play(24);
            Due.is("2 could", 1, x.side(0, 2));
            x.play(17);
            Due.is("3 could not", 0, x.side(1, 2));
            PepperboxTable y = led7();
            y.play(0);
            Due.is("2 does", 0, y.side(0, 2));
            PepperboxTable z = led7();
            z.play(8);
            Due.is("2 could, and plays a TRUMP", 1, z.side(0, 2));
            Tables.plays(z, 17, 1);
            Due.is("the next who leads has none", 0, z.side(1, 2));
        });
        Due.sentence("unless that CARD is taken back", () -> {
            PepperboxTable x = led7();
            x.play(24);
            x.back();
            Due.is("taken back", 0, x.side(0, 2));
            x.play(0);
            Due.is("another one, rightly", 0, x.side(0, 2));
            x.back();
            x.play(24);
            Due.is("wrongly again", 1, x.side(0, 2));
        });
    }

    // ---- promise 12

    private static void play() {
        Due.sentence("play: Returns the PLAYER whose turn it is then", () -> {
            PepperboxTable x = Edges.inState(2);
            int[] cards = {1, 6, 3, 4, 2, 7, 0};
            int[] due = {2, 3, 0, 2, 3, 0, 1};
            for (int k = 0; k < cards.length; k++) {
                Due.is("behind " + cards[k], due[k], x.play(cards[k]));
            }
        });
        Due.sentence("play: NONE if it is over", () -> {
            PepperboxTable x = Edges.oneEach(5, 0, 1, 2, 3);
            Tables.plays(x, 1, 2);
            Due.is("not yet", 0, x.play(3));
            Due.is("over", -1, x.play(0));
        });
        Due.sentence("play: if there is no such CARD", () -> {
            PepperboxTable x = Edges.oneEach(5, 1, 0, 30, 31);
            for (int bad : Edges.outside(0, 31)) {
                Due.noPlace("play(" + bad + ")", x, () -> x.play(bad));
            }
            Due.is("the first", 2, x.play(0));
            x.play(30);
            Due.is("the last", 0, x.play(31));
        });
        Due.sentence("play: if it is not in the STATE 2", () -> {
            for (int state : new int[] {0, 1, 3, 4}) {
                PepperboxTable x = Edges.inState(state);
                for (int card = 0; card < 8; card++) {
                    int c = card;
                    Due.noState(card + " in " + state, x, () -> x.play(c));
                }
            }
        });
        Due.sentence("play: or the CARD is not in that HAND", () -> {
            PepperboxTable x = Edges.inState(2);
            for (int card = 0; card < 32; card++) {
                int c = card;
                if (card != 1 && card != 5) {
                    Due.noState("1 has not " + card, x, () -> x.play(c));
                }
            }
            x.play(1);
            Due.noState("played", x, () -> x.play(1));
            Due.noState("of who played ahead", x, () -> x.play(5));
        });
    }

    // ---- promise 13

    private static void back() {
        Due.sentence("Takes the last CARD back that lies in a TRICK that is not ended", () -> {
            PepperboxTable x = Edges.inState(2);
            Tables.plays(x, 1, 6, 3);
            Due.is("the last of three", 3, x.back());
            Due.is("two lie", 2, x.now(5));
            Due.is("the last of two", 6, x.back());
            Due.is("one lies", 1, x.now(5));
            Due.is("the only one", 1, x.back());
            Due.is("none lies", 0, x.now(5));
            Due.is("all is as before", x.digest(), Edges.inState(2).digest());
        });
        Due.sentence("it is in the HAND again of who played it", () -> {
            PepperboxTable x = Edges.inState(2);
            Tables.plays(x, 1, 6, 3);
            x.back();
            Due.is("of 3", true, x.has(3, 3));
            for (int player = 0; player < 3; player++) {
                Due.is("of no other", false, x.has(player, 3));
            }
        });
        Due.sentence("whose turn it is then", () -> {
            PepperboxTable x = Edges.inState(2);
            Tables.plays(x, 1, 6, 3);
            x.back();
            Due.is("from 0 back to 3", 3, x.now(2));
            x.back();
            Due.is("from 3 back to 2", 2, x.now(2));
        });
        Due.sentence("a REVOKE with it is none any more", () -> {
            PepperboxTable x = Tables.revoked();
            x.back();
            Due.is("none", 0, x.side(1, 2));
            x.play(3);
            Due.is("none, with another CARD in its place", 0, x.side(1, 2));
            PepperboxTable y = Tables.revoked();
            Tables.plays(y, 0, 6, 23);
            y.back();
            Due.is("that of an ended TRICK stays", 1, y.side(1, 2));
            PepperboxTable z = Tables.revoked();
            z.play(20);
            z.play(6);
            z.back();
            Due.is("a CARD without one leaves those of both SIDES", 2, z.side(0, 2) + z.side(1, 2));
        });
        Due.sentence("back: Returns the CARD", () -> {
            for (int card : new int[] {0, 31}) {
                PepperboxTable x = Edges.oneEach(5, 1, card, 2, 3);
                x.play(card);
                Due.is("the CARD", card, x.back());
            }
        });
        Due.sentence("back: if it is not in the STATE 2", () -> {
            for (int state : new int[] {0, 1, 3, 4}) {
                PepperboxTable x = Edges.inState(state);
                Due.noState("in " + state, x, () -> x.back());
            }
        });
        Due.sentence("or no CARD lies there", () -> {
            PepperboxTable x = Edges.inState(2);
            Due.noState("none was played", x, () -> x.back());
            x.play(1);
            x.back();
            Due.noState("all were taken back", x, () -> x.back());
            Tables.plays(x, 1, 6, 3, 4);
            Due.noState("the TRICK is ended", x, () -> x.back());
            Due.is("its CARDS stay", 4, x.trick(0, 2));
        });
    }

    // ---- promise 14

    private static void isRight() {
        Due.sentence("whether the PLAYER whose turn it is may play it rightly, from the HAND", () -> {
            PepperboxTable x = led7();
            for (int card = 0; card < 32; card++) {
                Due.is("2 has one to follow: " + card, card == 0, x.isRight(card));
            }
            x.play(0);
            for (int card = 0; card < 32; card++) {
                Due.is("3 has none: " + card, card == 17 || card == 18 || card == 10, x.isRight(card));
            }
            x.play(17);
            for (int card = 0; card < 32; card++) {
                Due.is("0 has two: " + card, card == 1 || card == 2, x.isRight(card));
            }
            x.play(1);
            for (int card = 0; card < 32; card++) {
                Due.is("1 leads: " + card, card == 15 || card == 16, x.isRight(card));
            }
        });
        Due.sentence("(false in other STATES than 2)", () -> {
            for (int state : new int[] {0, 1, 3, 4}) {
                PepperboxTable x = Edges.inState(state);
                for (int card = 0; card < 32; card++) {
                    Due.is(card + " in " + state, false, x.isRight(card));
                }
            }
        });
        Due.sentence("isRight: if there is no such CARD", () -> {
            for (int state = 0; state <= 4; state++) {
                PepperboxTable x = Edges.inState(state);
                for (int bad : Edges.outside(0, 31)) {
                    Due.noPlace("isRight(" + bad + ") in " + state, x, () -> x.isRight(bad) ? 1 : 0);
                }
            }
            PepperboxTable x = Tables.given(5, new int[] {1, 2}, new int[] {0, 31}, new int[] {3, 4}, new int[] {5, 6});
            Due.is("the first", true, x.isRight(0));
            Due.is("the last", true, x.isRight(31));
        });
    }

    // ---- promise 15

    private static void trick() {
        Due.sentence("a TRICK of this deal that is ended, from 0", () -> {
            PepperboxTable x = Edges.inState(2);
            Tables.plays(x, 1, 6, 3);
            Due.noPlace("three CARDS end none", x, () -> x.trick(0, 0));
            x.play(4);
            Due.is("the first one", 1, x.trick(0, 0));
            Due.noPlace("the second one", x, () -> x.trick(1, 0));
            x.begin(0);
            Due.noPlace("none of the last deal", x, () -> x.trick(0, 0));
            PepperboxTable whole = Tables.playing(0, 0, 1, 8, 5);
            Tables.playRightly(whole, 32);
            Due.is("the eighth", whole.trick(6, 1), whole.trick(7, 0));
            Due.noPlace("no ninth", whole, () -> whole.trick(8, 0));
        });
        Due.sentence("0 who led, 1 who got it, 2 to 5 the CARD of the PLAYER 0 to 3", () -> {
            PepperboxTable x = Edges.inState(2);
            Tables.plays(x, 1, 6, 3, 4, 2, 7, 0, 5);
            int[][] due = {{1, 2, 4, 1, 6, 3}, {2, 3, 0, 5, 2, 7}};
            for (int k = 0; k < 12; k++) {
                Due.is("trick(" + k / 6 + ", " + k % 6 + ")", due[k / 6][k % 6], x.trick(k / 6, k % 6));
            }
        });
        Due.sentence("1 who got it", () -> {
            for (int winner = 0; winner < 4; winner++) {
                PepperboxTable x = Edges.allEight(winner, 0, 5, 0, 0, 0);
                for (int trick = 0; trick < 8; trick++) {
                    Due.is("the TRICK " + trick, winner, x.trick(trick, 1));
                    Due.is("who led " + trick, trick == 0 ? 1 : winner, x.trick(trick, 0));
                }
            }
        });
        Due.sentence("trick: if there is no such one", () -> {
            PepperboxTable x = Edges.inState(3);
            for (int bad : Edges.outside(0, 1)) {
                Due.noPlace("trick(" + bad + ", 0)", x, () -> x.trick(bad, 0));
            }
            for (int state : new int[] {0, 1, 2, 4}) {
                PepperboxTable y = Edges.inState(state);
                Due.noPlace("in " + state, y, () -> y.trick(0, 0));
            }
        });
        Due.sentence("if what is not 0 to 5", () -> {
            PepperboxTable x = Edges.inState(3);
            for (int bad : Edges.outside(0, 5)) {
                Due.noArgument("trick(0, " + bad + ")", x, () -> x.trick(0, bad));
            }
            Due.is("the greatest", 3, x.trick(0, 5));
        });
    }

    // ---- promise 16

    private static void now() {
        Due.sentence("2 the PLAYER whose turn it is (NONE in the STATES 0 and 3)", () -> {
            int[] due = {-1, 0, 1, -1, -1};
            for (int state = 0; state <= 4; state++) {
                Due.is("in " + state, due[state], Edges.inState(state).now(2));
            }
        });
        Due.sentence("1 the DEALER", () -> {
            PepperboxTable x = new PepperboxTable();
            x.begin(3);
            x.deal(0, 1, 1);
            x.open();
            Tables.bids(x, 1, 0, 0, 0);
            Tables.playRightly(x, 4);
            Due.is("stays as it is over", 3, x.now(1));
        });
        Due.sentence("6 who would get that, as it lies (NONE without CARDS)", () -> {
            PepperboxTable x = led7();
            Due.is("the one that was led", 1, x.now(6));
            x.play(24);
            Due.is("another SUIT", 1, x.now(6));
            x.back();
            x.play(8);
            Due.is("a TRUMP", 2, x.now(6));
            Tables.plays(x, 10);
            Due.is("a greater TRUMP", 3, x.now(6));
            Tables.plays(x, 1);
            Due.is("none lies behind a TRICK", -1, x.now(6));
            x.play(17);
            x.back();
            Due.is("it was taken back", -1, x.now(6));
            for (int state = 0; state <= 4; state++) {
                Due.is("none lies in " + state, -1, Edges.inState(state).now(6));
            }
        });
        Due.sentence("now: if what is not 0 to 7", () -> {
            for (int state = 0; state <= 4; state++) {
                PepperboxTable x = Edges.inState(state);
                for (int bad : Edges.outside(0, 7)) {
                    Due.noArgument("now(" + bad + ") in " + state, x, () -> x.now(bad));
                }
            }
            Due.is("the least", 3, Edges.inState(3).now(0));
            Due.is("the greatest", 1, Edges.inState(3).now(7));
        });
    }

    private static void nowCounts() {
        Due.sentence("3 how many BIDS there are", () -> {
            int[] due = {0, 0, 4, 4, 4};
            for (int state = 0; state <= 4; state++) {
                Due.is("in " + state, due[state], Edges.inState(state).now(3));
            }
        });
        Due.sentence("4 how many TRICKS are ended", () -> {
            PepperboxTable x = Tables.playing(0, 0, 1, 8, 5);
            for (int k = 0; k < 32; k++) {
                Due.is("behind " + k + " CARDS", k / 4, x.now(4));
                Tables.playRightly(x, 1);
            }
            Due.is("as it is over", 8, x.now(4));
        });
        Due.sentence("5 how many CARDS lie in the one that is not", () -> {
            PepperboxTable x = Edges.inState(2);
            for (int k = 0; k < 8; k++) {
                Due.is("behind " + k + " CARDS", k % 4, x.now(5));
                Tables.playRightly(x, 1);
            }
            Due.is("as it is over", 0, x.now(5));
        });
        Due.sentence("7 how many deals with a CONTRACT came to be over, ever", () -> {
            PepperboxTable x = Edges.inState(3);
            Due.is("one", 1, x.now(7));
            x.begin(0);
            Due.is("it stays", 1, x.now(7));
            x.deal(0, 1, 1);
            x.open();
            Tables.bids(x, 0, 0, 0, 0);
            Due.is("one without a CONTRACT", 1, x.now(7));
            x.begin(0);
            x.deal(0, 1, 1);
            x.open();
            Tables.bids(x, 1, 0, 0, 0);
            Tables.playRightly(x, 3);
            Due.is("one that is not over", 1, x.now(7));
            x.begin(0);
            Due.is("one that did not come to be over", 1, x.now(7));
            x.deal(0, 1, 1);
            x.open();
            Tables.bids(x, 1, 0, 0, 0);
            Tables.playRightly(x, 4);
            Due.is("the second one", 2, x.now(7));
        });
    }
}
