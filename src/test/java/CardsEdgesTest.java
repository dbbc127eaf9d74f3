/** The boundary sentences of "1. Cards" and of the promises 1 to 7, each with a test of its own. */
public final class CardsEdgesTest {
    public static void main(String[] args) {
        terms();
        newObject();
        begin();
        deal();
        dealRefuses();
        give();
        open();
        has();
        hand();
        Due.end("CardsEdgesTest");
    }

    // ---- 1. Cards

    private static void terms() {
        Due.sentence("NONE is -1", () -> {
            PepperboxTable x = new PepperboxTable();
            Due.is("no CARD", -1, x.deal(0, 1, 0));
            Due.is("no CONTRACT", -1, x.contract(0));
            Due.is("no turn", -1, x.now(2));
            Due.is("no best play", -1, x.best());
        });
        Due.sentence("PLAYERS are 0 to 3", () -> {
            PepperboxTable x = new PepperboxTable();
            for (int player = 0; player < 4; player++) {
                Due.is("the PLAYER " + player, 1, x.give(player, player));
            }
            Due.noPlace("ahead of the first", x, () -> x.give(-1, 9));
            Due.noPlace("behind the last", x, () -> x.give(4, 9));
        });
        Due.sentence("There are 32 CARDS, 0 to 31", () -> {
            PepperboxTable x = new PepperboxTable();
            Due.is("the first", 1, x.give(0, 0));
            Due.is("the last", 2, x.give(0, 31));
            Due.noPlace("ahead of the first", x, () -> x.give(0, -1));
            Due.noPlace("behind the last", x, () -> x.give(0, 32));
        });
        Due.sentence("the SUIT of a CARD is CARD / 8 (0 to 3)", () -> {
            for (int card = 0; card < 32; card++) {
                PepperboxTable x = new PepperboxTable();
                x.give(2, card);
                for (int suit = 0; suit < 4; suit++) {
                    Due.is("the CARD " + card + " in " + suit, suit == card / 8 ? 1 : 0, x.hand(2, suit, 0));
                }
            }
        });
        Due.sentence("its RANK CARD % 8 (0 to 7, the greatest is the best)", CardsEdgesTest::ranks);
        Due.sentence("on the left of each sits the next one, of 3 that is 0", () -> {
            PepperboxTable x = Tables.bidding(3, 1);
            Due.is("left of 3, to bid", 0, x.bid(1));
            Due.is("left of 0, to bid", 1, x.bid(0));
            PepperboxTable y = Edges.dealtBy(2, 5, new int[] {0}, new int[] {1}, new int[] {2}, new int[] {3});
            Due.is("3 leads", 3, y.now(2));
            Due.is("left of 3, to play", 0, y.play(3));
            Due.is("left of 0, to play", 1, y.play(0));
        });
        Due.sentence("0 and 2 are the SIDE 0, 1 and 3 the SIDE 1", () -> {
            for (int player = 0; player < 4; player++) {
                int[] cards = {0, 1, 2, 3};
                cards[player] = 7;
                PepperboxTable x = Edges.oneEach(5, cards[0], cards[1], cards[2], cards[3]);
                Tables.playRightly(x, 4);
                Due.is("the SIDE of " + player, 1, x.side(player % 2, 0));
                Due.is("not the SIDE of " + player, 0, x.side(1 - player % 2, 0));
            }
        });
        Due.sentence("A HAND are the CARDS that a PLAYER has and has not played", () -> {
            PepperboxTable x = Edges.inState(2);
            x.play(1);
            Due.is("without the one that was played", 1, x.hand(1, 4, 0));
            Due.is("the other one", 5, x.hand(1, 4, 2));
        });
        Due.sentence("One PLAYER is the DEALER (0, at first)",
                () -> Due.is("the DEALER", 0, new PepperboxTable().now(1)));
        Due.sentence("0 CARDS are given; 1 BIDS are made; 2 CARDS are played; 3 it is over", () -> {
            for (int state = 0; state <= 3; state++) {
                Due.is("the STATE", state, Edges.inState(state).now(0));
            }
        });
    }

    private static void ranks() {
        for (int card = 0; card < 31; card++) {
            if (card % 8 == 7) {
                continue;
            }
            int other = (card / 8 + 1) % 4 * 8;
            PepperboxTable x = Edges.oneEach(5, other, card, card + 1, other + 1);
            x.play(card);
            Due.is(card + 1 + " is better than " + card, 2, x.wouldGet(card + 1));
            PepperboxTable y = Edges.oneEach(5, other, card + 1, card, other + 1);
            y.play(card + 1);
            Due.is(card + " is not better than " + (card + 1), 1, y.wouldGet(card));
        }
    }

    // ---- promise 1

    private static void newObject() {
        Due.sentence("Creates a table in the STATE 0",
                () -> Due.is("the STATE", 0, new PepperboxTable().now(0)));
        Due.sentence("without CARDS in HANDS", () -> {
            PepperboxTable x = new PepperboxTable();
            for (int k = 0; k < 128; k++) {
                Due.is("the CARD " + k % 32, false, x.has(k / 32, k % 32));
            }
        });
        Due.sentence("the SCORES are 0", () -> {
            PepperboxTable x = new PepperboxTable();
            Due.is("of the SIDE 0", 0, x.side(0, 1));
            Due.is("of the SIDE 1", 0, x.side(1, 1));
        });
    }

    // ---- promise 2

    /** Over, with a REVOKE, and a SCORE of 50. */
    private static PepperboxTable ended() {
        PepperboxTable x = Tables.given(10, new int[] {0, 8}, new int[] {1, 9}, new int[] {7, 15}, new int[] {2, 10});
        Tables.plays(x, 1, 7, 2, 8, 15, 10, 0, 9);
        return x;
    }

    private static void begin() {
        Due.sentence("all HANDS are without CARDS", () -> {
            PepperboxTable x = new PepperboxTable();
            x.deal(0, 1, 8);
            x.begin(1);
            for (int player = 0; player < 4; player++) {
                Due.is("the HAND of " + player, 0, x.hand(player, 4, 0));
            }
            PepperboxTable y = Edges.inState(4);
            y.begin(1);
            Due.is("CARDS that nobody played", 0, y.hand(3, 4, 0));
        });
        Due.sentence("there are no BIDS", () -> {
            PepperboxTable x = Edges.inState(1);
            Tables.bids(x, 39, 41);
            x.begin(0);
            Due.is("how many", 0, x.now(3));
            Due.noPlace("the first", x, () -> x.bidAt(0));
            x.deal(0, 1, 1);
            x.open();
            Due.is("no LEVEL to be above", true, x.canBid(1));
            Due.is("no LEVEL to double", false, x.canBid(41));
            Tables.bids(x, 0, 0, 0);
            Due.is("four times PASS once more", -1, x.bid(0));
        });
        Due.sentence("no CONTRACT", () -> {
            for (PepperboxTable x : new PepperboxTable[] {Edges.inState(2), ended()}) {
                x.begin(0);
                for (int what = 0; what <= 3; what++) {
                    Due.is("contract(" + what + ")", -1, x.contract(what));
                }
            }
        });
        Due.sentence("no TRICKS", () -> {
            PepperboxTable x = ended();
            x.begin(0);
            Due.is("ended", 0, x.now(4));
            Due.is("of the SIDE 0", 0, x.side(0, 0));
            Due.is("of the SIDE 1", 0, x.side(1, 0));
            PepperboxTable y = Edges.inState(2);
            y.play(1);
            y.begin(0);
            Due.is("lying", 0, y.now(5));
            Due.is("who would get it", -1, y.now(6));
        });
        Due.sentence("no REVOKES", () -> {
            PepperboxTable x = ended();
            Due.is("one", 1, x.side(0, 2));
            x.begin(0);
            Due.is("none", 0, x.side(0, 2));
            x.deal(0, 1, 2);
            x.open();
            Tables.bids(x, 5, 0, 0, 0);
            Tables.playRightly(x, 8);
            Due.is("none comes back", 0, x.side(0, 2) + x.side(1, 2));
        });
        Due.sentence("it is in the STATE 0", () -> {
            for (int state = 0; state <= 4; state++) {
                PepperboxTable x = Edges.inState(state);
                x.begin(2);
                Due.is("behind " + state, 0, x.now(0));
            }
        });
        Due.sentence("SCORES stay", () -> {
            PepperboxTable x = ended();
            x.begin(0);
            Due.is("of the SIDE 1", 50, x.side(1, 1));
            Due.is("of the SIDE 0", 0, x.side(0, 1));
        });
        Due.sentence("Returns the STATE in which it was", () -> {
            for (int state = 0; state <= 4; state++) {
                Due.is("in " + state, Math.min(state, 3), Edges.inState(state).begin(0));
            }
        });
        Due.sentence("begin: IndexOutOfBoundsException if there is no such PLAYER", () -> {
            PepperboxTable x = new PepperboxTable();
            for (int bad : Edges.outside(0, 3)) {
                Due.noPlace("begin(" + bad + ")", x, () -> x.begin(bad));
            }
            for (int player = 0; player < 4; player++) {
                x.begin(player);
                Due.is("the DEALER", player, x.now(1));
            }
        });
    }

    // ---- promise 3

    private static void deal() {
        Due.sentence("the CARD (first + k * step) % 32", () -> {
            PepperboxTable x = new PepperboxTable();
            x.deal(31, 1, 1);
            Due.is("the last", true, x.has(0, 31));
            Due.is("behind the last is the first", true, x.has(1, 0));
            PepperboxTable y = new PepperboxTable();
            y.deal(31, 31, 8);
            for (int k = 0; k < 32; k++) {
                Due.is("back by one at each step", true, y.has(k % 4, 31 - k));
            }
        });
        Due.sentence("to the PLAYER k % 4", () -> {
            PepperboxTable x = new PepperboxTable();
            x.deal(0, 1, 2);
            for (int k = 0; k < 8; k++) {
                for (int player = 0; player < 4; player++) {
                    Due.is("the CARD " + k + " and " + player, player == k % 4, x.has(player, k));
                }
            }
        });
        Due.sentence("till each has so many", () -> {
            for (int many = 0; many <= 8; many++) {
                PepperboxTable x = new PepperboxTable();
                x.deal(5, 3, many);
                for (int player = 0; player < 4; player++) {
                    Due.is("many " + many, many, x.hand(player, 4, 0));
                }
            }
        });
        Due.sentence("Returns the smallest CARD of the PLAYER 0", () -> {
            Due.is("the first one", 3, new PepperboxTable().deal(3, 5, 3));
            Due.is("a later one, behind 31", 2, new PepperboxTable().deal(30, 1, 2));
            Due.is("the last one", 0, new PepperboxTable().deal(28, 31, 8));
            Due.is("not that of another", 31, new PepperboxTable().deal(31, 31, 1));
        });
        Due.sentence("deal: NONE without one", () -> {
            PepperboxTable x = new PepperboxTable();
            Due.is("none", -1, x.deal(0, 1, 0));
            Due.is("HANDS are without CARDS then", 0, x.deal(0, 1, 1));
        });
    }

    private static void dealRefuses() {
        Due.sentence("if first is not 0 to 31", () -> {
            for (int bad : Edges.outside(0, 31)) {
                PepperboxTable x = new PepperboxTable();
                Due.noArgument("first " + bad, x, () -> x.deal(bad, 1, 1));
            }
            Due.is("the least", 0, new PepperboxTable().deal(0, 1, 1));
            Due.is("the greatest", 31, new PepperboxTable().deal(31, 1, 1));
        });
        Due.sentence("step is not 1 to 31", () -> {
            for (int bad : new int[] {-1, -31, 33, Edges.MIN + 1, Edges.MAX}) {
                PepperboxTable x = new PepperboxTable();
                Due.noArgument("the odd step " + bad, x, () -> x.deal(0, bad, 1));
            }
            Due.is("the least", 0, new PepperboxTable().deal(0, 1, 1));
            Due.is("the greatest", 0, new PepperboxTable().deal(0, 31, 1));
        });
        Due.sentence("and odd", () -> {
            for (int step = 0; step <= 32; step++) {
                PepperboxTable x = new PepperboxTable();
                int s = step;
                if (step % 2 == 0) {
                    Due.noArgument("step " + step, x, () -> x.deal(0, s, 1));
                } else {
                    Due.is("step " + step, 0, x.deal(0, s, 1));
                }
            }
        });
        Due.sentence("or many is not 0 to 8", () -> {
            for (int bad : Edges.outside(0, 8)) {
                PepperboxTable x = new PepperboxTable();
                Due.noArgument("many " + bad, x, () -> x.deal(0, 1, bad));
            }
            Due.is("the least", -1, new PepperboxTable().deal(0, 1, 0));
            Due.is("the greatest", 0, new PepperboxTable().deal(0, 1, 8));
        });
        Due.sentence("deal: if it is not in the STATE 0", () -> {
            for (int state = 1; state <= 4; state++) {
                PepperboxTable x = Edges.inState(state);
                Due.noState("in " + state, x, () -> x.deal(0, 1, 0));
            }
        });
        Due.sentence("or a HAND has a CARD", () -> {
            for (int player = 0; player < 4; player++) {
                PepperboxTable x = new PepperboxTable();
                x.give(player, 31);
                Due.noState(player + " has one", x, () -> x.deal(0, 1, 1));
                Due.noState(player + " has one, none are dealt", x, () -> x.deal(0, 1, 0));
                x.begin(0);
                Due.is("no HAND has one", 0, x.deal(0, 1, 1));
            }
        });
    }

    // ---- promise 4

    private static void give() {
        Due.sentence("Returns how many the HAND has then", () -> {
            PepperboxTable x = new PepperboxTable();
            Due.is("the first", 1, x.give(3, 9));
            Due.is("the second", 2, x.give(3, 0));
            Due.is("of another HAND", 1, x.give(2, 31));
        });
        Due.sentence("give: if there is no such PLAYER, or CARD", () -> {
            PepperboxTable x = new PepperboxTable();
            for (int bad : Edges.outside(0, 3)) {
                Due.noPlace("the PLAYER " + bad, x, () -> x.give(bad, 0));
            }
            for (int bad : Edges.outside(0, 31)) {
                Due.noPlace("the CARD " + bad, x, () -> x.give(0, bad));
            }
            Due.is("the last of both", 1, x.give(3, 31));
            Due.is("the first of both", 1, x.give(0, 0));
        });
        Due.sentence("give: if it is not in the STATE 0", () -> {
            for (int state = 1; state <= 4; state++) {
                PepperboxTable x = Edges.inState(state);
                Due.noState("in " + state, x, () -> x.give(0, 31));
            }
        });
        Due.sentence("the HAND has 8", () -> {
            for (int player = 0; player < 4; player++) {
                PepperboxTable x = new PepperboxTable();
                for (int card = 0; card < 7; card++) {
                    x.give(player, card);
                }
                Due.is("the eighth", 8, x.give(player, 7));
                int p = player;
                Due.noState("the ninth", x, () -> x.give(p, 8));
                Due.is("another HAND has room", 1, x.give((player + 1) % 4, 8));
            }
        });
        Due.sentence("or the CARD is in a HAND", () -> {
            for (int player = 0; player < 4; player++) {
                PepperboxTable x = new PepperboxTable();
                x.give(player, 9);
                for (int other = 0; other < 4; other++) {
                    int o = other;
                    Due.noState("the CARD of " + player + " to " + other, x, () -> x.give(o, 9));
                }
                x.begin(0);
                Due.is("it is in none any more", 1, x.give(0, 9));
            }
        });
    }

    // ---- promise 5

    private static void open() {
        Due.sentence("Ends the giving: BIDS are made from now on", () -> {
            PepperboxTable x = new PepperboxTable();
            x.deal(0, 1, 1);
            Due.is("not yet", false, x.canBid(0));
            x.open();
            Due.is("the STATE", 1, x.now(0));
            Due.is("BIDS are made", true, x.canBid(0));
            Due.noState("no CARD is given", x, () -> x.give(0, 31));
        });
        Due.sentence("Returns how many CARDS are in all HANDS", () -> {
            for (int many = 1; many <= 8; many++) {
                PepperboxTable x = new PepperboxTable();
                x.deal(0, 1, many);
                Due.is("many " + many, 4 * many, x.open());
            }
        });
        Due.sentence("open: if it is not in the STATE 0", () -> {
            for (int state = 1; state <= 4; state++) {
                PepperboxTable x = Edges.inState(state);
                Due.noState("in " + state, x, () -> x.open());
            }
        });
        Due.sentence("a HAND has no CARD", () -> {
            PepperboxTable none = new PepperboxTable();
            Due.noState("none has one", none, () -> none.open());
            for (int without = 0; without < 4; without++) {
                PepperboxTable x = new PepperboxTable();
                for (int player = 0; player < 4; player++) {
                    if (player != without) {
                        x.give(player, player);
                    }
                }
                Due.noState(without + " has none", x, () -> x.open());
                x.give(without, 31);
                Due.is("each has one", 4, x.open());
            }
        });
        Due.sentence("or two HANDS have not as many", () -> {
            for (int player = 0; player < 4; player++) {
                PepperboxTable more = new PepperboxTable();
                more.deal(0, 1, 7);
                more.give(player, 31);
                Due.noState(player + " has one more", more, () -> more.open());
                PepperboxTable less = new PepperboxTable();
                less.deal(0, 1, 1);
                for (int other = 1; other < 4; other++) {
                    less.give((player + other) % 4, 20 + other);
                }
                Due.noState(player + " has one less", less, () -> less.open());
                less.give(player, 31);
                Due.is("as many", 8, less.open());
            }
        });
    }

    // ---- promise 6

    private static void has() {
        Due.sentence("Returns whether it is in the HAND", () -> {
            PepperboxTable x = Edges.inState(2);
            Due.is("in that HAND", true, x.has(1, 1));
            Due.is("in another one", false, x.has(0, 1));
            Due.is("in none", false, x.has(1, 31));
            x.play(1);
            Due.is("played", false, x.has(1, 1));
            x.back();
            Due.is("taken back", true, x.has(1, 1));
        });
        Due.sentence("has: if there is no such PLAYER, or CARD", () -> {
            PepperboxTable x = new PepperboxTable();
            for (int bad : Edges.outside(0, 3)) {
                Due.noPlace("the PLAYER " + bad, x, () -> x.has(bad, 0) ? 1 : 0);
            }
            for (int bad : Edges.outside(0, 31)) {
                Due.noPlace("the CARD " + bad, x, () -> x.has(0, bad) ? 1 : 0);
            }
            Due.is("the last of both", false, x.has(3, 31));
            Due.is("the first of both", false, x.has(0, 0));
        });
    }

    // ---- promise 7

    private static void hand() {
        Due.sentence("a SUIT; 4 for all together", () -> {
            PepperboxTable x = new PepperboxTable();
            Tables.gives(x, new int[] {7, 8, 15, 31});
            int[] due = {1, 2, 0, 1, 4};
            for (int suit = 0; suit <= 4; suit++) {
                Due.is("how many of " + suit, due[suit], x.hand(0, suit, 0));
            }
            Due.is("the greatest of all", 31, x.hand(0, 4, 1));
            Due.is("the smallest of all", 7, x.hand(0, 4, 2));
        });
        Due.sentence("0 how many CARDS of it are in the HAND", () -> {
            PepperboxTable x = new PepperboxTable();
            Due.is("none", 0, x.hand(1, 3, 0));
            for (int card = 24; card < 32; card++) {
                x.give(1, card);
            }
            Due.is("a whole SUIT", 8, x.hand(1, 3, 0));
            Due.is("all together", 8, x.hand(1, 4, 0));
        });
        Due.sentence("1 the greatest one (NONE without any)", () -> {
            PepperboxTable x = new PepperboxTable();
            x.give(1, 0);
            Due.is("the CARD 0 is one", 0, x.hand(1, 0, 1));
            Due.is("none of the SUIT", -1, x.hand(1, 1, 1));
            Due.is("none at all", -1, x.hand(0, 4, 1));
            x.give(1, 5);
            x.give(1, 3);
            Due.is("the greatest", 5, x.hand(1, 0, 1));
        });
        Due.sentence("2 the smallest one (NONE)", () -> {
            PepperboxTable x = new PepperboxTable();
            x.give(1, 31);
            Due.is("the CARD 31 is one", 31, x.hand(1, 3, 2));
            Due.is("none of the SUIT", -1, x.hand(1, 2, 2));
            Due.is("none at all", -1, x.hand(0, 4, 2));
            x.give(1, 25);
            x.give(1, 27);
            Due.is("the smallest", 25, x.hand(1, 3, 2));
        });
        Due.sentence("hand: if there is no such PLAYER", () -> {
            PepperboxTable x = new PepperboxTable();
            for (int bad : Edges.outside(0, 3)) {
                Due.noPlace("the PLAYER " + bad, x, () -> x.hand(bad, 4, 0));
            }
            Due.is("the last", 0, x.hand(3, 4, 0));
        });
        Due.sentence("if suit is not 0 to 4", () -> {
            PepperboxTable x = new PepperboxTable();
            for (int bad : Edges.outside(0, 4)) {
                Due.noArgument("suit " + bad, x, () -> x.hand(0, bad, 0));
            }
            Due.is("the least", 0, x.hand(0, 0, 0));
            Due.is("the greatest", 0, x.hand(0, 4, 0));
        });
        Due.sentence("hand: or what is not 0 to 2", () -> {
            PepperboxTable x = new PepperboxTable();
            for (int bad : Edges.outside(0, 2)) {
                Due.noArgument("what " + bad, x, () -> x.hand(0, 0, bad));
            }
            Due.is("the least", 0, x.hand(0, 0, 0));
            Due.is("the greatest", -1, x.hand(0, 0, 2));
        });
    }
}
