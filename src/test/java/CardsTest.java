/** Promises 1 to 7: a new object, begin, deal, give, open, has, hand. */
public final class CardsTest {
    private static final int MIN = Integer.MIN_VALUE;
    private static final int MAX = Integer.MAX_VALUE;

    public static void main(String[] args) {
        newObject();
        begin();
        beginLeavesNothingButScores();
        beginReturnsEachState();
        deal();
        dealGoesRound();
        dealRefuses();
        give();
        giveRefuses();
        open();
        has();
        hand();
        Due.end("CardsTest");
    }

    private static void newObject() {
        PepperboxTable x = new PepperboxTable();
        int[] due = {0, 0, -1, 0, 0, 0, -1, 0};
        for (int what = 0; what <= 7; what++) {
            Due.is("1 now(" + what + ")", due[what], x.now(what));
        }
        for (int player = 0; player < 4; player++) {
            Due.is("1 hand", 0, x.hand(player, 4, 0));
            Due.is("1 hand", -1, x.hand(player, 4, 1));
            Due.is("1 hand", -1, x.hand(player, 4, 2));
        }
        for (int side = 0; side < 2; side++) {
            Due.is("1 tricks", 0, x.side(side, 0));
            Due.is("1 score", 0, x.side(side, 1));
            Due.is("1 revokes", 0, x.side(side, 2));
        }
        Due.is("1 contract", -1, x.contract(0));
        Due.isDouble("1 meanScore", 0.0, x.meanScore());
        Due.is("1 best", -1, x.best());
    }

    private static void begin() {
        PepperboxTable x = new PepperboxTable();
        Due.is("2 state", 0, x.begin(3));
        Due.is("2 dealer", 3, x.now(1));
        Due.noPlace("2 begin(-1)", x, () -> x.begin(-1));
        Due.noPlace("2 begin(4)", x, () -> x.begin(4));
        Due.noPlace("2 begin(MIN)", x, () -> x.begin(MIN));
        Due.noPlace("2 begin(MAX)", x, () -> x.begin(MAX));
        Due.is("2 dealer stays", 3, x.now(1));
    }

    private static void beginLeavesNothingButScores() {
        PepperboxTable x = Tables.playing(0, 0, 1, 2, 1);
        Tables.playRightly(x, 8);
        int score0 = x.side(0, 1);
        int score1 = x.side(1, 1);
        Due.is("2 somebody scored", true, score0 + score1 > 0);
        Due.is("2 it was over", 3, x.begin(2));
        int[] due = {0, 2, -1, 0, 0, 0, -1, 1};
        for (int what = 0; what <= 7; what++) {
            Due.is("2 now(" + what + ")", due[what], x.now(what));
        }
        Due.is("2 no contract", -1, x.contract(3));
        Due.is("2 no tricks", 0, x.side(0, 0) + x.side(1, 0));
        Due.is("2 score 0 stays", score0, x.side(0, 1));
        Due.is("2 score 1 stays", score1, x.side(1, 1));
        Due.noPlace("2 no bids", x, () -> x.bidAt(0));
        Due.noPlace("2 no tricks", x, () -> x.trick(0, 0));
        for (int player = 0; player < 4; player++) {
            Due.is("2 no cards", 0, x.hand(player, 4, 0));
        }
        Due.is("2 cards can be dealt again", 0, x.deal(0, 1, 1));
        x.open();
        Due.is("2 the dealer bids first", 2, x.now(2));
        Due.is("2 no LEVEL is left behind", true, x.canBid(1));
    }

    private static void beginReturnsEachState() {
        PepperboxTable x = new PepperboxTable();
        x.deal(0, 1, 2);
        Due.is("2 in the STATE 0", 0, x.begin(1));
        Due.is("2 dealt cards are gone", 0, x.hand(0, 4, 0));
        x.deal(0, 1, 2);
        x.open();
        Due.is("2 in the STATE 1", 1, x.begin(1));
        PepperboxTable y = Tables.playing(0, 0, 1, 2, 1);
        y.play(1);
        Due.is("2 in the STATE 2", 2, y.begin(1));
        Due.is("2 a broken deal is not over", 0, y.now(7));
        Due.is("2 it scores nothing", 0, y.side(0, 1) + y.side(1, 1));
        PepperboxTable z = Tables.revoked();
        Due.is("2 a REVOKE", 1, z.side(1, 2));
        z.begin(0);
        Due.is("2 no REVOKE", 0, z.side(1, 2));
        z.deal(0, 1, 2);
        z.open();
        Tables.bids(z, 5, 0, 0, 0);
        Tables.playRightly(z, 8);
        Due.is("2 none comes back", 0, z.side(0, 2) + z.side(1, 2));
    }

    private static void deal() {
        PepperboxTable x = new PepperboxTable();
        Due.is("3 smallest of 0", 3, x.deal(3, 5, 3));
        // 3 8 13 18 | 23 28 1 6 | 11 16 21 26
        int[][] due = {{3, 23, 11}, {8, 28, 16}, {13, 1, 21}, {18, 6, 26}};
        for (int player = 0; player < 4; player++) {
            Due.is("3 count", 3, x.hand(player, 4, 0));
            for (int card : due[player]) {
                Due.is("3 has " + card, true, x.has(player, card));
            }
        }
        Due.is("3 still in the STATE 0", 0, x.now(0));
    }

    private static void dealGoesRound() {
        for (int step = 1; step <= 31; step += 2) {
            PepperboxTable x = new PepperboxTable();
            Due.is("3 the smallest of the player 0", smallestDealt(31, step, 8), x.deal(31, step, 8));
            for (int k = 0; k < 32; k++) {
                Due.is("3 card " + k, true, x.has(k % 4, (31 + k * step) % 32));
            }
            Due.is("3 open", 32, x.open());
        }
        PepperboxTable y = new PepperboxTable();
        Due.is("3 none", -1, y.deal(0, 1, 0));
        Due.is("3 dealt again", 2, y.deal(30, 1, 2));
    }

    private static int smallestDealt(int first, int step, int many) {
        int least = 32;
        for (int k = 0; k < 4 * many; k += 4) {
            least = Math.min(least, (first + k * step) % 32);
        }
        return least;
    }

    private static void dealRefuses() {
        PepperboxTable x = new PepperboxTable();
        int[][] bad = {
            {-1, 1, 1}, {32, 1, 1}, {MIN, 1, 1}, {MAX, 1, 1},
            {0, 0, 1}, {0, 2, 1}, {0, 30, 1}, {0, 32, 1}, {0, 33, 1}, {0, -1, 1}, {0, MIN, 1}, {0, MAX, 1},
            {0, 1, -1}, {0, 1, 9}, {0, 1, MIN}, {0, 1, MAX},
        };
        for (int[] b : bad) {
            Due.noArgument("3 deal", x, () -> x.deal(b[0], b[1], b[2]));
        }
        x.give(3, 5);
        Due.noState("3 a HAND has a CARD", x, () -> x.deal(0, 1, 1));
        Due.noState("3 even for none", x, () -> x.deal(0, 1, 0));
        for (int[] b : bad) {
            Due.noArgument("3 the argument first", x, () -> x.deal(b[0], b[1], b[2]));
        }
        PepperboxTable y = Tables.bidding(0, 2);
        Due.noState("3 in the STATE 1", y, () -> y.deal(0, 1, 1));
        PepperboxTable z = Tables.over();
        Due.noState("3 in the STATE 3", z, () -> z.deal(0, 1, 1));
    }

    private static void give() {
        PepperboxTable x = new PepperboxTable();
        for (int k = 0; k < 8; k++) {
            Due.is("4 give", k + 1, x.give(2, 31 - k));
        }
        Due.is("4 another player", 1, x.give(3, 0));
        Due.is("4 has", true, x.has(2, 24));
        Due.is("4 has not", false, x.has(3, 24));
        Due.is("4 has", true, x.has(3, 0));
        for (int player = 0; player < 4; player++) {
            PepperboxTable y = new PepperboxTable();
            y.give(player, 9);
            for (int other = 0; other < 4; other++) {
                int o = other;
                Due.noState("4 the CARD of " + player + " to " + other, y, () -> y.give(o, 9));
            }
        }
        Due.noState("4 the HAND has 8", x, () -> x.give(2, 1));
        Due.noState("4 the CARD is in that HAND", x, () -> x.give(3, 0));
        Due.noState("4 the CARD is in another HAND", x, () -> x.give(0, 31));
    }

    private static void giveRefuses() {
        PepperboxTable x = new PepperboxTable();
        int[][] bad = {{-1, 0}, {4, 0}, {MIN, 0}, {MAX, 0}, {0, -1}, {0, 32}, {0, MIN}, {0, MAX}};
        for (int[] b : bad) {
            Due.noPlace("4 give", x, () -> x.give(b[0], b[1]));
        }
        PepperboxTable y = Tables.bidding(0, 2);
        Due.noState("4 in the STATE 1", y, () -> y.give(0, 31));
        for (int[] b : bad) {
            Due.noPlace("4 the place first", y, () -> y.give(b[0], b[1]));
        }
        PepperboxTable z = Tables.playing(0, 0, 1, 2, 1);
        z.play(1);
        Due.noState("4 in the STATE 2", z, () -> z.give(0, 31));
        PepperboxTable over = Tables.over();
        Due.noState("4 in the STATE 3", over, () -> over.give(0, 31));
    }

    private static void open() {
        PepperboxTable x = new PepperboxTable();
        Due.noState("5 no CARDS", x, () -> x.open());
        for (int player = 0; player < 3; player++) {
            x.give(player, player);
            Due.noState("5 a HAND has none", x, () -> x.open());
        }
        x.give(3, 3);
        x.give(3, 4);
        Due.noState("5 one has more", x, () -> x.open());
        x.give(0, 5);
        x.give(1, 6);
        Due.noState("5 one has less", x, () -> x.open());
        x.give(2, 7);
        Due.is("5 open", 8, x.open());
        Due.is("5 state", 1, x.now(0));
        Due.is("5 turn", 0, x.now(2));
        Due.noState("5 in the STATE 1", x, () -> x.open());
        for (int player = 0; player < 4; player++) {
            PepperboxTable odd = new PepperboxTable();
            odd.deal(0, 1, 2);
            odd.give(player, 31);
            Due.noState("5 " + player + " has one more", odd, () -> odd.open());
        }
        PepperboxTable y = Tables.playing(0, 0, 1, 2, 1);
        Due.noState("5 in the STATE 2", y, () -> y.open());
        PepperboxTable z = Tables.over();
        Due.noState("5 in the STATE 3", z, () -> z.open());
    }

    private static void has() {
        PepperboxTable x = Tables.playing(0, 0, 1, 2, 1);
        Due.is("6 has", true, x.has(1, 1));
        Due.is("6 of another", false, x.has(0, 1));
        Due.is("6 of none", false, x.has(1, 31));
        x.play(1);
        Due.is("6 played", false, x.has(1, 1));
        x.back();
        Due.is("6 back", true, x.has(1, 1));
        int[][] bad = {{-1, 0}, {4, 0}, {MIN, 0}, {MAX, 0}, {0, -1}, {0, 32}, {0, MIN}, {0, MAX}};
        for (int[] b : bad) {
            Due.noPlace("6 has", x, () -> x.has(b[0], b[1]) ? 1 : 0);
        }
        PepperboxTable y = new PepperboxTable();
        y.give(0, 31);
        Due.is("6 the last CARD", true, y.has(0, 31));
        Due.is("6 the first CARD", false, y.has(0, 0));
    }

    private static void hand() {
        PepperboxTable x = new PepperboxTable();
        int[] cards = {0, 7, 5, 16, 31, 24, 27};
        for (int card : cards) {
            x.give(1, card);
        }
        int[][] due = {{3, 7, 0}, {0, -1, -1}, {1, 16, 16}, {3, 31, 24}, {7, 31, 0}};
        for (int suit = 0; suit <= 4; suit++) {
            for (int what = 0; what <= 2; what++) {
                Due.is("7 hand(1, " + suit + ", " + what + ")", due[suit][what], x.hand(1, suit, what));
                Due.is("7 hand(2)", what == 0 ? 0 : -1, x.hand(2, suit, what));
            }
        }
        x.give(3, 1);
        Due.is("7 one alone is the greatest", 1, x.hand(3, 0, 1));
        Due.is("7 one alone is the smallest", 1, x.hand(3, 4, 2));
        PepperboxTable zero = new PepperboxTable();
        zero.give(0, 0);
        Due.is("7 the CARD 0 alone", 0, zero.hand(0, 4, 1));
        Due.is("7 the CARD 0 alone", 0, zero.hand(0, 0, 2));
        for (int bad : new int[] {-1, 4, MIN, MAX}) {
            Due.noPlace("7 player", x, () -> x.hand(bad, 0, 0));
            Due.noPlace("7 the place first", x, () -> x.hand(bad, 5, 3));
        }
        for (int bad : new int[] {-1, 5, MIN, MAX}) {
            Due.noArgument("7 suit", x, () -> x.hand(0, bad, 0));
        }
        for (int bad : new int[] {-1, 3, MIN, MAX}) {
            Due.noArgument("7 what", x, () -> x.hand(0, 4, bad));
        }
    }
}
