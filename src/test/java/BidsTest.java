/** Promises 8 to 11: bid, canBid, bidAt, contract. */
public final class BidsTest {
    private static final int MIN = Integer.MIN_VALUE;
    private static final int MAX = Integer.MAX_VALUE;

    public static void main(String[] args) {
        turns();
        passedOut();
        threePassesAheadOfALevel();
        doubles();
        doubleIsGoneWithALevel();
        refuses();
        everyPairOfLevels();
        longestBidding();
        bidAt();
        contract();
        declarer();
        Due.end("BidsTest");
    }

    private static void turns() {
        for (int dealer = 0; dealer < 4; dealer++) {
            PepperboxTable x = Tables.bidding(dealer, 2);
            Due.is("8 first turn", dealer, x.now(2));
            Due.is("8 second turn", (dealer + 1) % 4, x.bid(3));
            Due.is("8 third turn", (dealer + 2) % 4, x.bid(0));
            Due.is("8 still", 1, x.now(0));
            Due.is("8 fourth turn", (dealer + 3) % 4, x.bid(0));
            Due.is("8 the left of the DECLARER leads", (dealer + 1) % 4, x.bid(0));
            Due.is("8 CARDS are played", 2, x.now(0));
            Due.is("8 turn", (dealer + 1) % 4, x.now(2));
        }
    }

    private static void passedOut() {
        PepperboxTable x = Tables.bidding(1, 2);
        Due.is("8 pass", 2, x.bid(0));
        Due.is("8 pass", 3, x.bid(0));
        Due.is("8 pass", 0, x.bid(0));
        Due.is("8 not over", 1, x.now(0));
        Due.is("8 pass", -1, x.bid(0));
        Due.is("8 over", 3, x.now(0));
        Due.is("8 no turn", -1, x.now(2));
        Due.is("11 no CONTRACT", -1, x.contract(0));
        Due.is("16 none with a CONTRACT", 0, x.now(7));
        Due.is("8 the HANDS stay", 2, x.hand(0, 4, 0));
    }

    private static void threePassesAheadOfALevel() {
        PepperboxTable x = Tables.bidding(0, 2);
        Tables.bids(x, 0, 0, 0);
        Due.is("8 a LEVEL of the fourth", 0, x.bid(7));
        Tables.bids(x, 0, 0);
        Due.is("8 three behind it are needed", 1, x.now(0));
        Due.is("11 none yet", -1, x.contract(0));
        Due.is("8 the left of 3 leads", 0, x.bid(0));
        Due.is("11 declarer", 3, x.contract(2));
        Due.is("11 level", 2, x.contract(0));
        Due.is("11 trump", 1, x.contract(1));
        Due.is("11 times", 1, x.contract(3));
    }

    private static void doubles() {
        PepperboxTable x = Tables.bidding(0, 2);
        Due.is("9 no LEVEL to double", false, x.canBid(41));
        Due.is("9 nothing to redouble", false, x.canBid(42));
        Due.noState("8 no LEVEL to double", x, () -> x.bid(41));
        Due.noState("8 nothing to redouble", x, () -> x.bid(42));
        x.bid(10);
        Due.is("9 the other SIDE's", true, x.canBid(41));
        Due.is("9 no DOUBLE since", false, x.canBid(42));
        x.bid(0);
        Due.is("9 the own SIDE's", false, x.canBid(41));
        Due.noState("8 the own SIDE's", x, () -> x.bid(41));
        x.bid(0);
        Due.is("9 by the other PLAYER of the SIDE", true, x.canBid(41));
        x.bid(41);
        Due.is("9 doubled", false, x.canBid(41));
        Due.is("9 redouble", true, x.canBid(42));
        Due.is("9 the same LEVEL", false, x.canBid(10));
        Due.is("9 a greater one", true, x.canBid(11));
        x.bid(0);
        Due.is("9 redouble by the other SIDE", false, x.canBid(42));
        Due.is("9 DOUBLE twice", false, x.canBid(41));
        Due.noState("8 DOUBLE twice", x, () -> x.bid(41));
        x.bid(0);
        Due.is("9 redouble by the partner", true, x.canBid(42));
        x.bid(42);
        Due.is("9 redoubled", false, x.canBid(42));
        Due.is("9 redoubled", false, x.canBid(41));
        Tables.bids(x, 0, 0);
        Due.is("9 redoubled", false, x.canBid(42));
        Due.is("8 then", 1, x.bid(0));
        Due.is("11 times", 4, x.contract(3));
        Due.is("11 declarer", 0, x.contract(2));
    }

    private static void doubleIsGoneWithALevel() {
        PepperboxTable x = Tables.bidding(0, 2);
        Tables.bids(x, 1, 41, 42, 2);
        Due.is("9 DOUBLE again", true, x.canBid(41));
        Due.is("9 no REDOUBLE", false, x.canBid(42));
        Tables.bids(x, 0, 0, 0);
        Due.is("11 times", 1, x.contract(3));
        PepperboxTable y = Tables.bidding(0, 2);
        Tables.bids(y, 1, 41, 0, 0, 0);
        Due.is("11 doubled", 2, y.contract(3));
        PepperboxTable z = Tables.bidding(0, 2);
        Tables.bids(z, 1, 41, 0, 2, 41, 0, 0);
        Due.is("8 the DOUBLE begins the count of PASSES again", 1, z.now(0));
        Due.is("8 then it is played", 0, z.bid(0));
        Due.is("11 declarer", 3, z.contract(2));
    }

    private static void refuses() {
        PepperboxTable x = Tables.bidding(0, 2);
        PepperboxTable y = new PepperboxTable();
        PepperboxTable z = Tables.over();
        for (int bad : new int[] {-1, 43, MIN, MAX}) {
            Due.noArgument("8 bid", x, () -> x.bid(bad));
            Due.noArgument("8 the argument first", y, () -> y.bid(bad));
            Due.noArgument("8 the argument first", z, () -> z.bid(bad));
            Due.noArgument("9 canBid", x, () -> x.canBid(bad) ? 1 : 0);
            Due.noArgument("9 canBid", y, () -> y.canBid(bad) ? 1 : 0);
        }
        PepperboxTable p = Tables.playing(0, 0, 1, 2, 1);
        for (int bid = 0; bid <= 42; bid++) {
            int b = bid;
            Due.noState("8 in the STATE 0", y, () -> y.bid(b));
            Due.noState("8 in the STATE 2", p, () -> p.bid(b));
            Due.noState("8 in the STATE 3", z, () -> z.bid(b));
            Due.is("9 in the STATE 0", false, y.canBid(b));
            Due.is("9 in the STATE 2", false, p.canBid(b));
            Due.is("9 in the STATE 3", false, z.canBid(b));
        }
    }

    private static void everyPairOfLevels() {
        for (int first = 1; first <= 40; first++) {
            PepperboxTable x = Tables.bidding(2, 1);
            x.bid(first);
            for (int second = 1; second <= 40; second++) {
                Due.is("9 " + second + " behind " + first, second > first, x.canBid(second));
            }
            Due.is("9 PASS", true, x.canBid(0));
            int same = first;
            Due.noState("8 not above", x, () -> x.bid(same));
            Tables.bids(x, 0, 0, 0);
            Due.is("11 level of " + first, (first - 1) / 5 + 1, x.contract(0));
            Due.is("11 trump of " + first, (first - 1) % 5, x.contract(1));
        }
    }

    private static void longestBidding() {
        PepperboxTable x = Tables.bidding(0, 1);
        Tables.bids(x, 0, 0, 0);
        for (int level = 1; level <= 40; level++) {
            Tables.bids(x, level, 0, 0, 41, 0, 0, 42, 0, 0);
        }
        Due.is("8 still", 1, x.now(0));
        x.bid(0);
        Due.is("8 played", 2, x.now(0));
        Due.is("16 bids", 364, x.now(3));
        Due.is("10 the last", 0, x.bidAt(363));
        Due.is("10 the last that is not PASS", 42, x.bidAt(360));
        Due.is("11 level", 8, x.contract(0));
        Due.is("11 times", 4, x.contract(3));
    }

    private static void bidAt() {
        PepperboxTable x = Tables.bidding(3, 2);
        Due.noPlace("10 none yet", x, () -> x.bidAt(0));
        int[] bids = {0, 5, 41, 42, 40, 0, 0, 0};
        for (int k = 0; k < bids.length; k++) {
            x.bid(bids[k]);
            int next = k + 1;
            Due.noPlace("10 not there yet", x, () -> x.bidAt(next));
        }
        for (int k = 0; k < bids.length; k++) {
            Due.is("10 bidAt(" + k + ")", bids[k], x.bidAt(k));
        }
        for (int bad : new int[] {-1, 8, 364, MIN, MAX}) {
            Due.noPlace("10 bidAt", x, () -> x.bidAt(bad));
        }
    }

    private static void contract() {
        PepperboxTable x = Tables.bidding(0, 1);
        for (int bad : new int[] {-1, 4, MIN, MAX}) {
            Due.noArgument("11 contract", x, () -> x.contract(bad));
        }
        Tables.bids(x, 0, 5, 0, 0);
        for (int what = 0; what <= 3; what++) {
            Due.is("11 none while BIDS are made", -1, x.contract(what));
        }
        x.bid(0);
        for (int bad : new int[] {-1, 4, MIN, MAX}) {
            Due.noArgument("11 contract", x, () -> x.contract(bad));
        }
        Due.is("11 level", 1, x.contract(0));
        Due.is("11 trump", 4, x.contract(1));
        Tables.plays(x, 2, 3, 0, 1);
        Due.is("11 over", 3, x.now(0));
        Due.is("11 stays as it is over", 1, x.contract(2));
        x.begin(0);
        Due.is("11 gone", -1, x.contract(2));
    }

    private static void declarer() {
        // The partner was the first of both to bid that TRUMP; the other SIDE bid it even before.
        PepperboxTable x = Tables.bidding(1, 2);
        Tables.bids(x, 2, 7, 0, 8, 0, 12, 0, 0, 0);
        Due.is("11 trump", 1, x.contract(1));
        Due.is("11 the first one of the SIDE", 2, x.contract(2));
        Due.is("8 left of it leads", 3, x.now(2));
        PepperboxTable y = Tables.bidding(0, 2);
        Tables.bids(y, 3, 0, 8, 0, 0);
        Due.is("8 the partner bid it again", 1, y.bid(0));
        Due.is("11 who bid it first", 0, y.contract(2));
        PepperboxTable z = Tables.bidding(0, 2);
        Tables.bids(z, 3, 0, 9, 0, 0, 0);
        Due.is("11 another TRUMP of the partner", 2, z.contract(2));
        // 41 and 42 are no LEVELS with the TRUMPS 0 and 1.
        PepperboxTable doubled = Tables.bidding(0, 2);
        Tables.bids(doubled, 2, 41, 0, 6, 0, 0, 0);
        Due.is("11 a DOUBLE has no TRUMP", 3, doubled.contract(2));
        PepperboxTable redoubled = Tables.bidding(0, 2);
        Tables.bids(redoubled, 5, 41, 42, 0, 7, 0, 0, 0);
        Due.is("11 a REDOUBLE has no TRUMP", 0, redoubled.contract(2));
    }
}
