/** The boundary sentences of "2. Bids" and of the promises 8 to 11, each with a test of its own. */
public final class BidsEdgesTest {
    private static final int DOUBLE = 41;
    private static final int REDOUBLE = 42;

    public static void main(String[] args) {
        numbers();
        levels();
        doubles();
        redoubles();
        ends();
        declarer();
        bid();
        canBid();
        bidAt();
        contract();
        Due.end("BidsEdgesTest");
    }

    private static PepperboxTable bidden(int... bids) {
        PepperboxTable x = Tables.bidding(0, 2);
        Tables.bids(x, bids);
        return x;
    }

    // ---- 2. Bids

    private static void numbers() {
        Due.sentence("1 to 40 a LEVEL, 1 to 8, with a TRUMP, 0 to 3 for SUITS, or 4 for none: "
                + "5 * (LEVEL - 1) + TRUMP + 1", () -> {
            for (int level = 1; level <= 8; level++) {
                for (int trump = 0; trump <= 4; trump++) {
                    PepperboxTable x = bidden(5 * (level - 1) + trump + 1, 0, 0, 0);
                    Due.is("the LEVEL", level, x.contract(0));
                    Due.is("the TRUMP", trump, x.contract(1));
                }
            }
        });
        Due.sentence("0 PASS", () -> {
            PepperboxTable x = bidden(1, 0, 0);
            Due.is("the third one", 1, x.bid(0));
            Due.is("ends it", 2, x.now(0));
        });
        Due.sentence("41 DOUBLE", () -> {
            Due.is("40 is a LEVEL", 8, bidden(40, 0, 0, 0).contract(0));
            Due.is("41 is none", 1, bidden(1, 41, 0, 0, 0).contract(0));
            Due.is("41 is TIMES 2", 2, bidden(1, 41, 0, 0, 0).contract(3));
        });
        Due.sentence("42 REDOUBLE", () -> {
            Due.is("42 is no LEVEL", 1, bidden(1, 41, 42, 0, 0, 0).contract(0));
            Due.is("42 is TIMES 4", 4, bidden(1, 41, 42, 0, 0, 0).contract(3));
        });
        Due.sentence("The DEALER bids first, then each time the PLAYER on the left of who bid", () -> {
            for (int dealer = 0; dealer < 4; dealer++) {
                PepperboxTable x = Tables.bidding(dealer, 1);
                Due.is("the first", dealer, x.now(2));
                int[] bids = {0, 1, DOUBLE, REDOUBLE, 0, 2};
                for (int k = 0; k < bids.length; k++) {
                    Due.is("behind " + bids[k], (dealer + k + 1) % 4, x.bid(bids[k]));
                }
            }
        });
        Due.sentence("PASS can always be bid", () -> {
            int[] bids = {0, 0, 0, 40, 0, 0, DOUBLE, 0, 0, REDOUBLE, 0, 0};
            PepperboxTable x = bidden();
            for (int bid : bids) {
                Due.is("ahead of " + bid, true, x.canBid(0));
                x.bid(bid);
            }
            Due.is("at last", true, x.canBid(0));
            Due.is("it is bid", 0, x.bid(0));
        });
    }

    private static void levels() {
        Due.sentence("a LEVEL, if its BID is above that of the last LEVEL that was bid", () -> {
            PepperboxTable x = bidden(7);
            Due.is("one above", true, x.canBid(8));
            Due.is("the same", false, x.canBid(7));
            Due.is("one below", false, x.canBid(6));
            PepperboxTable y = bidden(7, 9);
            Due.is("above the first, not the last", false, y.canBid(8));
            Due.is("above the last", true, y.canBid(10));
            PepperboxTable z = bidden(40);
            for (int level = 1; level <= 40; level++) {
                Due.is("none is above 40", false, z.canBid(level));
            }
        });
        Due.sentence("that of the last LEVEL that was bid", () -> {
            // A DOUBLE and a REDOUBLE are no LEVELS.
            PepperboxTable x = bidden(7, 0, 0, DOUBLE);
            Due.is("the same behind DOUBLE", false, x.canBid(7));
            Due.is("one above behind DOUBLE", true, x.canBid(8));
            x.bid(REDOUBLE);
            Due.is("the same behind REDOUBLE", false, x.canBid(7));
            Due.is("one above behind REDOUBLE", true, x.canBid(8));
        });
        Due.sentence("(or none was)", () -> {
            for (int level = 1; level <= 40; level++) {
                Due.is("at first", true, bidden().canBid(level));
            }
            Due.is("behind three times PASS", true, bidden(0, 0, 0).canBid(1));
        });
    }

    private static void doubles() {
        Due.sentence("DOUBLE, if a LEVEL was bid", () -> {
            Due.is("at first", false, bidden().canBid(DOUBLE));
            Due.is("behind PASS", false, bidden(0).canBid(DOUBLE));
            Due.is("behind two of them", false, bidden(0, 0).canBid(DOUBLE));
            Due.is("behind three of them", false, bidden(0, 0, 0).canBid(DOUBLE));
            Due.is("behind a LEVEL", true, bidden(1).canBid(DOUBLE));
        });
        Due.sentence("the last one by the other SIDE", () -> {
            Due.is("by who sits on the right", true, bidden(1).canBid(DOUBLE));
            Due.is("by the partner", false, bidden(1, 0).canBid(DOUBLE));
            Due.is("by who sits on the left", true, bidden(1, 0, 0).canBid(DOUBLE));
            Due.is("the partner's above the other SIDE's", false, bidden(1, 2, 0).canBid(DOUBLE));
            Due.is("the other SIDE's above the own", true, bidden(1, 2).canBid(DOUBLE));
        });
        Due.sentence("and no DOUBLE since", () -> {
            Due.is("the partner's DOUBLE", false, bidden(1, DOUBLE, 0).canBid(DOUBLE));
            Due.is("with a REDOUBLE behind it", false, bidden(1, DOUBLE, REDOUBLE).canBid(DOUBLE));
            Due.is("a LEVEL behind it", true, bidden(1, DOUBLE, 2).canBid(DOUBLE));
            Due.is("a LEVEL behind both", true, bidden(1, DOUBLE, REDOUBLE, 2).canBid(DOUBLE));
        });
    }

    private static void redoubles() {
        Due.sentence("REDOUBLE, if the last LEVEL was bid by the own SIDE", () -> {
            Due.is("none was", false, bidden(0).canBid(REDOUBLE));
            Due.is("the own", true, bidden(1, 0, 0, DOUBLE).canBid(REDOUBLE));
            Due.is("the partner's", true, bidden(1, DOUBLE).canBid(REDOUBLE));
            Due.is("the other SIDE's, left of the DOUBLE", false, bidden(1, 0, 0, DOUBLE, 0).canBid(REDOUBLE));
            Due.is("the other SIDE's", false, bidden(1, DOUBLE, 0).canBid(REDOUBLE));
        });
        Due.sentence("there was a DOUBLE since", () -> {
            Due.is("none", false, bidden(1, 0).canBid(REDOUBLE));
            Due.is("one ahead of the LEVEL", false, bidden(1, DOUBLE, 2, 0).canBid(REDOUBLE));
            Due.is("one with PASSES behind it", true, bidden(1, DOUBLE, 0, 0).canBid(REDOUBLE));
        });
        Due.sentence("and no REDOUBLE since", () -> {
            Due.is("the partner's", false, bidden(1, DOUBLE, REDOUBLE, 0).canBid(REDOUBLE));
            Due.is("the partner's", false, bidden(1, DOUBLE, REDOUBLE, 0, 0).canBid(REDOUBLE));
            Due.is("one ahead of the LEVEL", true, bidden(1, DOUBLE, REDOUBLE, 2, DOUBLE).canBid(REDOUBLE));
        });
    }

    private static void ends() {
        Due.sentence("With four times PASS at the beginning it is over, without a CONTRACT", () -> {
            PepperboxTable x = bidden(0, 0, 0);
            Due.is("three are too few", 1, x.now(0));
            Due.is("the fourth", -1, x.bid(0));
            Due.is("it is over", 3, x.now(0));
            Due.is("no CONTRACT", -1, x.contract(0));
        });
        Due.sentence("With three times PASS", () -> {
            PepperboxTable x = bidden(1, 0, 0);
            Due.is("two are too few", 1, x.now(0));
            Due.is("no CONTRACT yet", -1, x.contract(0));
            x.bid(0);
            Due.is("three are enough", 2, x.now(0));
            Due.is("a CONTRACT", 1, x.contract(0));
        });
        Due.sentence("one behind the other", () -> {
            Due.is("with a LEVEL between", 1, bidden(1, 0, 0, 2, 0).now(0));
            Due.is("with a LEVEL between, two", 1, bidden(1, 0, 0, 2, 0, 0).now(0));
            Due.is("with a LEVEL between, three", 2, bidden(1, 0, 0, 2, 0, 0, 0).now(0));
            Due.is("with a DOUBLE between", 1, bidden(1, 0, 0, DOUBLE, 0, 0).now(0));
            Due.is("with a REDOUBLE between", 1, bidden(1, DOUBLE, 0, 0, REDOUBLE, 0, 0).now(0));
        });
        Due.sentence("and a LEVEL ahead of them", () -> {
            PepperboxTable x = bidden(0, 0, 0, 1);
            Due.is("the PASSES are ahead of it", 1, x.now(0));
            Tables.bids(x, 0, 0);
            Due.is("two behind it", 1, x.now(0));
            x.bid(0);
            Due.is("three behind it", 2, x.now(0));
            Due.is("a LEVEL, DOUBLE and three", 2, bidden(1, DOUBLE, 0, 0, 0).now(0));
        });
        Due.sentence("the last LEVEL with its TRUMP", () -> {
            PepperboxTable x = bidden(40 - 9, 40, 0, 0, 0);
            Due.is("the LEVEL", 8, x.contract(0));
            Due.is("the TRUMP", 4, x.contract(1));
        });
        Due.sentence("TIMES: 1, or 2 with a DOUBLE since, or 4 with a REDOUBLE since", () -> {
            Due.is("neither", 1, bidden(1, 0, 0, 0).contract(3));
            Due.is("DOUBLE", 2, bidden(1, DOUBLE, 0, 0, 0).contract(3));
            Due.is("REDOUBLE", 4, bidden(1, DOUBLE, REDOUBLE, 0, 0, 0).contract(3));
            Due.is("DOUBLE ahead of the LEVEL", 1, bidden(1, DOUBLE, 2, 0, 0, 0).contract(3));
            Due.is("REDOUBLE ahead of the LEVEL", 1, bidden(1, DOUBLE, REDOUBLE, 2, 0, 0, 0).contract(3));
            Due.is("and DOUBLE again", 2, bidden(1, DOUBLE, REDOUBLE, 2, DOUBLE, 0, 0, 0).contract(3));
        });
    }

    private static void declarer() {
        Due.sentence("The DECLARER is, of the SIDE that bid it", () -> {
            Due.is("the other SIDE bid that TRUMP first", 1, bidden(1, 6, 0, 0, 0).contract(2));
            Due.is("the other SIDE bid that TRUMP between", 0, bidden(1, 6, 11, 0, 0, 0).contract(2));
        });
        Due.sentence("the PLAYER who was the first one of both to bid that TRUMP", () -> {
            Due.is("the own first", 0, bidden(1, 0, 6, 0, 0, 0).contract(2));
            Due.is("another TRUMP was first", 2, bidden(2, 0, 6, 0, 0, 0).contract(2));
            Due.is("alone", 3, bidden(0, 0, 0, 1, 0, 0, 0).contract(2));
            Due.is("a DOUBLE is none with the TRUMP 0", 3, bidden(2, DOUBLE, 0, 6, 0, 0, 0).contract(2));
            Due.is("a REDOUBLE is none with the TRUMP 1", 0, bidden(5, DOUBLE, REDOUBLE, 0, 7, 0, 0, 0).contract(2));
            Due.is("the partner in the second round", 2, bidden(1, 2, 7, 0, 11, 0, 12, 0, 0, 0).contract(2));
        });
        Due.sentence("(at any LEVEL)", () -> {
            PepperboxTable x = bidden(5, 0, 40, 0, 0, 0);
            Due.is("the LEVEL 1 ahead of the LEVEL 8", 0, x.contract(2));
            Due.is("the LEVEL", 8, x.contract(0));
        });
        Due.sentence("the PLAYER on the left of the DECLARER LEADS", () -> {
            for (int dealer = 0; dealer < 4; dealer++) {
                PepperboxTable x = Tables.bidding(dealer, 1);
                Tables.bids(x, 1, 0, 0);
                Due.is("who leads", (dealer + 1) % 4, x.bid(0));
                Due.is("whose turn it is", (dealer + 1) % 4, x.now(2));
            }
            Due.is("not of who bid last", 1, bidden(1, 0, 6, 0, 0, 0).now(2));
        });
    }

    // ---- promise 8

    private static void bid() {
        Due.sentence("Returns the PLAYER whose turn it is then, to bid or to play", () -> {
            PepperboxTable x = bidden(0);
            Due.is("to bid", 2, x.bid(1));
            Tables.bids(x, 0, 0);
            Due.is("to play", 2, x.bid(0));
        });
        Due.sentence("bid: NONE if it is over", () -> {
            PepperboxTable x = bidden(0, 0);
            Due.is("not yet", 3, x.bid(0));
            Due.is("over", -1, x.bid(0));
        });
        Due.sentence("bid: if bid is not 0 to 42", () -> {
            PepperboxTable x = bidden();
            for (int bad : Edges.outside(0, 42)) {
                Due.noArgument("bid(" + bad + ")", x, () -> x.bid(bad));
            }
            Due.is("the least", 1, x.bid(0));
            Tables.bids(x, 1, DOUBLE);
            Due.is("the greatest", 0, x.bid(REDOUBLE));
        });
        Due.sentence("bid: if it is not in the STATE 1", () -> {
            for (int state : new int[] {0, 2, 3, 4}) {
                PepperboxTable x = Edges.inState(state);
                for (int bid : new int[] {0, 1, 40, DOUBLE, REDOUBLE}) {
                    Due.noState(bid + " in " + state, x, () -> x.bid(bid));
                }
            }
        });
        Due.sentence("or that cannot be bid", () -> {
            PepperboxTable x = bidden(7);
            for (int bid = 0; bid <= 42; bid++) {
                PepperboxTable y = bidden(7);
                int b = bid;
                if (x.canBid(bid)) {
                    Due.is("bid(" + bid + ")", 2, y.bid(b));
                } else {
                    Due.noState("bid(" + bid + ")", y, () -> y.bid(b));
                }
            }
        });
    }

    // ---- promise 9

    private static void canBid() {
        Due.sentence("(false in other STATES than 1)", () -> {
            for (int state : new int[] {0, 2, 3, 4}) {
                PepperboxTable x = Edges.inState(state);
                for (int bid = 0; bid <= 42; bid++) {
                    Due.is(bid + " in " + state, false, x.canBid(bid));
                }
            }
        });
        Due.sentence("canBid: if bid is not 0 to 42", () -> {
            for (int state = 0; state <= 4; state++) {
                PepperboxTable x = Edges.inState(state);
                for (int bad : Edges.outside(0, 42)) {
                    Due.noArgument("canBid(" + bad + ") in " + state, x, () -> x.canBid(bad) ? 1 : 0);
                }
            }
            Due.is("the least", true, bidden().canBid(0));
            Due.is("the greatest", true, bidden(1, DOUBLE).canBid(REDOUBLE));
        });
    }

    // ---- promise 10

    private static void bidAt() {
        Due.sentence("a place among the BIDS of this deal, from 0", () -> {
            int[] bids = {0, 1, DOUBLE, REDOUBLE, 40, 0, 0, 0};
            PepperboxTable x = bidden(bids);
            for (int k = 0; k < bids.length; k++) {
                Due.is("at " + k, bids[k], x.bidAt(k));
            }
            x.begin(0);
            x.deal(0, 1, 1);
            x.open();
            x.bid(3);
            Due.is("of the next deal", 3, x.bidAt(0));
            Due.noPlace("not of the last deal", x, () -> x.bidAt(1));
        });
        Due.sentence("bidAt: if there is no such place", () -> {
            PepperboxTable none = Edges.inState(0);
            Due.noPlace("no BIDS in the STATE 0", none, () -> none.bidAt(0));
            PepperboxTable x = bidden();
            Due.noPlace("no BIDS yet", x, () -> x.bidAt(0));
            x.bid(5);
            Due.is("the only one", 5, x.bidAt(0));
            for (int bad : Edges.outside(0, 0)) {
                Due.noPlace("bidAt(" + bad + ")", x, () -> x.bidAt(bad));
            }
            PepperboxTable over = Edges.inState(4);
            Due.is("the last one, as it is over", 0, over.bidAt(3));
            Due.noPlace("behind the last one", over, () -> over.bidAt(4));
        });
        Due.sentence("bidAt: a place among the BIDS of this deal", () -> {
            // As many as a deal can have.
            PepperboxTable x = bidden(0, 0, 0);
            for (int level = 1; level <= 40; level++) {
                Tables.bids(x, level, 0, 0, DOUBLE, 0, 0, REDOUBLE, 0, 0);
            }
            x.bid(0);
            Due.is("how many", 364, x.now(3));
            Due.is("the last REDOUBLE", REDOUBLE, x.bidAt(360));
            Due.is("the last", 0, x.bidAt(363));
            Due.noPlace("behind the last", x, () -> x.bidAt(364));
        });
    }

    // ---- promise 11

    private static void contract() {
        Due.sentence("0 the LEVEL, 1 the TRUMP, 2 the DECLARER, 3 TIMES", () -> {
            PepperboxTable x = bidden(0, 14, DOUBLE, 0, 0, 0);
            int[] due = {3, 3, 1, 2};
            for (int what = 0; what <= 3; what++) {
                Due.is("contract(" + what + ")", due[what], x.contract(what));
            }
        });
        Due.sentence("NONE without a CONTRACT", () -> {
            PepperboxTable passed = Edges.inState(4);
            for (int what = 0; what <= 3; what++) {
                Due.is("in the STATE 0", -1, Edges.inState(0).contract(what));
                Due.is("a LEVEL and two PASSES", -1, bidden(1, 0, 0).contract(what));
                Due.is("four PASSES", -1, passed.contract(what));
                Due.is("with one, in the STATE 2", true, Edges.inState(2).contract(what) >= 0);
                Due.is("with one, as it is over", true, Edges.inState(3).contract(what) >= 0);
            }
        });
        Due.sentence("contract: if what is not 0 to 3", () -> {
            for (int state = 0; state <= 4; state++) {
                PepperboxTable x = Edges.inState(state);
                for (int bad : Edges.outside(0, 3)) {
                    Due.noArgument("contract(" + bad + ") in " + state, x, () -> x.contract(bad));
                }
            }
            Due.is("the least", 1, Edges.inState(2).contract(0));
            Due.is("the greatest", 1, Edges.inState(2).contract(3));
        });
    }
}
