import java.util.Arrays;

/** The boundary sentences that stand for all promises: on exceptions, on what changes nothing, on the 512 calls. */
public final class ThrowsEdgesTest {
    private interface TableCall {
        long on(PepperboxTable x);
    }

    private static final String NAMED_FIRST = "If several exceptions apply, the one that is named first is thrown";

    /** Each throws on every table of tableIn. */
    private static final TableCall[] REFUSED = {
        x -> x.begin(4), x -> x.begin(-1), x -> x.deal(32, 1, 1), x -> x.deal(0, 2, 1), x -> x.deal(0, 1, 9),
        x -> x.deal(8, 1, 1), x -> x.give(4, 31), x -> x.give(0, 32), x -> x.give(0, 5), x -> x.has(4, 0) ? 1 : 0,
        x -> x.has(0, 32) ? 1 : 0, x -> x.hand(4, 0, 0), x -> x.hand(0, 5, 0), x -> x.hand(0, 0, 3), x -> x.bid(43),
        x -> x.bid(41), x -> x.bid(42), x -> x.canBid(43) ? 1 : 0, x -> x.bidAt(-1), x -> x.bidAt(4),
        x -> x.contract(4), x -> x.play(32), x -> x.play(31), x -> x.play(0), x -> x.isRight(32) ? 1 : 0,
        x -> x.trick(3, 0), x -> x.trick(0, 6), x -> x.now(8), x -> x.side(2, 0), x -> x.side(0, 3),
        x -> x.wouldGet(32), x -> x.wouldGet(31), x -> x.bestWith(32), x -> x.bestWith(31), x -> x.bestIn(5),
        x -> x.wouldScore(9), x -> x.wouldScore(4),
    };

    /** Of the CARDS asked for, 25, 10 and 23 are in the HAND whose turn it is in 2, in 5 and in 6. */
    private static final TableCall[] ASKED = {
        x -> x.has(1, 5) ? 1 : 0, x -> x.hand(1, 4, 1), x -> x.canBid(7) ? 1 : 0, x -> x.contract(2),
        x -> x.isRight(5) ? 1 : 0, x -> x.now(6), x -> x.side(1, 2), x -> (long) x.meanScore(), x -> x.best(),
        x -> x.bestCard(), x -> x.bestIn(0), x -> x.bestIn(4), x -> x.digest(), x -> x.wouldGet(25),
        x -> x.bestWith(25), x -> x.wouldGet(10), x -> x.bestWith(10), x -> x.wouldGet(23), x -> x.bestWith(23),
        x -> x.wouldScore(1),
    };

    public static void main(String[] args) {
        Due.sentence("A method that throws an exception changes nothing", ThrowsEdgesTest::changesNothing);
        Due.sentence("changes nothing", ThrowsEdgesTest::changesNothingByState);
        namedFirst();
        namedFirstByCard();
        Due.sentence("---- what would be (nothing is changed)", ThrowsEdgesTest::askingChangesNothing);
        Due.sentence("An object is used for at most 512 calls after it has been made", ThrowsEdgesTest::lastCall);
        Due.end("ThrowsEdgesTest");
    }

    /** Three CARDS each and the TRUMP 1; 4 is over without a CONTRACT, 5 within the first TRICK, 6 in the second. */
    private static PepperboxTable tableIn(int state) {
        PepperboxTable x = new PepperboxTable();
        x.deal(0, 5, 3);
        if (state >= 1) {
            x.open();
        }
        if (state == 4) {
            Tables.bids(x, 0, 0, 0, 0);
        } else if (state >= 2) {
            Tables.bids(x, 2, 0, 0, 0);
        }
        int[] played = {0, 0, 0, 12, 0, 1, 5};
        Tables.playRightly(x, played[state]);
        return x;
    }

    private static boolean isThrown(PepperboxTable x, TableCall call) {
        try {
            call.on(x);
            return false;
        } catch (RuntimeException e) {
            return true;
        }
    }

    /** Brings a deal to its end, so that what a call has left behind would come out. */
    private static long goOn(PepperboxTable x) {
        if (x.now(0) == 0) {
            x.open();
        }
        if (x.now(0) == 1) {
            Tables.bids(x, 7, 0, 0, 0);
        }
        while (x.now(0) == 2) {
            Tables.playRightly(x, 1);
        }
        return x.digest();
    }

    private static void isUnchanged(String what, int state, TableCall call) {
        PepperboxTable x = tableIn(state);
        isThrown(x, call);
        Due.is(what + " changes nothing", true, Arrays.equals(Snapshot.of(x), Snapshot.of(tableIn(state))));
        PepperboxTable y = tableIn(state);
        isThrown(y, call);
        Due.is(what + " leaves nothing behind", goOn(tableIn(state)), goOn(y));
    }

    private static void isRefused(String what, int state, TableCall call) {
        Due.is(what + " throws", true, isThrown(tableIn(state), call));
        isUnchanged(what, state, call);
    }

    private static void changesNothing() {
        for (int state = 0; state <= 6; state++) {
            for (int k = 0; k < REFUSED.length; k++) {
                isRefused("in " + state + " the refused call " + k, state, REFUSED[k]);
            }
        }
    }

    private static void changesNothingByState() {
        for (int state : new int[] {0, 1, 2, 3, 4}) {
            isRefused("in " + state + " back", state, x -> x.back());
        }
        for (int state = 1; state <= 6; state++) {
            isRefused("in " + state + " open", state, x -> x.open());
            isRefused("in " + state + " give", state, x -> x.give(3, 31));
        }
        for (int state : new int[] {0, 2, 3, 4, 5, 6}) {
            isRefused("in " + state + " bid", state, x -> x.bid(0));
        }
    }

    private static void askingChangesNothing() {
        for (int state = 0; state <= 6; state++) {
            for (int k = 0; k < ASKED.length; k++) {
                isUnchanged("in " + state + " the question " + k, state, ASKED[k]);
            }
        }
    }

    // ---- several exceptions

    private static void namedFirst() {
        Due.sentence("deal: " + NAMED_FIRST, () -> {
            PepperboxTable x = Edges.inState(1);
            Due.noArgument("first", x, () -> x.deal(32, 1, 1));
            Due.noArgument("step", x, () -> x.deal(0, 2, 1));
            Due.noArgument("many", x, () -> x.deal(0, 1, 9));
            PepperboxTable y = Edges.inState(0);
            Due.noArgument("a HAND has a CARD", y, () -> y.deal(0, 0, 1));
        });
        Due.sentence("give: " + NAMED_FIRST, () -> {
            PepperboxTable x = Edges.inState(1);
            Due.noPlace("the PLAYER", x, () -> x.give(4, 0));
            Due.noPlace("the CARD", x, () -> x.give(0, 32));
            PepperboxTable y = Tables.bidding(0, 8);
            y.begin(0);
            y.deal(0, 1, 8);
            Due.noPlace("the HAND has 8", y, () -> y.give(0, -1));
            Due.noPlace("the CARD is in a HAND", y, () -> y.give(-1, 0));
        });
        Due.sentence("hand: " + NAMED_FIRST, () -> {
            PepperboxTable x = Edges.inState(0);
            Due.noPlace("suit", x, () -> x.hand(4, 5, 0));
            Due.noPlace("what", x, () -> x.hand(-1, 0, 3));
        });
        Due.sentence("bid: " + NAMED_FIRST, () -> {
            for (int state : new int[] {0, 2, 3, 4}) {
                PepperboxTable x = Edges.inState(state);
                Due.noArgument("too great", x, () -> x.bid(43));
                Due.noArgument("too small", x, () -> x.bid(-1));
            }
        });
        Due.sentence("trick: " + NAMED_FIRST, () -> {
            PepperboxTable x = Edges.inState(3);
            Due.noPlace("too great", x, () -> x.trick(2, 6));
            Due.noPlace("too small", x, () -> x.trick(-1, -1));
        });
        Due.sentence("side: " + NAMED_FIRST, () -> {
            PepperboxTable x = Edges.inState(3);
            Due.noPlace("too great", x, () -> x.side(2, 3));
            Due.noPlace("too small", x, () -> x.side(-1, -1));
        });
        Due.sentence("wouldScore: " + NAMED_FIRST, () -> {
            for (int state = 0; state <= 4; state++) {
                PepperboxTable x = Edges.inState(state);
                Due.noArgument("too great", x, () -> x.wouldScore(9));
                Due.noArgument("too small", x, () -> x.wouldScore(-1));
            }
        });
    }

    private static void namedFirstByCard() {
        Due.sentence("play: " + NAMED_FIRST,
                () -> isPlaceFirst(x -> x.play(32), x -> x.play(-1)));
        Due.sentence("wouldGet: " + NAMED_FIRST,
                () -> isPlaceFirst(x -> x.wouldGet(32), x -> x.wouldGet(-1)));
        Due.sentence("bestWith: " + NAMED_FIRST,
                () -> isPlaceFirst(x -> x.bestWith(32), x -> x.bestWith(-1)));
    }

    private static void isPlaceFirst(TableCall great, TableCall small) {
        for (int state = 0; state <= 4; state++) {
            PepperboxTable x = Edges.inState(state);
            Due.noPlace("too great in " + state, x, () -> great.on(x));
            Due.noPlace("too small in " + state, x, () -> small.on(x));
        }
    }

    // ---- 512 calls

    /** 370 calls for a deal with the most BIDS, then 12 deals of 11 calls and 9 questions: the next one is the last. */
    private static void lastCall() {
        PepperboxTable x = new PepperboxTable();
        x.deal(0, 1, 1);
        x.open();
        Tables.bids(x, 0, 0, 0);
        for (int level = 1; level <= 40; level++) {
            Tables.bids(x, level, 0, 0, 41, 0, 0, 42, 0, 0);
        }
        x.bid(0);
        Tables.plays(x, 1, 2, 3, 0);
        for (int k = 0; k < 12; k++) {
            x.begin(0);
            x.deal(0, 1, 1);
            x.open();
            Tables.bids(x, 1, 0, 0, 0);
            Tables.plays(x, 1, 2, 3, 0);
        }
        for (int k = 0; k < 9; k++) {
            Due.is("a question", 3, x.now(0));
        }
        Due.is("the 512th call", 13, x.now(7));
    }
}
