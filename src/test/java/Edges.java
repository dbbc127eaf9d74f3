/** Tables, rows and bounds that the tests of the document's boundary sentences begin with. */
final class Edges {
    static final int MIN = Integer.MIN_VALUE;
    static final int MAX = Integer.MAX_VALUE;

    private Edges() {
    }

    /** The numbers just outside of a range, and the two that are the farthest. */
    static int[] outside(int least, int most) {
        return new int[] {least - 1, most + 1, MIN, MAX};
    }

    /** Two CARDS each, in that STATE; 4 stands for the STATE 3 without a CONTRACT. */
    static PepperboxTable inState(int state) {
        PepperboxTable x = new PepperboxTable();
        x.deal(0, 1, 2);
        if (state >= 1) {
            x.open();
        }
        if (state == 2 || state == 3) {
            Tables.bids(x, 5, 0, 0, 0);
        }
        if (state == 3) {
            Tables.playRightly(x, 8);
        }
        if (state == 4) {
            Tables.bids(x, 0, 0, 0, 0);
        }
        return x;
    }

    static PepperboxTable dealtBy(int dealer, int bid, int[]... hands) {
        PepperboxTable x = new PepperboxTable();
        x.begin(dealer);
        Tables.gives(x, hands);
        x.open();
        Tables.bids(x, bid, 0, 0, 0);
        return x;
    }

    /** One CARD each; the PLAYER 1 leads. */
    static PepperboxTable oneEach(int bid, int of0, int of1, int of2, int of3) {
        return Tables.given(bid, new int[] {of0}, new int[] {of1}, new int[] {of2}, new int[] {of3});
    }

    /**
     * Three CARDS each, one of the SUITS 0, 1, 2 each, so all follow whoever leads, and the SIDE 0 gets two of three:
     * the PLAYER 0 has the greatest of the SUITS 0 and 1, the PLAYER 1 that of the SUIT 2.
     */
    static PepperboxTable twoOfThree(int dealer, int... bids) {
        PepperboxTable x = new PepperboxTable();
        x.begin(dealer);
        Tables.gives(x, new int[] {7, 15, 16}, new int[] {0, 8, 23}, new int[] {1, 9, 17}, new int[] {2, 10, 18});
        x.open();
        Tables.bids(x, bids);
        return x;
    }

    static PepperboxTable playedTwoOfThree(int dealer, int... bids) {
        PepperboxTable x = twoOfThree(dealer, bids);
        Tables.playRightly(x, 12);
        return x;
    }

    /** The winner has the two best CARDS of each SUIT, so all follow, and that PLAYER gets all eight. */
    static PepperboxTable allEight(int winner, int dealer, int... bids) {
        PepperboxTable x = forWinner(winner, dealer, bids);
        Tables.playRightly(x, 32);
        return x;
    }

    /** As that, with the eighth TRICK to come, which the winner leads. */
    static PepperboxTable lastOfEight(int winner) {
        PepperboxTable x = forWinner(winner, 0, 5, 0, 0, 0);
        Tables.playRightly(x, 28);
        return x;
    }

    private static PepperboxTable forWinner(int winner, int dealer, int... bids) {
        PepperboxTable x = new PepperboxTable();
        x.begin(dealer);
        for (int card = 0; card < 32; card++) {
            x.give((winner + 1 + card % 8 / 2) % 4, card);
        }
        x.open();
        Tables.bids(x, bids);
        return x;
    }

    /** The digest as the document tells it, of the other calls' answers; some 90 calls. */
    static long digestByHand(PepperboxTable x) {
        long d = 968;
        for (int what = 0; what <= 7; what++) {
            d = d * 31 + x.now(what);
        }
        for (int what = 0; what <= 3; what++) {
            d = d * 31 + x.contract(what);
        }
        for (int k = 0; k < x.now(3); k++) {
            d = d * 31 + x.bidAt(k);
        }
        for (int trick = 0; trick < x.now(4); trick++) {
            for (int what = 0; what <= 5; what++) {
                d = d * 31 + x.trick(trick, what);
            }
        }
        for (int k = 0; k < 6; k++) {
            d = d * 31 + x.side(k / 3, k % 3);
        }
        for (int k = 0; k < 60; k++) {
            d = d * 31 + x.hand(k / 15, k / 3 % 5, k % 3);
        }
        d = d * 31 + x.best();
        d = d * 31 + x.bestCard();
        for (int trump = 0; trump <= 4; trump++) {
            d = d * 31 + x.bestIn(trump);
        }
        return d;
    }
}
