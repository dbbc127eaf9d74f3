/** Tables that several tests begin with. */
final class Tables {
    private Tables() {
    }

    static void bids(PepperboxTable x, int... bids) {
        for (int bid : bids) {
            x.bid(bid);
        }
    }

    static void plays(PepperboxTable x, int... cards) {
        for (int card : cards) {
            x.play(card);
        }
    }

    static void gives(PepperboxTable x, int[]... hands) {
        for (int player = 0; player < hands.length; player++) {
            for (int card : hands[player]) {
                x.give(player, card);
            }
        }
    }

    /** So many CARDS each, dealt from 0 on. */
    static PepperboxTable bidding(int dealer, int many) {
        PepperboxTable x = new PepperboxTable();
        x.begin(dealer);
        x.deal(0, 1, many);
        x.open();
        return x;
    }

    /** As that, with the DEALER's LEVEL and three times PASS behind it. */
    static PepperboxTable playing(int dealer, int first, int step, int many, int bid) {
        PepperboxTable x = new PepperboxTable();
        x.begin(dealer);
        x.deal(first, step, many);
        x.open();
        bids(x, bid, 0, 0, 0);
        return x;
    }

    static PepperboxTable given(int bid, int[]... hands) {
        PepperboxTable x = new PepperboxTable();
        gives(x, hands);
        x.open();
        bids(x, bid, 0, 0, 0);
        return x;
    }

    /** Over, without a CONTRACT. */
    static PepperboxTable over() {
        PepperboxTable x = bidding(0, 2);
        bids(x, 0, 0, 0, 0);
        return x;
    }

    /** Three CARDS each; the PLAYER 3 has not followed the SUIT 0 with 8, though 3 would. */
    static PepperboxTable revoked() {
        PepperboxTable x = given(5, new int[] {0, 4, 20}, new int[] {1, 5, 21}, new int[] {2, 6, 22},
                new int[] {3, 8, 23});
        plays(x, 1, 2, 8);
        return x;
    }

    static int aCardInTurn(PepperboxTable x) {
        return x.hand(x.now(2), 4, 2);
    }

    static void playRightly(PepperboxTable x, int many) {
        for (int k = 0; k < many; k++) {
            x.play(smallestRight(x));
        }
    }

    /** Asks for the smallest CARD of each SUIT alone: a deal of 32 CARDS has to fit into 512 calls. */
    private static int smallestRight(PepperboxTable x) {
        int turn = x.now(2);
        for (int suit = 0; suit < 3; suit++) {
            int card = x.hand(turn, suit, 2);
            if (card >= 0 && x.isRight(card)) {
                return card;
            }
        }
        return x.hand(turn, 3, 2);
    }
}
