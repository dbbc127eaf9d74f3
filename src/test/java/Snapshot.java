import java.util.ArrayList;
import java.util.List;

/** All that can be asked of a table without an exception. */
final class Snapshot {
    private Snapshot() {
    }

    static long[] of(PepperboxTable x) {
        List<Long> all = new ArrayList<>();
        for (int what = 0; what <= 7; what++) {
            all.add((long) x.now(what));
        }
        for (int what = 0; what <= 3; what++) {
            all.add((long) x.contract(what));
        }
        for (int k = 0; k < x.now(3); k++) {
            all.add((long) x.bidAt(k));
        }
        for (int bid = 0; bid <= 42; bid++) {
            all.add(x.canBid(bid) ? 1L : 0L);
        }
        for (int trick = 0; trick < x.now(4); trick++) {
            for (int what = 0; what <= 5; what++) {
                all.add((long) x.trick(trick, what));
            }
        }
        addHands(x, all);
        for (int side = 0; side <= 1; side++) {
            for (int what = 0; what <= 2; what++) {
                all.add((long) x.side(side, what));
            }
        }
        all.add(Double.doubleToLongBits(x.meanScore()));
        addScores(x, all);
        addBest(x, all);
        long[] row = new long[all.size()];
        for (int k = 0; k < row.length; k++) {
            row[k] = all.get(k);
        }
        return row;
    }

    private static void addHands(PepperboxTable x, List<Long> all) {
        for (int card = 0; card < 32; card++) {
            for (int player = 0; player < 4; player++) {
                all.add(x.has(player, card) ? 1L : 0L);
            }
            all.add(x.isRight(card) ? 1L : 0L);
        }
    }

    private static void addScores(PepperboxTable x, List<Long> all) {
        if (x.contract(0) == -1) {
            return;
        }
        // At least so many CARDS each: one is short where the PLAYER 0 has one in the TRICK that is not ended.
        int size = x.hand(0, 4, 0) + x.now(4);
        for (int first = 0; first <= size; first++) {
            all.add((long) x.wouldScore(first));
        }
    }

    private static void addBest(PepperboxTable x, List<Long> all) {
        all.add((long) x.best());
        all.add((long) x.bestCard());
        for (int trump = 0; trump <= 4; trump++) {
            all.add((long) x.bestIn(trump));
        }
        all.add(x.digest());
    }
}
