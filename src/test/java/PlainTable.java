import java.util.ArrayList;
import java.util.Collections;
import java.util.List;
import java.util.TreeSet;

/**
 * The document once more, slow and plain: what was bid and played is kept as it came, and all else is worked out of
 * it at each call. Calls answer longs; a call that throws throws the class that the document names.
 */
final class PlainTable {
    private record Played(int player, int card, boolean revoke) {
    }

    private int state = 0;
    private int dealer = 0;
    private int deals = 0;
    private long[] scores = {0, 0};
    private List<TreeSet<Integer>> hands = emptyHands();
    private int size = 0;
    private List<Integer> bids = new ArrayList<>();
    private List<List<Played>> ended = new ArrayList<>();
    private List<Played> lying = new ArrayList<>();
    private int leader = -1;

    private static List<TreeSet<Integer>> emptyHands() {
        List<TreeSet<Integer>> hands = new ArrayList<>();
        for (int player = 0; player < 4; player++) {
            hands.add(new TreeSet<>());
        }
        return hands;
    }

    private static void place(boolean right) {
        if (!right) {
            throw new IndexOutOfBoundsException();
        }
    }

    private static void argument(boolean right) {
        if (!right) {
            throw new IllegalArgumentException();
        }
    }

    private static void state(boolean right) {
        if (!right) {
            throw new IllegalStateException();
        }
    }

    private static boolean in(int value, int least, int most) {
        return least <= value && value <= most;
    }

    long begin(int newDealer) {
        place(in(newDealer, 0, 3));
        long was = state;
        state = 0;
        dealer = newDealer;
        hands = emptyHands();
        bids = new ArrayList<>();
        ended = new ArrayList<>();
        lying = new ArrayList<>();
        return was;
    }

    long deal(int first, int step, int many) {
        argument(in(first, 0, 31) && in(step, 1, 31) && (step & 1) == 1 && in(many, 0, 8));
        state(state == 0 && hands.stream().allMatch(TreeSet::isEmpty));
        for (int k = 0; hands.get(3).size() < many; k++) {
            hands.get(k % 4).add((first + k * step) % 32);
        }
        return many == 0 ? -1 : Collections.min(hands.get(0));
    }

    long give(int player, int card) {
        place(in(player, 0, 3) && in(card, 0, 31));
        state(state == 0 && hands.get(player).size() < 8 && hands.stream().noneMatch(h -> h.contains(card)));
        hands.get(player).add(card);
        return hands.get(player).size();
    }

    long open() {
        state(state == 0 && hands.stream().noneMatch(TreeSet::isEmpty)
                && hands.stream().map(TreeSet::size).distinct().count() == 1);
        state = 1;
        size = hands.get(0).size();
        return 4L * size;
    }

    long has(int player, int card) {
        place(in(player, 0, 3) && in(card, 0, 31));
        return hands.get(player).contains(card) ? 1 : 0;
    }

    long hand(int player, int suit, int what) {
        place(in(player, 0, 3));
        argument(in(suit, 0, 4) && in(what, 0, 2));
        TreeSet<Integer> of = new TreeSet<>();
        for (int card : hands.get(player)) {
            if (suit == 4 || card / 8 == suit) {
                of.add(card);
            }
        }
        if (what == 0) {
            return of.size();
        }
        return of.isEmpty() ? -1 : what == 1 ? of.last() : of.first();
    }

    private int bidder(int k) {
        return (dealer + k) % 4;
    }

    /** The place of the last BID from one to another number; -1 without. */
    private int lastOf(int least, int most) {
        for (int k = bids.size() - 1; k >= 0; k--) {
            if (in(bids.get(k), least, most)) {
                return k;
            }
        }
        return -1;
    }

    private boolean may(int bid) {
        int level = lastOf(1, 40);
        int dbl = lastOf(41, 41);
        int redbl = lastOf(42, 42);
        int turn = bidder(bids.size());
        if (state != 1) {
            return false;
        }
        if (bid == 0) {
            return true;
        }
        if (bid <= 40) {
            return level < 0 || bid > bids.get(level);
        }
        if (level < 0) {
            return false;
        }
        boolean own = (bidder(level) - turn) % 2 == 0;
        return bid == 41 ? !own && dbl < level : own && dbl > level && redbl < level;
    }

    private int passesAtTheEnd() {
        int passes = 0;
        while (passes < bids.size() && bids.get(bids.size() - 1 - passes) == 0) {
            passes++;
        }
        return passes;
    }

    long bid(int bid) {
        argument(in(bid, 0, 42));
        state(may(bid));
        bids.add(bid);
        if (isContract()) {
            state = 2;
            leader = ((int) contract(2) + 1) % 4;
        } else if (bids.size() == 4 && passesAtTheEnd() == 4) {
            state = 3;
        }
        return turn();
    }

    long canBid(int bid) {
        argument(in(bid, 0, 42));
        return may(bid) ? 1 : 0;
    }

    long bidAt(int k) {
        place(in(k, 0, bids.size() - 1));
        return bids.get(k);
    }

    private boolean isContract() {
        return lastOf(1, 40) >= 0 && passesAtTheEnd() >= 3;
    }

    long contract(int what) {
        argument(in(what, 0, 3));
        if (!isContract()) {
            return -1;
        }
        int at = lastOf(1, 40);
        int trump = (bids.get(at) - 1) % 5;
        if (what == 0) {
            return (bids.get(at) - 1) / 5 + 1;
        }
        if (what == 1) {
            return trump;
        }
        if (what == 3) {
            return lastOf(42, 42) > at ? 4 : lastOf(41, 41) > at ? 2 : 1;
        }
        for (int k = 0; ; k++) {
            if (in(bids.get(k), 1, 40) && (bids.get(k) - 1) % 5 == trump && bidder(k) % 2 == bidder(at) % 2) {
                return bidder(k);
            }
        }
    }

    private int turn() {
        if (state == 1) {
            return bidder(bids.size());
        }
        return state == 2 ? (leader + lying.size()) % 4 : -1;
    }

    private static int taker(List<Played> cards, int trump) {
        int best = -1;
        int value = -1;
        for (Played p : cards) {
            int suit = p.card / 8;
            int v = suit == trump ? 100 + p.card % 8 : suit == cards.get(0).card / 8 ? p.card % 8 : -2;
            if (v > value) {
                value = v;
                best = p.player;
            }
        }
        return best;
    }

    private static List<Integer> right(TreeSet<Integer> hand, List<Played> lying) {
        List<Integer> following = new ArrayList<>();
        for (int card : hand) {
            if (!lying.isEmpty() && card / 8 == lying.get(0).card / 8) {
                following.add(card);
            }
        }
        return following.isEmpty() ? new ArrayList<>(hand) : following;
    }

    long play(int card) {
        place(in(card, 0, 31));
        state(state == 2 && hands.get(turn()).contains(card));
        TreeSet<Integer> hand = hands.get(turn());
        lying.add(new Played(turn(), card, !right(hand, lying).contains(card)));
        hand.remove(card);
        if (lying.size() == 4) {
            leader = taker(lying, (int) contract(1));
            ended.add(lying);
            lying = new ArrayList<>();
            if (ended.size() == size) {
                finish();
            }
        }
        return turn();
    }

    private boolean revoked(int player) {
        return ended.stream().flatMap(List::stream).anyMatch(p -> p.player == player && p.revoke)
                || lying.stream().anyMatch(p -> p.player == player && p.revoke);
    }

    private void finish() {
        state = 3;
        deals++;
        long first = side(0, 0);
        long difference = difference(first);
        scores[difference > 0 ? 0 : 1] += Math.abs(difference);
    }

    private long difference(long first) {
        int declarer = (int) contract(2);
        long level = contract(0);
        long times = contract(3);
        long[] worth = {20, 20, 30, 30, 40};
        long tricks = declarer % 2 == 0 ? first : size - first;
        long sign = declarer % 2 == 0 ? 1 : -1;
        if (tricks < level) {
            return -sign * (level - tricks) * 50 * times;
        }
        long score = times * level * worth[(int) contract(1)];
        for (long more = level; more < tricks; more++) {
            score += 20 * times;
        }
        return sign * (score + (level > 5 ? 50 : 0));
    }

    long back() {
        state(state == 2 && !lying.isEmpty());
        Played p = lying.remove(lying.size() - 1);
        hands.get(p.player).add(p.card);
        return p.card;
    }

    long isRight(int card) {
        place(in(card, 0, 31));
        return state == 2 && right(hands.get(turn()), lying).contains(card) ? 1 : 0;
    }

    long trick(int trick, int what) {
        place(in(trick, 0, ended.size() - 1));
        argument(in(what, 0, 5));
        List<Played> of = ended.get(trick);
        if (what == 0) {
            return of.get(0).player;
        }
        if (what == 1) {
            return taker(of, (int) contract(1));
        }
        for (Played p : of) {
            if (p.player == what - 2) {
                return p.card;
            }
        }
        throw new AssertionError();
    }

    long now(int what) {
        argument(in(what, 0, 7));
        long[] all = {state, dealer, turn(), bids.size(), ended.size(), lying.size(), 0, deals};
        return what == 6 ? taker(lying, (int) contract(1)) : all[what];
    }

    long side(int side, int what) {
        place(in(side, 0, 1));
        argument(in(what, 0, 2));
        if (what == 1) {
            return scores[side];
        }
        if (what == 2) {
            return (revoked(side) ? 1 : 0) + (revoked(side + 2) ? 1 : 0);
        }
        long[] tricks = {0, 0};
        for (List<Played> of : ended) {
            tricks[taker(of, (int) contract(1)) % 2]++;
        }
        for (int player = 0; player < 4; player++) {
            if (state == 3 && revoked(player) && tricks[player % 2] > 0) {
                tricks[player % 2]--;
                tricks[1 - player % 2]++;
            }
        }
        return tricks[side];
    }

    double meanScore() {
        return deals == 0 ? 0.0 : (double) (scores[0] + scores[1]) / deals;
    }

    private void inTurn(int card) {
        place(in(card, 0, 31));
        state(state == 2 && hands.get(turn()).contains(card));
    }

    long wouldGet(int card) {
        inTurn(card);
        List<Played> then = new ArrayList<>(lying);
        then.add(new Played(turn(), card, false));
        return taker(then, (int) contract(1));
    }

    private boolean isBestPlay() {
        return state == 2 && hands.stream().allMatch(h -> h.size() <= 3);
    }

    /** What SIDE 0 gets of all that is not ended, by trying every rightly played rest. */
    private static int search(List<TreeSet<Integer>> hands, List<Played> lying, int turn, int trump) {
        if (lying.isEmpty() && hands.get(turn).isEmpty()) {
            return 0;
        }
        int best = -1;
        for (int card : right(hands.get(turn), lying)) {
            int value = searchBehind(hands, lying, turn, trump, card);
            boolean better = turn % 2 == 0 ? value > best : value < best;
            if (best < 0 || better) {
                best = value;
            }
        }
        return best;
    }

    private static int searchBehind(List<TreeSet<Integer>> hands, List<Played> lying, int turn, int trump, int card) {
        List<TreeSet<Integer>> thenHands = new ArrayList<>(hands);
        thenHands.set(turn, new TreeSet<>(hands.get(turn)));
        thenHands.get(turn).remove(card);
        List<Played> then = new ArrayList<>(lying);
        then.add(new Played(turn, card, false));
        if (then.size() < 4) {
            return search(thenHands, then, (turn + 1) % 4, trump);
        }
        int taker = taker(then, trump);
        return (taker % 2 == 0 ? 1 : 0) + search(thenHands, new ArrayList<>(), taker, trump);
    }

    long best() {
        return isBestPlay() ? search(hands, lying, turn(), (int) contract(1)) : -1;
    }

    long bestWith(int card) {
        inTurn(card);
        return isBestPlay() ? searchBehind(hands, lying, turn(), (int) contract(1), card) : -1;
    }

    long bestCard() {
        if (!isBestPlay()) {
            return -1;
        }
        long best = best();
        for (int card : right(hands.get(turn()), lying)) {
            if (bestWith(card) == best) {
                return card;
            }
        }
        throw new AssertionError();
    }

    long bestIn(int trump) {
        argument(in(trump, 0, 4));
        return isBestPlay() ? search(hands, lying, turn(), trump) : -1;
    }

    long wouldScore(int first) {
        argument(in(first, 0, 8));
        state(isContract() && first <= size);
        return difference(first);
    }

    long digest() {
        List<Long> all = new ArrayList<>();
        for (int k = 0; k < 8; k++) {
            all.add(now(k));
        }
        for (int k = 0; k < 4; k++) {
            all.add(contract(k));
        }
        bids.forEach(b -> all.add((long) b));
        for (int k = 0; k < 6 * ended.size(); k++) {
            all.add(trick(k / 6, k % 6));
        }
        for (int k = 0; k < 6; k++) {
            all.add(side(k / 3, k % 3));
        }
        for (int k = 0; k < 60; k++) {
            all.add(hand(k / 15, k / 3 % 5, k % 3));
        }
        all.add(best());
        all.add(bestCard());
        for (int k = 0; k < 5; k++) {
            all.add(bestIn(k));
        }
        long d = 968;
        for (long v : all) {
            d = d * 31 + v;
        }
        return d;
    }
}
