/** A table at which cards are played. */
public final class PepperboxTable {
    private static final int NONE = -1;
    private static final int PLAYERS = 4;
    private static final int SUITS = 4;
    private static final int RANKS = 8;
    private static final int CARDS = 32;
    private static final int HAND_AT_MOST = 8;

    private static final int GIVING = 0;
    private static final int BIDDING = 1;
    private static final int PLAYING = 2;
    private static final int OVER = 3;

    private static final int PASS = 0;
    private static final int LEVELS = 40;
    private static final int DOUBLE = 41;
    private static final int REDOUBLE = 42;
    private static final int TRUMPS = 5;
    // 3 times PASS; 39 LEVELS, each with two PASSES, DOUBLE, two, REDOUBLE, two; the last LEVEL with three at its end.
    private static final int BIDS_AT_MOST = 3 + 39 * 9 + 10;

    private static final int OPEN_HAND_AT_MOST = 3;
    private static final int OPEN_CARDS_AT_MOST = OPEN_HAND_AT_MOST * PLAYERS;

    private final Cards cards = new Cards();
    // What would be is tried on this copy, so that the table itself never changes by a question.
    private final Cards trial = new Cards();
    private final Auction auction = new Auction();
    private final int[] taken = new int[2];
    private final int[] scores = new int[2];
    private int state = GIVING;
    private int dealsOver = 0;

    public PepperboxTable() {
    }

    // ---- cards

    public int begin(int dealer) throws IndexOutOfBoundsException {
        checkPlayer(dealer);
        int before = state;
        cards.clear();
        auction.clear(dealer);
        taken[0] = 0;
        taken[1] = 0;
        state = GIVING;
        return before;
    }

    public int deal(int first, int step, int many) throws IllegalArgumentException, IllegalStateException {
        boolean isStep = step >= 1 && step < CARDS && step % 2 == 1;
        if (!isCard(first) || !isStep || many < 0 || many > HAND_AT_MOST) {
            throw new IllegalArgumentException("no such first, step or many");
        }
        if (state != GIVING || !cards.areAllEmpty()) {
            throw new IllegalStateException("not in the STATE 0, or a HAND has a CARD");
        }
        for (int k = 0; k < PLAYERS * many; k++) {
            cards.add(k % PLAYERS, (first + k * step) % CARDS);
        }
        return smallest(cards.heldBy(0));
    }

    public int give(int player, int card) throws IndexOutOfBoundsException, IllegalStateException {
        checkPlayer(player);
        checkCard(card);
        if (state != GIVING || cards.count(player) >= HAND_AT_MOST || cards.isHeld(card)) {
            throw new IllegalStateException("that CARD cannot be given to that PLAYER now");
        }
        cards.add(player, card);
        return cards.count(player);
    }

    public int open() throws IllegalStateException {
        if (state != GIVING || !cards.areReady()) {
            throw new IllegalStateException("not in the STATE 0, or the HANDS are not ready");
        }
        cards.size = cards.count(0);
        state = BIDDING;
        return PLAYERS * cards.size;
    }

    public boolean has(int player, int card) throws IndexOutOfBoundsException {
        checkPlayer(player);
        checkCard(card);
        return contains(cards.heldBy(player), card);
    }

    public int hand(int player, int suit, int what) throws IndexOutOfBoundsException, IllegalArgumentException {
        checkPlayer(player);
        if (suit < 0 || suit > SUITS || what < 0 || what > 2) {
            throw new IllegalArgumentException("no such suit or what");
        }
        int held = cards.heldBy(player);
        int asked = suit == SUITS ? held : held & wholeSuit(suit);
        if (what == 0) {
            return Integer.bitCount(asked);
        }
        return what == 1 ? greatest(asked) : smallest(asked);
    }

    // ---- bids

    public int bid(int bid) throws IllegalArgumentException, IllegalStateException {
        checkBid(bid);
        if (!isBidAllowed(bid)) {
            throw new IllegalStateException("not in the STATE 1, or that cannot be bid");
        }
        auction.add(bid);
        if (auction.isPassedOut()) {
            state = OVER;
        } else if (auction.isSettled()) {
            state = PLAYING;
            cards.start(nextOf(auction.declarer()), auction.trump());
        }
        return turnNow();
    }

    public boolean canBid(int bid) throws IllegalArgumentException {
        checkBid(bid);
        return isBidAllowed(bid);
    }

    public int bidAt(int k) throws IndexOutOfBoundsException {
        if (k < 0 || k >= auction.count) {
            throw new IndexOutOfBoundsException("no such place");
        }
        return auction.at(k);
    }

    public int contract(int what) throws IllegalArgumentException {
        if (what < 0 || what > 3) {
            throw new IllegalArgumentException("no such what");
        }
        if (!auction.isSettled()) {
            return NONE;
        }
        switch (what) {
            case 0:
                return auction.level();
            case 1:
                return auction.trump();
            case 2:
                return auction.declarer();
            default:
                return auction.times;
        }
    }

    // ---- tricks

    public int play(int card) throws IndexOutOfBoundsException, IllegalStateException {
        checkCard(card);
        checkPlayable(card);
        int taker = cards.put(card);
        if (taker != NONE) {
            taken[sideOf(taker)]++;
        }
        if (cards.tricksLeft() == 0) {
            finishDeal();
        }
        return turnNow();
    }

    public int back() throws IllegalStateException {
        if (state != PLAYING || cards.lying() == 0) {
            throw new IllegalStateException("not in the STATE 2, or no CARD lies there");
        }
        return cards.takeBack();
    }

    public boolean isRight(int card) throws IndexOutOfBoundsException {
        checkCard(card);
        return state == PLAYING && contains(cards.rightCards(), card);
    }

    public int trick(int trick, int what) throws IndexOutOfBoundsException, IllegalArgumentException {
        if (trick < 0 || trick >= cards.ended()) {
            throw new IndexOutOfBoundsException("no such TRICK");
        }
        if (what < 0 || what > 5) {
            throw new IllegalArgumentException("no such what");
        }
        if (what == 0) {
            return cards.leaderOf(trick);
        }
        // Who got a TRICK leads the next one; a leader is kept behind the last TRICK, too.
        return what == 1 ? cards.leaderOf(trick + 1) : cards.cardIn(trick, what - 2);
    }

    public int now(int what) throws IllegalArgumentException {
        if (what < 0 || what > 7) {
            throw new IllegalArgumentException("no such what");
        }
        switch (what) {
            case 0:
                return state;
            case 1:
                return auction.dealer;
            case 2:
                return turnNow();
            case 3:
                return auction.count;
            case 4:
                return cards.ended();
            case 5:
                return cards.lying();
            case 6:
                return cards.takerOf(cards.ended(), cards.lying());
            default:
                return dealsOver;
        }
    }

    public int side(int side, int what) throws IndexOutOfBoundsException, IllegalArgumentException {
        if (side < 0 || side > 1) {
            throw new IndexOutOfBoundsException("no such SIDE");
        }
        if (what < 0 || what > 2) {
            throw new IllegalArgumentException("no such what");
        }
        if (what == 0) {
            return taken[side];
        }
        return what == 1 ? scores[side] : revokersOf(side);
    }

    public double meanScore() {
        if (dealsOver == 0) {
            return 0.0;
        }
        return (double) (scores[0] + scores[1]) / (double) dealsOver;
    }

    // ---- what would be (nothing is changed)

    public int wouldGet(int card) throws IndexOutOfBoundsException, IllegalStateException {
        checkCard(card);
        checkPlayable(card);
        trial.copyFrom(cards);
        trial.put(card);
        return trial.takerOf(cards.ended(), cards.lying() + 1);
    }

    public int best() {
        return bestIn(cards.trump);
    }

    public int bestWith(int card) throws IndexOutOfBoundsException, IllegalStateException {
        checkCard(card);
        checkPlayable(card);
        return hasBestPlay() ? bestBehind(card) : NONE;
    }

    public int bestCard() {
        if (!hasBestPlay()) {
            return NONE;
        }
        int most = bestIn(cards.trump);
        int rest = cards.rightCards();
        // The best play's count is reached by at least one right CARD, whichever SIDE plays it.
        for (int k = 0; k < HAND_AT_MOST && rest != 0; k++) {
            int card = smallest(rest);
            if (bestBehind(card) == most) {
                return card;
            }
            rest = without(rest, card);
        }
        return NONE;
    }

    public int bestIn(int trump) throws IllegalArgumentException {
        if (trump < 0 || trump >= TRUMPS) {
            throw new IllegalArgumentException("no such TRUMP");
        }
        if (!hasBestPlay()) {
            return NONE;
        }
        trial.copyFrom(cards);
        trial.trump = trump;
        return mostOfSide0(trial);
    }

    public int wouldScore(int first) throws IllegalArgumentException, IllegalStateException {
        if (first < 0 || first > HAND_AT_MOST) {
            throw new IllegalArgumentException("no such number of TRICKS");
        }
        if (!auction.isSettled() || first > cards.size) {
            throw new IllegalStateException("no CONTRACT, or fewer CARDS than that");
        }
        boolean isDeclaredBySide0 = sideOf(auction.declarer()) == 0;
        int declared = auction.scoreFor(isDeclaredBySide0 ? first : cards.size - first);
        return isDeclaredBySide0 ? declared : -declared;
    }

    public long digest() {
        long d = 968L;
        for (int what = 0; what <= 7; what++) {
            d = mix(d, now(what));
        }
        for (int what = 0; what <= 3; what++) {
            d = mix(d, contract(what));
        }
        for (int k = 0; k < auction.count; k++) {
            d = mix(d, auction.at(k));
        }
        d = mixTricks(d);
        d = mixSides(d);
        d = mixHands(d);
        d = mix(d, best());
        d = mix(d, bestCard());
        for (int trump = 0; trump < TRUMPS; trump++) {
            d = mix(d, bestIn(trump));
        }
        return d;
    }

    // ---- the digest's parts

    private static long mix(long d, int v) {
        return d * 31L + (long) v;
    }

    private long mixTricks(long start) {
        long d = start;
        for (int trick = 0; trick < cards.ended(); trick++) {
            for (int what = 0; what <= 5; what++) {
                d = mix(d, trick(trick, what));
            }
        }
        return d;
    }

    private long mixSides(long start) {
        long d = start;
        for (int side = 0; side <= 1; side++) {
            for (int what = 0; what <= 2; what++) {
                d = mix(d, side(side, what));
            }
        }
        return d;
    }

    private long mixHands(long start) {
        long d = start;
        for (int player = 0; player < PLAYERS; player++) {
            for (int suit = 0; suit <= SUITS; suit++) {
                for (int what = 0; what <= 2; what++) {
                    d = mix(d, hand(player, suit, what));
                }
            }
        }
        return d;
    }

    // ---- what several calls check

    private static boolean isCard(int card) {
        return card >= 0 && card < CARDS;
    }

    private static void checkPlayer(int player) {
        if (player < 0 || player >= PLAYERS) {
            throw new IndexOutOfBoundsException("no such PLAYER");
        }
    }

    private static void checkCard(int card) {
        if (!isCard(card)) {
            throw new IndexOutOfBoundsException("no such CARD");
        }
    }

    private static void checkBid(int bid) {
        if (bid < PASS || bid > REDOUBLE) {
            throw new IllegalArgumentException("no such BID");
        }
    }

    private void checkPlayable(int card) {
        if (state != PLAYING || !contains(cards.heldBy(cards.turn), card)) {
            throw new IllegalStateException("not in the STATE 2, or the CARD is not in that HAND");
        }
    }

    // ---- how the table goes on

    private boolean isBidAllowed(int bid) {
        return state == BIDDING && auction.allows(bid);
    }

    private int turnNow() {
        if (state == BIDDING) {
            return auction.turn();
        }
        return state == PLAYING ? cards.turn : NONE;
    }

    private int revokersOf(int side) {
        int revokers = 0;
        for (int player = side; player < PLAYERS; player += 2) {
            if (cards.hasRevoked(player)) {
                revokers++;
            }
        }
        return revokers;
    }

    private void finishDeal() {
        for (int player = 0; player < PLAYERS; player++) {
            if (cards.hasRevoked(player)) {
                payForRevoke(player);
            }
        }
        int declaring = sideOf(auction.declarer());
        int declared = auction.scoreFor(taken[declaring]);
        if (declared >= 0) {
            scores[declaring] += declared;
        } else {
            scores[1 - declaring] -= declared;
        }
        dealsOver++;
        state = OVER;
    }

    private void payForRevoke(int player) {
        int payer = sideOf(player);
        if (taken[payer] > 0) {
            taken[payer]--;
            taken[1 - payer]++;
        }
    }

    // ---- the best play

    private boolean hasBestPlay() {
        return state == PLAYING && cards.areAtMost(OPEN_HAND_AT_MOST);
    }

    private int bestBehind(int card) {
        trial.copyFrom(cards);
        int got = countForSide0(trial.put(card));
        return got + mostOfSide0(trial);
    }

    /** How many of the TRICKS that are not ended the SIDE 0 gets with the best play. */
    private static int mostOfSide0(Cards table) {
        int most = 0;
        for (int need = 1; need <= OPEN_HAND_AT_MOST; need++) {
            if (!doesSide0Get(table, need, OPEN_CARDS_AT_MOST)) {
                return most;
            }
            most = need;
        }
        return most;
    }

    /** Whether the SIDE 0 can get so many of the TRICKS that are not ended, whatever the other does. */
    private static boolean doesSide0Get(Cards table, int need, int depth) {
        if (need <= 0) {
            return true;
        }
        if (need > table.tricksLeft() || depth <= 0) {
            return false;
        }
        // One CARD that gets them is enough for the SIDE 0, one that spoils them for the other.
        boolean wish = sideOf(table.turn) == 0;
        int rest = table.rightCards();
        for (int k = 0; k < OPEN_HAND_AT_MOST && rest != 0; k++) {
            int card = smallest(rest);
            rest = without(rest, card);
            int got = countForSide0(table.put(card));
            boolean gets = doesSide0Get(table, need - got, depth - 1);
            table.takeBack();
            if (gets == wish) {
                return wish;
            }
        }
        return !wish;
    }

    private static int countForSide0(int taker) {
        return taker != NONE && sideOf(taker) == 0 ? 1 : 0;
    }

    // ---- players, and sets of cards as the bits of a number

    private static int sideOf(int player) {
        return player & 1;
    }

    private static int nextOf(int player) {
        return (player + 1) & 3;
    }

    private static boolean contains(int set, int card) {
        return ((set >>> card) & 1) == 1;
    }

    private static int with(int set, int card) {
        return set | (1 << card);
    }

    private static int without(int set, int card) {
        return set & ~(1 << card);
    }

    private static int wholeSuit(int suit) {
        return 255 << (RANKS * suit);
    }

    private static int smallest(int set) {
        return set == 0 ? NONE : Integer.numberOfTrailingZeros(set);
    }

    private static int greatest(int set) {
        return set == 0 ? NONE : CARDS - 1 - Integer.numberOfLeadingZeros(set);
    }

    /** The BIDS of a deal. */
    private static final class Auction {
        private final int[] bids = new int[BIDS_AT_MOST];
        private int count = 0;
        private int dealer = 0;
        private int lastLevel = 0;
        private int lastBidder = 0;
        private int times = 1;
        private int passes = 0;

        void clear(int newDealer) {
            count = 0;
            dealer = newDealer;
            lastLevel = 0;
            lastBidder = 0;
            times = 1;
            passes = 0;
        }

        int bidderAt(int k) {
            return (dealer + k) & 3;
        }

        int turn() {
            return bidderAt(count);
        }

        int at(int k) {
            return k >= 0 && k < count && k < bids.length ? bids[k] : NONE;
        }

        boolean allows(int bid) {
            if (bid == PASS) {
                return true;
            }
            if (bid <= LEVELS) {
                return bid > lastLevel;
            }
            if (lastLevel == 0) {
                return false;
            }
            boolean isOwn = sideOf(turn()) == sideOf(lastBidder);
            return bid == DOUBLE ? !isOwn && times == 1 : isOwn && times == 2;
        }

        void add(int bid) {
            if (count < 0 || count >= bids.length) {
                return;
            }
            if (bid == PASS) {
                passes++;
            } else {
                passes = 0;
                addCall(bid);
            }
            bids[count] = bid;
            count++;
        }

        private void addCall(int bid) {
            if (bid <= LEVELS) {
                lastLevel = bid;
                lastBidder = turn();
                times = 1;
            } else {
                times = bid == DOUBLE ? 2 : 4;
            }
        }

        boolean isPassedOut() {
            return lastLevel == 0 && passes >= 4;
        }

        boolean isSettled() {
            return lastLevel > 0 && passes >= 3;
        }

        int level() {
            return (lastLevel - 1) / TRUMPS + 1;
        }

        int trump() {
            return trumpOf(lastLevel);
        }

        private static int trumpOf(int bid) {
            return (bid - 1) % TRUMPS;
        }

        int declarer() {
            for (int k = 0; k < count; k++) {
                int bid = at(k);
                boolean isLevel = bid > PASS && bid <= LEVELS;
                boolean isOfSide = sideOf(bidderAt(k)) == sideOf(lastBidder);
                if (isLevel && isOfSide && trumpOf(bid) == trump()) {
                    return bidderAt(k);
                }
            }
            return NONE;
        }

        /** What the SIDE of the DECLARER scores with so many TRICKS; below 0, what the other SIDE scores. */
        int scoreFor(int tricks) {
            int level = level();
            if (tricks < level) {
                return -50 * times * (level - tricks);
            }
            int bonus = level >= 6 ? 50 : 0;
            return times * level * worthOf(trump()) + 20 * times * (tricks - level) + bonus;
        }

        private static int worthOf(int trump) {
            if (trump >= SUITS) {
                return 40;
            }
            return trump >= 2 ? 30 : 20;
        }
    }

    /** The HANDS, and the CARDS that were played from them, in their order. */
    private static final class Cards {
        private final int[] hands = new int[PLAYERS];
        private final int[] playedCards = new int[CARDS];
        // Who led each TRICK; one more, as who got the last one stands behind it.
        private final int[] leaders = new int[HAND_AT_MOST + 1];
        private int size = 0;
        private int played = 0;
        private int revokes = 0;
        private int trump = SUITS;
        private int turn = 0;

        void clear() {
            for (int player = 0; player < PLAYERS; player++) {
                hands[player] = 0;
            }
            size = 0;
            played = 0;
            revokes = 0;
        }

        void copyFrom(Cards other) {
            System.arraycopy(other.hands, 0, hands, 0, PLAYERS);
            System.arraycopy(other.playedCards, 0, playedCards, 0, CARDS);
            System.arraycopy(other.leaders, 0, leaders, 0, HAND_AT_MOST + 1);
            size = other.size;
            played = other.played;
            revokes = other.revokes;
            trump = other.trump;
            turn = other.turn;
        }

        void start(int leader, int newTrump) {
            leaders[0] = leader;
            turn = leader;
            trump = newTrump;
        }

        int heldBy(int player) {
            return hands[player & 3];
        }

        int count(int player) {
            return Integer.bitCount(heldBy(player));
        }

        void add(int player, int card) {
            hands[player & 3] = with(heldBy(player), card);
        }

        boolean isHeld(int card) {
            return contains(hands[0] | hands[1] | hands[2] | hands[3], card);
        }

        boolean areAllEmpty() {
            return areAtMost(0);
        }

        boolean areAtMost(int most) {
            for (int player = 0; player < PLAYERS; player++) {
                if (count(player) > most) {
                    return false;
                }
            }
            return true;
        }

        boolean areReady() {
            for (int player = 1; player < PLAYERS; player++) {
                if (count(player) != count(0)) {
                    return false;
                }
            }
            return count(0) > 0;
        }

        int ended() {
            return played / PLAYERS;
        }

        int lying() {
            return played % PLAYERS;
        }

        int tricksLeft() {
            return size - ended();
        }

        int leaderOf(int trick) {
            return trick >= 0 && trick < leaders.length ? leaders[trick] : NONE;
        }

        private int playedAt(int place) {
            return place >= 0 && place < playedCards.length ? playedCards[place] : NONE;
        }

        private int playerAt(int place) {
            return (leaderOf(place / PLAYERS) + place % PLAYERS) & 3;
        }

        int cardIn(int trick, int player) {
            int placeInTrick = (player - leaderOf(trick)) & 3;
            return playedAt(PLAYERS * trick + placeInTrick);
        }

        /** Who gets that TRICK by its first CARDS, so many; NONE without any. */
        int takerOf(int trick, int many) {
            int taker = NONE;
            int top = NONE;
            for (int k = 0; k < many; k++) {
                int card = playedAt(PLAYERS * trick + k);
                if (taker == NONE || beats(card, top)) {
                    taker = (leaderOf(trick) + k) & 3;
                    top = card;
                }
            }
            return taker;
        }

        private boolean beats(int card, int top) {
            int suit = card / RANKS;
            return suit == top / RANKS ? card > top : suit == trump;
        }

        int rightCards() {
            int held = heldBy(turn);
            if (lying() == 0) {
                return held;
            }
            int led = playedAt(PLAYERS * ended()) / RANKS;
            int following = held & wholeSuit(led);
            return following == 0 ? held : following;
        }

        /** Plays a CARD of the HAND whose turn it is; answers who got the TRICK, NONE if it is not ended. */
        int put(int card) {
            if (played < 0 || played >= playedCards.length) {
                return NONE;
            }
            int trick = ended();
            if (!contains(rightCards(), card)) {
                revokes = with(revokes, played);
            }
            hands[turn & 3] = without(heldBy(turn), card);
            playedCards[played] = card;
            played++;
            if (lying() != 0) {
                turn = nextOf(turn);
                return NONE;
            }
            turn = takerOf(trick, PLAYERS);
            if (trick >= 0 && trick + 1 < leaders.length) {
                leaders[trick + 1] = turn;
            }
            return turn;
        }

        /** Takes the last CARD back, of an ended TRICK too: the search for the best play needs that. */
        int takeBack() {
            if (played <= 0) {
                return NONE;
            }
            played--;
            int card = playedAt(played);
            turn = playerAt(played);
            add(turn, card);
            revokes = without(revokes, played);
            return card;
        }

        boolean hasRevoked(int player) {
            for (int place = 0; place < played; place++) {
                if (contains(revokes, place) && playerAt(place) == player) {
                    return true;
                }
            }
            return false;
        }
    }
}
