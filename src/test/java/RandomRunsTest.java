/** Promises 1 to 25: runs of 512 calls, on the class and on PlainTable, with the same answers. */
public final class RandomRunsTest {
    private static final int CALLS = 512;
    private static final String[] NAMES = {
        "begin", "deal", "give", "open", "has", "hand", "bid", "canBid", "bidAt", "contract", "play", "back",
        "isRight", "trick", "now", "side", "meanScore", "wouldGet", "best", "bestWith", "bestCard", "bestIn",
        "wouldScore", "digest",
    };

    private final PepperboxTable table = new PepperboxTable();
    private final PlainTable plain = new PlainTable();
    private final java.util.Random random;
    private final int seed;
    private final int most;

    private RandomRunsTest(int seed) {
        this.seed = seed;
        random = new java.util.Random(seed);
        // Short deals reach the end, and the best play, more often.
        most = seed % 3 == 0 ? 8 : seed % 3 == 1 ? 4 : 3;
    }

    public static void main(String[] args) {
        int runs = args.length > 0 ? Integer.parseInt(args[0]) : 400;
        for (int seed = 0; seed < runs; seed++) {
            new RandomRunsTest(seed).run();
        }
        Due.end("RandomRunsTest");
    }

    private void run() {
        for (int k = 0; k < CALLS; k++) {
            int kind = random.nextInt(100);
            if (kind < 55) {
                goOn(k);
            } else if (kind < 92) {
                ask(k);
            } else {
                call(k, "digest", 0, 0, 0);
            }
        }
    }

    /** A call that brings the deal on, most often. */
    private void goOn(int k) {
        int state = (int) plain.now(0);
        if (random.nextInt(60) == 0 || state == 3 && random.nextInt(3) == 0) {
            call(k, "begin", any(4), 0, 0);
        } else if (state == 0) {
            fill(k);
        } else if (state == 1) {
            call(k, "bid", aBid(), 0, 0);
        } else if (random.nextInt(7) == 0) {
            call(k, "back", 0, 0, 0);
        } else {
            call(k, "play", aCard(), 0, 0);
        }
    }

    private void fill(int k) {
        if (random.nextInt(3) == 0) {
            call(k, "open", 0, 0, 0);
        } else if (random.nextInt(4) > 0) {
            call(k, "deal", random.nextInt(32), 2 * random.nextInt(16) + 1, 1 + random.nextInt(most));
        } else {
            call(k, "give", any(4), random.nextInt(32), 0);
        }
    }

    private int aBid() {
        int kind = random.nextInt(10);
        if (kind < 5) {
            return 0;
        }
        if (kind < 6) {
            return 41 + random.nextInt(2);
        }
        return kind < 9 ? 1 + random.nextInt(1 + random.nextInt(40)) : any(43);
    }

    /** A CARD in the HAND whose turn it is, rightly or not; seldom another. */
    private int aCard() {
        int turn = (int) plain.now(2);
        if (turn >= 0 && random.nextInt(20) > 0) {
            boolean rightly = random.nextInt(5) > 0;
            int start = random.nextInt(32);
            for (int k = 0; k < 32; k++) {
                int card = (start + k) % 32;
                if (plain.has(turn, card) == 1 && (!rightly || plain.isRight(card) == 1)) {
                    return card;
                }
            }
        }
        return any(32);
    }

    private int any(int below) {
        int kind = random.nextInt(40);
        if (kind == 0) {
            return -1;
        }
        if (kind == 1) {
            return below;
        }
        if (kind == 2) {
            return random.nextInt();
        }
        return kind == 3 ? (random.nextBoolean() ? Integer.MIN_VALUE : Integer.MAX_VALUE) : random.nextInt(below);
    }

    private void ask(int k) {
        String name = NAMES[random.nextInt(NAMES.length)];
        switch (name) {
            case "begin", "open", "bid", "play", "back" -> call(k, "now", any(8), 0, 0);
            case "deal" -> call(k, name, any(32), any(32), any(9));
            case "give" -> call(k, name, any(4), any(32), 0);
            case "has" -> call(k, name, any(4), any(32), 0);
            case "hand" -> call(k, name, any(4), any(5), any(3));
            case "canBid" -> call(k, name, any(43), 0, 0);
            case "bidAt" -> call(k, name, any(1 + (int) plain.now(3)), 0, 0);
            case "contract" -> call(k, name, any(4), 0, 0);
            case "trick" -> call(k, name, any(1 + (int) plain.now(4)), any(6), 0);
            case "side" -> call(k, name, any(2), any(3), 0);
            case "wouldGet", "bestWith", "isRight" -> call(k, name, aCard(), 0, 0);
            case "bestIn" -> call(k, name, any(5), 0, 0);
            case "wouldScore" -> call(k, name, any(9), 0, 0);
            default -> call(k, name, any(8), 0, 0);
        }
    }

    private void call(int k, String name, int a, int b, int c) {
        String due = answer(() -> onPlain(name, a, b, c));
        String got = answer(() -> onTable(name, a, b, c));
        if (!due.equals(got)) {
            Due.wrong("run " + seed + " call " + k + ": " + name + "(" + a + ", " + b + ", " + c + ")",
                    "answered " + got + ", due is " + due);
        }
    }

    private static String answer(Due.Call call) {
        try {
            return Long.toString(call.answer());
        } catch (RuntimeException e) {
            return e.getClass().getName();
        }
    }

    private long onTable(String name, int a, int b, int c) {
        return switch (name) {
            case "begin" -> table.begin(a);
            case "deal" -> table.deal(a, b, c);
            case "give" -> table.give(a, b);
            case "open" -> table.open();
            case "has" -> table.has(a, b) ? 1 : 0;
            case "hand" -> table.hand(a, b, c);
            case "bid" -> table.bid(a);
            case "canBid" -> table.canBid(a) ? 1 : 0;
            case "bidAt" -> table.bidAt(a);
            case "contract" -> table.contract(a);
            case "play" -> table.play(a);
            case "back" -> table.back();
            case "isRight" -> table.isRight(a) ? 1 : 0;
            case "trick" -> table.trick(a, b);
            case "now" -> table.now(a);
            case "side" -> table.side(a, b);
            case "meanScore" -> Double.doubleToLongBits(table.meanScore());
            case "wouldGet" -> table.wouldGet(a);
            case "best" -> table.best();
            case "bestWith" -> table.bestWith(a);
            case "bestCard" -> table.bestCard();
            case "bestIn" -> table.bestIn(a);
            case "wouldScore" -> table.wouldScore(a);
            default -> table.digest();
        };
    }

    private long onPlain(String name, int a, int b, int c) {
        return switch (name) {
            case "begin" -> plain.begin(a);
            case "deal" -> plain.deal(a, b, c);
            case "give" -> plain.give(a, b);
            case "open" -> plain.open();
            case "has" -> plain.has(a, b);
            case "hand" -> plain.hand(a, b, c);
            case "bid" -> plain.bid(a);
            case "canBid" -> plain.canBid(a);
            case "bidAt" -> plain.bidAt(a);
            case "contract" -> plain.contract(a);
            case "play" -> plain.play(a);
            case "back" -> plain.back();
            case "isRight" -> plain.isRight(a);
            case "trick" -> plain.trick(a, b);
            case "now" -> plain.now(a);
            case "side" -> plain.side(a, b);
            case "meanScore" -> Double.doubleToLongBits(plain.meanScore());
            case "wouldGet" -> plain.wouldGet(a);
            case "best" -> plain.best();
            case "bestWith" -> plain.bestWith(a);
            case "bestCard" -> plain.bestCard();
            case "bestIn" -> plain.bestIn(a);
            case "wouldScore" -> plain.wouldScore(a);
            default -> plain.digest();
        };
    }
}
