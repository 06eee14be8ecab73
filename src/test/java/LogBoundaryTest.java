import java.util.List;

/** Promises 1 to 6: the boundaries that the document names for logs, views, and the letters made of them. */
public final class LogBoundaryTest {
    public static void main(String[] args) {
        Checks.run(LogBoundaryTest.class, 1, 6);
    }

    private static final Scene NEW = new Scene(x -> { });
    private static final Scene NINE = new Scene(x -> Play.grow(x, 1, 0, 9, 0));
    private static final Scene EIGHTY = new Scene(x -> Play.grow(x, 1, 0, 80, 0));
    private static final Scene SIXTY_LETTERS = NINE.then(x -> {
        for (int i = 0; i < 60; i++) x.head(1, 0, i % 10);
    });

    private static final int[] SIZES = {1, 2, 3, 4, 5, 7, 8, 9, 15, 16, 17, 31, 32, 33, 63, 64, 65, 79, 80};

    private static byte[] proofBytes(int m, int n) {
        byte[] start = Model.all(Model.one(1), Model.four(m), Model.four(n), Model.root(Play.numbers(m)));
        return Model.all(start, Model.subproof(m, Play.numbers(n), true));
    }

    private static byte[] pathBytes(int n, int i) {
        byte[] start = Model.all(Model.one(1), Model.four(n), Model.four(i), Model.four(i));
        return Model.all(start, Model.pathOf(i, Play.numbers(n)));
    }

    // ---- promise 1: Logs without leaves, KEYS by a seed.

    static void promise01_logsHaveNoLeaves() {
        Watch x = NEW.made();
        for (int log = 0; log < 4; log++) {
            for (int view = 0; view < 2; view++) Checks.due("leaves", x.leaves(log, view), 0);
        }
    }

    static void promise01_thereIsNothingYet() {
        Watch x = NEW.made();
        Checks.due("letters", x.letters(), 0);
        Checks.due("a letter", x.letter(0, -1), -1);
        Checks.due("desk", x.desk(0), -1);
        for (int monitor = 0; monitor < 4; monitor++) {
            for (int what = 0; what < 5; what++) Checks.due("holds", x.holds(monitor, what), 0);
            Checks.due("held", x.held(monitor, 0, 0), -1);
            Checks.due("fact", x.fact(monitor, 0, 0), -1);
            Checks.due("record", x.record(monitor, 0, 0), -1);
        }
    }

    static void promise01_eachByteOfTheSeedCounts() {
        for (int shift = 0; shift < 64; shift++) dueKeysOf(1L << shift);
        for (long seed : new long[] {0L, -1L, Long.MIN_VALUE, Long.MAX_VALUE, 0x0102030405060708L}) dueKeysOf(seed);
    }

    private static void dueKeysOf(long seed) {
        Watch x = new Watch(seed);
        for (int log = 0; log < 4; log++) {
            byte[] want = Model.all(Model.one(log), Play.signed(seed, log, 0, Model.sha()));
            Checks.dueBytes("a head of seed " + seed, Play.bytesOf(x, x.head(log, 0, 0)), want);
        }
    }

    static void promise01_bothViewsOfALogHaveOneKey() {
        Watch x = NEW.made();
        Checks.dueBytes("head", Play.bytesOf(x, x.head(3, 0, 0)), Play.bytesOf(x, x.head(3, 1, 0)));
    }

    /** An object is used for at most 512 calls: the last of them is answered like any other. */
    static void promise01_the512thCallIsAnsweredAsTold() {
        Watch x = NEW.made();
        for (int view = 0; view < 6; view++) {
            for (int i = 1; i <= 80; i++) Checks.due("append", x.append(view / 2, view % 2, i), i);
        }
        for (int i = 0; i < 30; i++) Checks.due("head", x.head(2, 1, 80 - i), i);
        Checks.due("take", x.take(3, 29), 1);
        Checks.due("calls left", x.callsLeft(), 1);
        Checks.due("the 512th", x.held(3, 0, 4), 51);
    }

    // ---- promise 2: append

    static void promise02_theFirstLeafAnswersOne() {
        for (int log = 0; log < 4; log++) {
            int l = log;
            for (int view = 0; view < 2; view++) {
                int v = view;
                NEW.answers("append", x -> x.append(l, v, 5), 1);
                NEW.then(x -> x.append(l, v, 5)).answers("leaves", x -> x.leaves(l, v), 1);
            }
        }
    }

    static void promise02_theEightiethLeafIsTaken() {
        Scene scene = new Scene(x -> Play.grow(x, 1, 0, 79, 0));
        scene.answers("append", x -> x.append(1, 0, 79), 80);
        Watch x = scene.made();
        x.append(1, 0, 79);
        Checks.due("leaves", x.leaves(1, 0), 80);
        Checks.dueBytes("head", Play.bytesOf(x, x.head(1, 0, 80)), Play.headBytes(1, 80, Model.root(Play.numbers(80))));
    }

    static void promise02_theEightyFirstIsNoneDoingNothing() {
        EIGHTY.keeps("append", x -> x.append(1, 0, 80), -1);
        EIGHTY.keeps("append twice", x -> Math.max(x.append(1, 0, 80), x.append(1, 0, 81)), -1);
    }

    static void promise02_aFullViewLeavesTheOthersFree() {
        for (int log = 0; log < 4; log++) {
            int l = log;
            EIGHTY.answers("the other view", x -> x.append(l, 1, 5), 1);
            if (log != 1) EIGHTY.answers("another log", x -> x.append(l, 0, 5), 1);
        }
    }

    static void promise02_allViewsMayHaveEighty() {
        for (int pair = 0; pair < 4; pair++) {
            int log = pair;
            Watch x = new Watch(Scene.SEED);
            for (int view = 0; view < 2; view++) {
                for (int i = 1; i <= 80; i++) Checks.due("append", x.append(log, view, i), i);
                Checks.due("append", x.append(log, view, 81), -1);
            }
        }
    }

    static void promise02_noSuchLogIsNoneDoingNothing() {
        for (int log : Play.NOT_A_LOG) {
            NINE.keeps("append to log " + log, x -> x.append(log, 0, 5), -1);
            NINE.keeps("append to log " + log, x -> x.append(log, 1, 5), -1);
        }
    }

    static void promise02_noSuchViewIsNoneDoingNothing() {
        for (int view : Play.NOT_A_VIEW) {
            for (int log = 0; log < 4; log++) {
                int l = log;
                NINE.keeps("append to view " + view, x -> x.append(l, view, 5), -1);
            }
        }
    }

    static void promise02_aLeafMayBeAnyNumber() {
        int[] leaves = {Play.MIN, Play.MAX, -1, 0, 1, 0x01020304, 0x80, 0xff, 0x8000, -256};
        Watch x = NEW.made();
        for (int i = 0; i < leaves.length; i++) {
            Checks.due("append", x.append(0, 1, leaves[i]), i + 1);
            int letter = x.path(0, 1, i + 1, i);
            byte[] want = Model.four(leaves[i]);
            for (int k = 0; k < 4; k++) Checks.due("the leaf, highest byte first", x.letter(letter, 9 + k), want[k] & 255);
            byte[] root = Model.root(List.of(leaves[i]));
            Watch y = NEW.made();
            y.append(2, 0, leaves[i]);
            Checks.dueBytes("head", Play.bytesOf(y, y.head(2, 0, 1)), Play.headBytes(2, 1, root));
        }
    }

    // ---- promise 3: leaves

    static void promise03_anEmptyViewHasZero() {
        NINE.answers("the other view", x -> x.leaves(1, 1), 0);
        NINE.answers("another log", x -> x.leaves(0, 0), 0);
    }

    static void promise03_aFullViewHasEighty() {
        EIGHTY.answers("leaves", x -> x.leaves(1, 0), 80);
        EIGHTY.then(x -> x.append(1, 0, 0)).answers("a refused leaf is none", x -> x.leaves(1, 0), 80);
    }

    static void promise03_noSuchLogIsNone() {
        for (int log : Play.NOT_A_LOG) {
            NINE.keeps("leaves of log " + log, x -> x.leaves(log, 0), -1);
            NINE.keeps("leaves of log " + log, x -> x.leaves(log, 1), -1);
        }
    }

    static void promise03_noSuchViewIsNone() {
        for (int view : Play.NOT_A_VIEW) {
            for (int log = 0; log < 4; log++) {
                int l = log;
                NINE.keeps("leaves of view " + view, x -> x.leaves(l, view), -1);
            }
        }
    }

    // ---- promise 4: head

    static void promise04_theRootOfNoLeavesIsTheHashOfNothing() {
        for (Scene scene : new Scene[] {NEW, NINE}) {
            Watch x = scene.made();
            Checks.dueBytes("head of 0", Play.bytesOf(x, x.head(1, 0, 0)), Play.headBytes(1, 0, Model.sha()));
        }
    }

    static void promise04_theRootOfOneLeaf() {
        Watch x = NINE.made();
        byte[] root = Model.sha(Model.one(0), Model.four(0));
        Checks.dueBytes("head of 1", Play.bytesOf(x, x.head(1, 0, 1)), Play.headBytes(1, 1, root));
    }

    static void promise04_aPowerOfTwoIsSplitInHalves() {
        Watch x = NINE.made();
        byte[] a = Model.root(Play.numbers(4));
        byte[] b = Model.root(List.of(4, 5, 6, 7));
        Checks.dueBytes("head of 8", Play.bytesOf(x, x.head(1, 0, 8)), Play.headBytes(1, 8, Model.pair(a, b)));
    }

    static void promise04_oneMoreThanAPowerOfTwoIsSplitThere() {
        Watch x = NINE.made();
        byte[] root = Model.pair(Model.root(Play.numbers(8)), Model.root(List.of(8)));
        Checks.dueBytes("head of 9", Play.bytesOf(x, x.head(1, 0, 9)), Play.headBytes(1, 9, root));
    }

    static void promise04_nMayBeZeroToAllItsLeaves() {
        for (int n = 0; n <= 80; n++) {
            Watch x = EIGHTY.made();
            Checks.due("head of " + n, x.head(1, 0, n), 0);
            Checks.dueBytes("head of " + n, Play.bytesOf(x, 0), Play.headBytes(1, n, Model.root(Play.numbers(n))));
        }
    }

    static void promise04_nAboveItsLeavesIsNoneDoingNothing() {
        NEW.keeps("head of 1 of an empty view", x -> x.head(1, 0, 1), -1);
        NINE.keeps("head of 10 of 9", x -> x.head(1, 0, 10), -1);
        NINE.keeps("head of 1 of the other view", x -> x.head(1, 1, 1), -1);
        NINE.keeps("head of the greatest number", x -> x.head(1, 0, Play.MAX), -1);
        EIGHTY.keeps("head of 81 of 80", x -> x.head(1, 0, 81), -1);
    }

    static void promise04_nBelowZeroIsNoneDoingNothing() {
        for (int n : new int[] {-1, -2, -9, Play.MIN}) NINE.keeps("head of " + n, x -> x.head(1, 0, n), -1);
        NEW.keeps("head of -1 of an empty view", x -> x.head(1, 0, -1), -1);
    }

    static void promise04_noSuchLogOrViewIsNoneDoingNothing() {
        for (int log : Play.NOT_A_LOG) NINE.keeps("head of log " + log, x -> x.head(log, 0, 0), -1);
        for (int log : Play.NOT_A_LOG) NINE.keeps("head of log " + log, x -> x.head(log, 1, 0), -1);
        for (int view : Play.NOT_A_VIEW) NINE.keeps("head of view " + view, x -> x.head(1, view, 0), -1);
        for (int view : Play.NOT_A_VIEW) NINE.keeps("head of view " + view, x -> x.head(3, view, 0), -1);
    }

    static void promise04_theSixtiethLetterIsNumberFiftyNine() {
        Scene scene = NINE.then(x -> {
            for (int i = 0; i < 59; i++) Checks.due("head", x.head(1, 0, i % 10), i);
        });
        scene.answers("the 60th", x -> x.head(1, 0, 9), 59);
    }

    static void promise04_theSixtyFirstIsNoneDoingNothing() {
        SIXTY_LETTERS.keeps("head", x -> x.head(1, 0, 5), -1);
        SIXTY_LETTERS.then(x -> x.clear()).answers("there is room again", x -> x.head(1, 0, 5), 0);
    }

    static void promise04_theHeadIsSigned() {
        for (int log = 0; log < 4; log++) {
            for (int view = 0; view < 2; view++) {
                Watch x = NEW.made();
                x.append(log, view, 77);
                for (int n = 0; n < 2; n++) Checks.due("take", x.take(0, x.head(log, view, n)), 1);
            }
        }
    }

    static void promise04_aHeadIsALetterMoreAndNothingElse() {
        NINE.keeps("head, then clear", x -> x.head(1, 0, 5) + x.clear(), 1);
    }

    // ---- promise 5: proof

    static void promise05_mMayBeOneToBelowN() {
        for (int n : SIZES) {
            for (int m = 1; m < n; m++) {
                Watch x = EIGHTY.made();
                Checks.due("proof of " + m + " to " + n, x.proof(1, 0, m, n), 0);
                Checks.due("kind", x.letter(0, -1), 1);
                Checks.dueBytes("proof of " + m + " to " + n, Play.bytesOf(x, 0), proofBytes(m, n));
            }
        }
    }

    static void promise05_mNotAboveZeroIsNoneDoingNothing() {
        for (int m : new int[] {0, -1, -9, Play.MIN}) {
            for (int n : new int[] {9, 1, 0}) {
                NINE.keeps("proof of " + m + " to " + n, x -> x.proof(1, 0, m, n), -1);
            }
        }
    }

    static void promise05_mNotBelowNIsNoneDoingNothing() {
        int[][] pairs = {{9, 9}, {1, 1}, {9, 8}, {2, 1}, {1, 0}, {10, 9}, {Play.MAX, 9}, {1, -1}, {1, Play.MIN}, {8, 8}};
        for (int[] p : pairs) NINE.keeps("proof of " + p[0] + " to " + p[1], x -> x.proof(1, 0, p[0], p[1]), -1);
    }

    static void promise05_nAboveItsLeavesIsNoneDoingNothing() {
        NINE.answers("proof to 9 of 9", x -> x.proof(1, 0, 3, 9), 0);
        NINE.keeps("proof to 10 of 9", x -> x.proof(1, 0, 3, 10), -1);
        NINE.keeps("proof to the greatest number", x -> x.proof(1, 0, 3, Play.MAX), -1);
        NINE.keeps("proof of the other view", x -> x.proof(1, 1, 1, 2), -1);
        EIGHTY.answers("proof to 80 of 80", x -> x.proof(1, 0, 3, 80), 0);
        EIGHTY.keeps("proof to 81 of 80", x -> x.proof(1, 0, 3, 81), -1);
    }

    static void promise05_noSuchLogOrViewIsNoneDoingNothing() {
        for (int log : Play.NOT_A_LOG) NINE.keeps("proof of log " + log, x -> x.proof(log, 0, 1, 2), -1);
        for (int view : Play.NOT_A_VIEW) NINE.keeps("proof of view " + view, x -> x.proof(1, view, 1, 2), -1);
        Scene second = new Scene(x -> Play.grow(x, 0, 1, 9, 0));
        for (int view : Play.NOT_A_VIEW) second.keeps("proof of view " + view, x -> x.proof(0, view, 1, 2), -1);
        for (int log : Play.NOT_A_LOG) second.keeps("proof of log " + log, x -> x.proof(log, 1, 1, 2), -1);
    }

    static void promise05_theSixtiethLetterIsTheLast() {
        Scene scene = NINE.then(x -> {
            for (int i = 0; i < 59; i++) x.head(1, 0, 0);
        });
        scene.answers("the 60th", x -> x.proof(1, 0, 3, 9), 59);
        SIXTY_LETTERS.keeps("the 61st", x -> x.proof(1, 0, 3, 9), -1);
        SIXTY_LETTERS.then(x -> x.clear()).answers("there is room again", x -> x.proof(1, 0, 3, 9), 0);
    }

    static void promise05_sixtyOfTheLongestProofs() {
        Scene scene = EIGHTY.then(x -> {
            for (int i = 0; i < 60; i++) Checks.due("proof", x.proof(1, 0, 63, 80), i);
        });
        for (int letter = 0; letter < 60; letter++) {
            Watch x = scene.made();
            Checks.dueBytes("proof " + letter, Play.bytesOf(x, letter), proofBytes(63, 80));
        }
    }

    static void promise05_aProofIsALetterMoreAndNothingElse() {
        NINE.keeps("proof, then clear", x -> x.proof(1, 0, 3, 9) + x.clear(), 1);
    }

    // ---- promise 6: path

    static void promise06_iMayBeZeroToBelowN() {
        for (int n : SIZES) {
            for (int i = 0; i < n; i++) {
                Watch x = EIGHTY.made();
                Checks.due("path of " + i + " of " + n, x.path(1, 0, n, i), 0);
                Checks.due("kind", x.letter(0, -1), 2);
                Checks.dueBytes("path of " + i + " of " + n, Play.bytesOf(x, 0), pathBytes(n, i));
            }
        }
    }

    static void promise06_ofOneLeafThereAreNoHashes() {
        Watch x = NINE.made();
        x.path(1, 0, 1, 0);
        Checks.due("bytes", x.letter(0, -2), 13);
    }

    static void promise06_iBelowZeroIsNoneDoingNothing() {
        for (int i : new int[] {-1, -9, Play.MIN}) {
            for (int n : new int[] {9, 1, 0, -1}) NINE.keeps("path of " + i + " of " + n, x -> x.path(1, 0, n, i), -1);
        }
    }

    static void promise06_iNotBelowNIsNoneDoingNothing() {
        int[][] pairs = {{9, 9}, {8, 8}, {1, 1}, {0, 0}, {-1, 0}, {Play.MIN, 0}, {Play.MIN, Play.MAX}, {9, Play.MAX}, {3, 5}};
        for (int[] p : pairs) NINE.keeps("path of " + p[1] + " of " + p[0], x -> x.path(1, 0, p[0], p[1]), -1);
    }

    static void promise06_nAboveItsLeavesIsNoneDoingNothing() {
        NINE.keeps("path of 10 of 9", x -> x.path(1, 0, 10, 3), -1);
        NINE.keeps("path of leaf 9 of 9", x -> x.path(1, 0, 10, 9), -1);
        NINE.keeps("path of the greatest number", x -> x.path(1, 0, Play.MAX, 3), -1);
        NINE.keeps("path of the other view", x -> x.path(1, 1, 1, 0), -1);
        EIGHTY.keeps("path of 81 of 80", x -> x.path(1, 0, 81, 80), -1);
        EIGHTY.keeps("path of 81 of 80", x -> x.path(1, 0, 81, 0), -1);
    }

    static void promise06_noSuchLogOrViewIsNoneDoingNothing() {
        for (int log : Play.NOT_A_LOG) NINE.keeps("path of log " + log, x -> x.path(log, 0, 1, 0), -1);
        for (int view : Play.NOT_A_VIEW) NINE.keeps("path of view " + view, x -> x.path(1, view, 1, 0), -1);
        Scene second = new Scene(x -> Play.grow(x, 0, 1, 9, 0));
        for (int view : Play.NOT_A_VIEW) second.keeps("path of view " + view, x -> x.path(0, view, 1, 0), -1);
        for (int log : Play.NOT_A_LOG) second.keeps("path of log " + log, x -> x.path(log, 1, 1, 0), -1);
    }

    static void promise06_theSixtiethLetterIsTheLast() {
        Scene scene = NINE.then(x -> {
            for (int i = 0; i < 59; i++) x.head(1, 0, 0);
        });
        scene.answers("the 60th", x -> x.path(1, 0, 9, 3), 59);
        SIXTY_LETTERS.keeps("the 61st", x -> x.path(1, 0, 9, 3), -1);
        SIXTY_LETTERS.then(x -> x.clear()).answers("there is room again", x -> x.path(1, 0, 9, 3), 0);
    }

    static void promise06_aPathIsALetterMoreAndNothingElse() {
        NINE.keeps("path, then clear", x -> x.path(1, 0, 9, 2) + x.clear(), 1);
    }
}
