import java.util.HashMap;
import java.util.List;
import java.util.Map;

/** Promise 13: the boundaries that the document's PART 2 names for what a monitor TAKES. */
public final class TakeBoundaryTest {
    public static void main(String[] args) {
        Checks.run(TakeBoundaryTest.class, 13, 13);
    }

    private static final Scene NEW = new Scene(x -> { });
    private static final Scene NINE = new Scene(x -> Play.grow(x, 1, 0, 9, 0));
    /** Letter 0 is a HEAD of LOG 1. */
    private static final Scene HEAD = NINE.then(x -> x.head(1, 0, 9));
    private static final Scene TAKEN = HEAD.then(x -> x.take(0, 0));
    private static final Scene TWENTY_HEADS = NINE.then(x -> {
        for (int i = 0; i < 20; i++) x.take(0, Play.forge(x, 2, i, 0));
        x.clear();
    });
    /** HEADS 0 and 1 are those of 7 and 9, FACTS 0 and 1 the PROOFS from 4 to them. */
    private static final Scene TWO_FACTS = NINE.then(x -> {
        x.take(0, x.head(1, 0, 7));
        x.take(0, x.head(1, 0, 9));
        x.take(0, x.proof(1, 0, 4, 7));
        x.take(0, x.proof(1, 0, 4, 9));
        x.clear();
    });
    private static final Scene TWELVE_FACTS = new Scene(x -> {
        Play.grow(x, 1, 0, 20, 0);
        x.take(0, x.head(1, 0, 20));
        for (int m = 1; m <= 12; m++) x.take(0, x.proof(1, 0, m, 20));
        x.clear();
    });

    private static final Map<String, Integer> ONE_REFUSED = Map.of("holds(0, 3)", 1);
    private static final Map<String, Integer> ONE_CROWDED = Map.of("holds(0, 4)", 1);

    private static byte[] leafHash(int leaf) {
        return Model.root(List.of(leaf));
    }

    /** Letter 0 is that HEAD, whatever it is, with a SIGN as it is due. */
    private static void putHead(Watch x, int log, int size, byte[] root) {
        int letter = x.head(1, 0, 0);
        Play.putBytes(x, letter, 0, Play.headBytes(log, size, root));
    }

    private static void dueRecord(Watch x, int i, int kind, int first, int other, int fact) {
        int[] want = {kind, first, other, fact};
        for (int what = 0; what < 4; what++) {
            Checks.due("record " + i + ", " + what, x.record(0, i, what), want[what]);
        }
    }

    // ---- -2: no such one

    static void promise13_noSuchMonitorIsMinusTwo() {
        for (int monitor : Play.NOT_A_MONITOR) HEAD.keeps("monitor " + monitor, x -> x.take(monitor, 0), -2);
        for (int monitor = 0; monitor < 4; monitor++) {
            int m = monitor;
            HEAD.answers("monitor " + m, x -> x.take(m, 0), 1);
        }
    }

    static void promise13_noSuchLetterIsMinusTwo() {
        for (int letter : new int[] {-1, -2, 1, 59, 60, Play.MIN, Play.MAX}) {
            HEAD.keeps("letter " + letter, x -> x.take(0, letter), -2);
        }
        NINE.keeps("no letter at all", x -> x.take(0, 0), -2);
        HEAD.then(x -> x.clear()).keeps("a letter that went", x -> x.take(0, 0), -2);
    }

    static void promise13_theSixtiethLetterIsTheLast() {
        Scene sixty = NINE.then(x -> {
            for (int i = 0; i < 60; i++) x.head(1, 0, i % 10);
        });
        sixty.answers("letter 59", x -> x.take(0, 59), 1);
        sixty.keeps("letter 60", x -> x.take(0, 60), -2);
    }

    static void promise13_itStaysALetter() {
        byte[] head = Play.headBytes(1, 9, Model.root(Play.numbers(9)));
        Map<String, Integer> changed = new HashMap<>();
        changed.put("holds(0, 0)", 1);
        for (int k = 0; k < 45; k++) changed.put("held(0, 0, " + k + ")", head[k] & 255);
        HEAD.changes("take", x -> x.take(0, 0), 1, changed);
    }

    // ---- a HEAD: NONE, if it isn't SIGNED

    static void promise13_aHeadWithAnyByteChangedIsNone() {
        for (int k = 0; k < 45; k++) {
            for (int mask : new int[] {1, 128}) {
                int at = k;
                Scene changed = HEAD.then(x -> x.alter(0, at, mask));
                changed.changes("byte " + k, x -> x.take(0, 0), -1, ONE_REFUSED);
            }
        }
    }

    static void promise13_aHeadOfALogAboveThreeIsNone() {
        byte[] root = Model.root(Play.numbers(9));
        for (int log : new int[] {4, 5, 128, 255}) {
            NINE.then(x -> putHead(x, log, 9, root)).changes("log " + log, x -> x.take(0, 0), -1, ONE_REFUSED);
        }
        for (int log = 0; log < 4; log++) {
            int l = log;
            NINE.then(x -> putHead(x, l, 9, root)).answers("log " + log, x -> x.take(0, 0), 1);
        }
    }

    /** A LOG that is none has no KEY: neither none at all nor one of zeros nor another LOG's will do. */
    static void promise13_aHeadOfALogWithoutAKeyIsNone() {
        byte[] sizeAndRoot = Model.all(Model.four(9), Model.root(Play.numbers(9)));
        byte[] lastKey = Model.part(Model.sha(Model.one(3), Model.eight(Scene.SEED), Model.one(3)), 0, 8);
        for (int log : new int[] {4, 5, 128, 255}) {
            for (byte[] key : new byte[][] {{}, new byte[8], lastKey}) {
                byte[] sign = Model.part(Model.sha(Model.one(2), key, Model.one(log), sizeAndRoot), 0, 8);
                Scene scene = NINE.then(x -> {
                    x.head(1, 0, 0);
                    Play.putBytes(x, 0, 0, Model.all(Model.one(log), sizeAndRoot, sign));
                });
                scene.changes("log " + log, x -> x.take(0, 0), -1, ONE_REFUSED);
            }
        }
    }

    static void promise13_aHeadOfASizeBelowZeroIsNone() {
        for (int size : new int[] {-1, -9, Play.MIN}) {
            Scene below = NINE.then(x -> Play.forge(x, 1, size, 0));
            below.changes("size " + size, x -> x.take(0, 0), -1, ONE_REFUSED);
        }
    }

    static void promise13_aHeadOfTheLeastAndTheGreatestSizeIsHeld() {
        for (int size : new int[] {0, 1, 80, 81, Play.MAX}) {
            Watch x = NEW.made();
            Checks.due("size " + size, x.take(0, Play.forge(x, 1, size, 3)), 1);
            for (int k = 0; k < 4; k++) Checks.due("size", x.held(0, 0, 1 + k), size >>> 24 - 8 * k & 255);
        }
    }

    static void promise13_aHeadSignedByAnotherSeedIsNone() {
        byte[] root = Model.root(Play.numbers(9));
        Scene foreign = NINE.then(x -> {
            x.head(1, 0, 0);
            Play.putBytes(x, 0, 1, Play.signed(Scene.SEED + 1, 1, 9, root));
        });
        foreign.changes("take", x -> x.take(0, 0), -1, ONE_REFUSED);
    }

    // ---- 0, if it holds one of the same LOG, SIZE and ROOT

    static void promise13_aKnownHeadIsZeroDoingNothing() {
        TAKEN.keeps("again", x -> x.take(0, 0), 0);
        Scene same = TAKEN.then(x -> {
            Play.grow(x, 1, 1, 9, 0);
            x.head(1, 1, 9);
        });
        same.keeps("the same of the other view", x -> x.take(0, 1), 0);
    }

    static void promise13_anotherMonitorDoesNotKnowIt() {
        for (int monitor = 1; monitor < 4; monitor++) {
            int m = monitor;
            TAKEN.answers("monitor " + m, x -> x.take(m, 0), 1);
        }
    }

    static void promise13_aHeadOfAnotherLogIsNew() {
        for (int log : new int[] {0, 2, 3}) {
            Watch x = TAKEN.made();
            x.alter(0, 0, 1 ^ log);
            x.sign(0);
            Checks.due("take", x.take(0, 0), 1);
            Checks.due("records", x.holds(0, 2), 0);
        }
    }

    static void promise13_aHeadOfAnotherSizeIsNew() {
        for (int k = 1; k < 5; k++) {
            Watch x = TAKEN.made();
            x.alter(0, k, 1);
            x.sign(0);
            Checks.due("take", x.take(0, 0), 1);
            Checks.due("records", x.holds(0, 2), 0);
        }
    }

    static void promise13_aHeadOfAnotherRootIsNewAndRaisesARecord() {
        for (int k = 5; k < 37; k++) {
            Watch x = TAKEN.made();
            x.alter(0, k, 1);
            x.sign(0);
            Checks.due("take", x.take(0, 0), 1);
            Checks.due("records", x.holds(0, 2), 1);
            dueRecord(x, 0, 1, 0, 1, -1);
        }
    }

    // ---- -3, doing nothing, if it holds 20 or there is no room for the RECORDS

    static void promise13_theTwentiethHeadIsHeld() {
        Watch x = NEW.made();
        for (int i = 0; i < 20; i++) Checks.due("head " + i, x.take(0, Play.forge(x, 2, i, 0)), 1);
        Checks.due("heads", x.holds(0, 0), 20);
        Checks.due("the last one's size", x.held(0, 19, 4), 19);
    }

    static void promise13_theTwentyFirstHeadIsMinusThreeDoingNothing() {
        TWENTY_HEADS.then(x -> Play.forge(x, 2, 20, 0)).changes("take", x -> x.take(0, 0), -3, ONE_CROWDED);
        TWENTY_HEADS.then(x -> Play.forge(x, 2, 19, 1)).changes("one that forks", x -> x.take(0, 0), -3, ONE_CROWDED);
        TWENTY_HEADS.then(x -> Play.forge(x, 2, 20, 0)).answers("another monitor", x -> x.take(1, 0), 1);
    }

    static void promise13_aKnownHeadIsZeroThoughTwentyAreHeld() {
        TWENTY_HEADS.then(x -> Play.forge(x, 2, 0, 0)).keeps("the first", x -> x.take(0, 0), 0);
        TWENTY_HEADS.then(x -> Play.forge(x, 2, 19, 0)).keeps("the last", x -> x.take(0, 0), 0);
    }

    static void promise13_anUnsignedHeadIsNoneThoughTwentyAreHeld() {
        Scene unsigned = TWENTY_HEADS.then(x -> x.alter(Play.forge(x, 2, 20, 0), 44, 1));
        unsigned.changes("take", x -> x.take(0, 0), -1, ONE_REFUSED);
    }

    static void promise13_theTwentiethRecordIsRaised() {
        Watch x = NEW.made();
        Play.fork(x, 0, 3, 6, 3, 2, 1);
        Checks.due("records", x.holds(0, 2), 19);
        Checks.due("take", Play.takeForged(x, 0, 3, 103, 9), 1);
        Checks.due("records", x.holds(0, 2), 20);
        dueRecord(x, 19, 1, 11, 12, -1);
    }

    static void promise13_withoutRoomForARecordAHeadIsMinusThreeDoingNothing() {
        Scene twenty = new Scene(x -> {
            Play.fork(x, 0, 3, 6, 3, 2, 2, 1);
            x.clear();
        });
        twenty.answers("records", x -> x.holds(0, 2), 20);
        twenty.then(x -> Play.forge(x, 3, 104, 9)).changes("one record", x -> x.take(0, 0), -3, ONE_CROWDED);
        twenty.then(x -> Play.forge(x, 3, 105, 9)).answers("a head without a record", x -> x.take(0, 0), 1);
        twenty.then(x -> Play.forge(x, 3, 100, 6)).keeps("a known one", x -> x.take(0, 0), 0);
    }

    static void promise13_withoutRoomForAllRecordsNoneIsRaised() {
        Scene eighteen = new Scene(x -> {
            Play.fork(x, 0, 3, 6, 3);
            x.clear();
        });
        eighteen.answers("records", x -> x.holds(0, 2), 18);
        eighteen.then(x -> Play.forge(x, 3, 101, 9)).changes("three", x -> x.take(0, 0), -3, ONE_CROWDED);
        eighteen.then(x -> Play.forge(x, 3, 100, 9)).changes("six", x -> x.take(0, 0), -3, ONE_CROWDED);
    }

    static void promise13_withoutRoomForTheFactsRecordsNoneIsRaised() {
        Scene nineteen = TWO_FACTS.then(x -> {
            Play.fork(x, 0, 3, 6, 3, 2);
            x.clear();
            Play.forge(x, 1, 4, 9);
        });
        nineteen.answers("records", x -> x.holds(0, 2), 19);
        nineteen.changes("two of kind 2", x -> x.take(0, 0), -3, ONE_CROWDED);
        Scene eighteen = TWO_FACTS.then(x -> {
            x.take(0, x.head(1, 0, 4));
            Play.fork(x, 0, 3, 6, 3);
            x.clear();
            Play.forge(x, 1, 4, 9);
        });
        eighteen.answers("records", x -> x.holds(0, 2), 18);
        eighteen.changes("one of kind 1, two of kind 2", x -> x.take(0, 0), -3, ONE_CROWDED);
    }

    static void promise13_theRecordsOfAHeadMayFillTheRoom() {
        Watch x = TWO_FACTS.made();
        x.take(0, x.head(1, 0, 4));
        Play.fork(x, 0, 3, 6, 2, 2);
        Checks.due("records", x.holds(0, 2), 17);
        Checks.due("take", Play.takeForged(x, 0, 1, 4, 9), 1);
        dueRecord(x, 17, 1, 2, 13, -1);
        dueRecord(x, 18, 2, 13, 0, 0);
        dueRecord(x, 19, 2, 13, 1, 1);
    }

    // ---- the RECORDS of a HEAD

    static void promise13_recordsOfAHeadComeByNumbersForksFirst() {
        Watch x = TWO_FACTS.made();
        Play.takeForged(x, 0, 1, 4, 1);
        Play.takeForged(x, 0, 1, 4, 2);
        Checks.due("records", x.holds(0, 2), 5);
        dueRecord(x, 0, 2, 2, 0, 0);
        dueRecord(x, 1, 2, 2, 1, 1);
        dueRecord(x, 2, 1, 2, 3, -1);
        dueRecord(x, 3, 2, 3, 0, 0);
        dueRecord(x, 4, 2, 3, 1, 1);
    }

    static void promise13_aHeadWhoseRootIsTheFactsRaisesNone() {
        Watch x = TWO_FACTS.made();
        Checks.due("take", x.take(0, x.head(1, 0, 4)), 1);
        Checks.due("records", x.holds(0, 2), 0);
    }

    static void promise13_aHeadWhoseRootIsOneByteOffTheFactsRaisesRecords() {
        for (int k = 5; k < 37; k++) {
            Watch x = TWO_FACTS.made();
            x.head(1, 0, 4);
            x.alter(0, k, 128);
            x.sign(0);
            Checks.due("take", x.take(0, 0), 1);
            Checks.due("records", x.holds(0, 2), 2);
        }
    }

    static void promise13_aHeadOfAnotherLogOrSizeThanTheFactsRaisesNone() {
        for (int log : new int[] {0, 2, 3}) {
            Watch x = TWO_FACTS.made();
            Checks.due("log " + log, Play.takeForged(x, 0, log, 4, 1), 1);
            Checks.due("records", x.holds(0, 2), 0);
        }
        for (int size : new int[] {0, 3, 5, 8, 4 + 256, 4 + 65536, 4 + (1 << 24)}) {
            Watch x = TWO_FACTS.made();
            Checks.due("size " + size, Play.takeForged(x, 0, 1, size, 1), 1);
            Checks.due("records", x.holds(0, 2), 0);
        }
    }

    // ---- a PROOF: NONE, if it is ACCEPTED for no HEAD that it holds

    static void promise13_aProofWithoutAHeadIsNone() {
        NINE.then(x -> x.proof(1, 0, 4, 9)).changes("no head", x -> x.take(0, 0), -1, ONE_REFUSED);
        Scene others = NINE.then(x -> {
            x.take(0, x.head(1, 0, 8));
            x.take(0, x.head(1, 0, 4));
            Play.takeForged(x, 0, 1, 9, 1);
            x.clear();
            x.proof(1, 0, 4, 9);
        });
        others.changes("heads of other sizes and roots", x -> x.take(0, 0), -1, ONE_REFUSED);
        TAKEN.then(x -> x.proof(1, 0, 4, 9)).changes("another monitor's", x -> x.take(1, 1), -1, Map.of("holds(1, 3)", 1));
    }

    static void promise13_aProofForAHeadOfAnotherLogIsNone() {
        Scene scene = HEAD.then(x -> {
            x.alter(0, 0, 1 ^ 2);
            x.sign(0);
            x.take(0, 0);
            x.proof(1, 0, 4, 9);
        });
        scene.changes("log 1 for log 2", x -> x.take(0, 1), -1, ONE_REFUSED);
        scene.then(x -> x.alter(1, 0, 1 ^ 2)).answers("log 2 for log 2", x -> x.take(0, 1), 1);
        scene.then(x -> x.alter(1, 0, 1 ^ 4)).changes("log 4", x -> x.take(0, 1), -1, ONE_REFUSED);
    }

    /** From 4 one hash leads to each n of 5 to 8, so that the ROOT may be the same. */
    static void promise13_aProofForAHeadOfAnotherSizeIsNone() {
        for (int n = 5; n <= 8; n++) {
            for (int size = 5; size <= 8; size++) {
                Watch x = oneHash(4, size);
                Play.putNumber(x, 1, 5, n);
                Checks.due("to " + n + " for " + size, x.take(0, 1), n == size ? 1 : -1);
            }
        }
        for (int more : new int[] {1 << 8, 1 << 16, 1 << 24}) {
            Watch x = oneHash(1 << 29, (1 << 29) + 1);
            Play.putNumber(x, 1, 5, (1 << 29) + 1 + more);
            Checks.due("to " + more + " more", x.take(0, 1), -1);
        }
    }

    static void promise13_aProofForAHeadWhoseRootIsOneByteOffIsNone() {
        for (int k = 5; k < 37; k++) {
            Watch x = HEAD.made();
            x.alter(0, k, 128);
            x.sign(0);
            Checks.due("head", x.take(0, 0), 1);
            Checks.due("byte " + k, x.take(0, x.proof(1, 0, 4, 9)), -1);
        }
    }

    static void promise13_aProofForNoneOfTwentyHeadsIsNone() {
        TWENTY_HEADS.then(x -> x.proof(1, 0, 4, 9)).changes("take", x -> x.take(0, 0), -1, ONE_REFUSED);
    }

    static void promise13_aProofWithAnyByteChangedIsNone() {
        for (int m : new int[] {1, 3, 4, 8}) {
            Scene proof = TAKEN.then(x -> x.proof(1, 0, m, 9));
            int bytes = proof.made().letter(1, -2);
            for (int k = 0; k < bytes; k++) {
                for (int mask : new int[] {1, 128}) {
                    int at = k;
                    proof.then(x -> x.alter(1, at, mask)).answers("byte " + k, x -> x.take(0, 1), -1);
                }
            }
            proof.answers("as it was", x -> x.take(0, 1), 1);
        }
    }

    static void promise13_aProofWhoseMIsNotAboveZeroOrNotBelowNIsNone() {
        for (int m : new int[] {0, -1, -4, Play.MIN, 9, 10, 12, Play.MAX}) {
            Scene scene = TAKEN.then(x -> {
                x.proof(1, 0, 4, 9);
                Play.putNumber(x, 1, 1, m);
            });
            scene.changes("m " + m, x -> x.take(0, 1), -1, ONE_REFUSED);
        }
    }

    /** RFC 9162's steps alone would lead from r to the ROOT. */
    static void promise13_aProofFromMToMIsNone() {
        Scene scene = new Scene(x -> {
            Play.grow(x, 1, 0, 3, 0);
            x.take(0, x.head(1, 0, 3));
            x.proof(1, 0, 1, 3);
            byte[] start = Model.all(Model.one(1), Model.four(3), Model.four(3), Model.root(Play.numbers(3)));
            Play.putBytes(x, 1, 0, Model.all(start, leafHash(2), Model.root(Play.numbers(2))));
        });
        scene.changes("from 3 to 3", x -> x.take(0, 1), -1, ONE_REFUSED);
    }

    /** RFC 9162's steps alone would lead from r to the ROOT here too. */
    static void promise13_aProofFromMToLessIsNone() {
        Scene scene = new Scene(x -> {
            Play.grow(x, 1, 0, 3, 0);
            putHead(x, 1, 2, Model.pair(leafHash(1), leafHash(2)));
            x.take(0, 0);
            x.proof(1, 0, 1, 3);
            Play.putBytes(x, 1, 0, Model.all(Model.one(1), Model.four(3), Model.four(2), leafHash(1)));
        });
        scene.answers("the head", x -> x.holds(0, 0), 1);
        scene.changes("from 3 to 2", x -> x.take(0, 1), -1, ONE_REFUSED);
    }

    static void promise13_aProofWithTooFewHashesIsNone() {
        for (int m = 1; m < 9; m++) {
            for (int stay = 0; stay < 5; stay++) {
                Watch x = TAKEN.made();
                x.proof(1, 0, m, 9);
                int hashes = Play.hashesOf(x, 1);
                x.cut(1, stay);
                Checks.due(stay + " of " + hashes + " hashes", x.take(0, 1), stay >= hashes ? 1 : -1);
            }
        }
    }

    /** The one hash from 1 to 2 leads to the ROOT, but not so far up as a tree of 4 asks for. */
    static void promise13_aProofThatEndsTooEarlyIsNone() {
        Scene scene = new Scene(x -> {
            Play.grow(x, 1, 0, 2, 0);
            x.head(1, 0, 2);
            Play.putNumber(x, 0, 1, 4);
            x.sign(0);
            x.take(0, 0);
            x.proof(1, 0, 1, 2);
            Play.putNumber(x, 1, 5, 4);
        });
        scene.answers("the head", x -> x.holds(0, 0), 1);
        scene.changes("from 1 to 4", x -> x.take(0, 1), -1, ONE_REFUSED);
    }

    /** Four hashes from 3 to 4, which asks for three: the fourth is above the ROOT of a tree of 4. */
    static void promise13_aProofWithTooManyHashesIsNone() {
        Scene scene = NINE.then(x -> {
            x.proof(1, 0, 1, 9);
            byte[] bytes = Play.bytesOf(x, 0);
            byte[][] hash = new byte[4][];
            for (int i = 0; i < 4; i++) hash[i] = Model.part(bytes, 41 + 32 * i, 32);
            byte[] r = Model.pair(hash[3], Model.pair(hash[2], hash[0]));
            byte[] root = Model.pair(hash[3], Model.pair(hash[2], Model.pair(hash[0], hash[1])));
            x.clear();
            putHead(x, 1, 4, root);
            x.take(0, 0);
            x.proof(1, 0, 1, 9);
            Play.putBytes(x, 1, 0, Model.all(Model.one(1), Model.four(3), Model.four(4), r));
        });
        scene.answers("the head", x -> x.holds(0, 0), 1);
        scene.changes("from 3 to 4", x -> x.take(0, 1), -1, ONE_REFUSED);
    }

    static void promise13_aProofWithGreatNumbersIsAccepted() {
        int[][] pairs = {{1, 2}, {2, 3}, {2, 4}, {64, 65}, {1 << 30, (1 << 30) + 1}, {1 << 30, Play.MAX}, {1 << 29, 1 << 30}};
        for (int[] p : pairs) {
            Watch x = oneHash(p[0], p[1]);
            Checks.due("from " + p[0] + " to " + p[1], x.take(0, 1), 1);
            Checks.due("m", x.fact(0, 0, 1), p[0]);
        }
        int[][] wrong = {{1 << 30, 1 << 30}, {Play.MAX, Play.MAX}, {Play.MIN, Play.MAX}, {1 << 29, (1 << 30) + 1}};
        for (int[] p : wrong) Checks.due("from " + p[0] + " to " + p[1], oneHash(p[0], p[1]).take(0, 1), -1);
    }

    /** The PROOF from 1 to 2, told as one of other numbers: letter 1, with a HEAD of the greater one. */
    private static Watch oneHash(int m, int n) {
        Watch x = new Watch(Scene.SEED);
        Play.grow(x, 1, 0, 2, 0);
        x.head(1, 0, 2);
        Play.putNumber(x, 0, 1, n);
        x.sign(0);
        Checks.due("head", x.take(0, 0), 1);
        x.proof(1, 0, 1, 2);
        Play.putNumber(x, 1, 1, m);
        Play.putNumber(x, 1, 5, n);
        return x;
    }

    // ---- 0, if it has a FACT of the same LOG, m, r, and HEAD

    static void promise13_aKnownProofIsZeroDoingNothing() {
        TWO_FACTS.then(x -> x.proof(1, 0, 4, 7)).keeps("the first", x -> x.take(0, 0), 0);
        TWO_FACTS.then(x -> x.proof(1, 0, 4, 9)).keeps("the second", x -> x.take(0, 0), 0);
    }

    static void promise13_aProofOfAnotherMIsANewFact() {
        for (int m : new int[] {1, 3, 5, 6}) {
            TWO_FACTS.then(x -> x.proof(1, 0, m, 7)).answers("m " + m, x -> x.take(0, 0), 1);
        }
    }

    static void promise13_aProofForAnotherHeadIsANewFact() {
        Watch x = NINE.made();
        x.take(0, x.head(1, 0, 7));
        x.take(0, x.head(1, 0, 9));
        Checks.due("to 7", x.take(0, x.proof(1, 0, 4, 7)), 1);
        Checks.due("to 9", x.take(0, x.proof(1, 0, 4, 9)), 1);
        Checks.due("the first one's head", x.fact(0, 0, 2), 0);
        Checks.due("the second one's head", x.fact(0, 1, 2), 1);
    }

    static void promise13_aProofOfAnotherLogIsANewFact() {
        Watch x = NINE.made();
        Play.grow(x, 2, 0, 9, 0);
        for (int log = 1; log < 3; log++) {
            x.take(0, x.head(log, 0, 9));
            Checks.due("log " + log, x.take(0, x.proof(log, 0, 4, 9)), 1);
        }
        Checks.due("facts", x.holds(0, 1), 2);
        Checks.due("records", x.holds(0, 2), 0);
    }

    // ---- -3 likewise (12 FACTS, RECORDS)

    static void promise13_theTwelfthFactIsHeld() {
        Watch x = TWELVE_FACTS.made();
        Checks.due("facts", x.holds(0, 1), 12);
        for (int i = 0; i < 12; i++) Checks.due("m", x.fact(0, i, 1), i + 1);
    }

    static void promise13_theThirteenthFactIsMinusThreeDoingNothing() {
        TWELVE_FACTS.then(x -> x.proof(1, 0, 13, 20)).changes("take", x -> x.take(0, 0), -3, ONE_CROWDED);
        Scene breach = TWELVE_FACTS.then(x -> {
            Play.takeForged(x, 0, 1, 13, 1);
            x.clear();
            x.proof(1, 0, 13, 20);
        });
        breach.changes("one that would raise a record", x -> x.take(0, 0), -3, ONE_CROWDED);
    }

    static void promise13_aKnownProofIsZeroThoughTwelveAreHeld() {
        TWELVE_FACTS.then(x -> x.proof(1, 0, 1, 20)).keeps("the first", x -> x.take(0, 0), 0);
        TWELVE_FACTS.then(x -> x.proof(1, 0, 12, 20)).keeps("the last", x -> x.take(0, 0), 0);
    }

    static void promise13_aProofForNoHeadIsNoneThoughTwelveAreHeld() {
        TWELVE_FACTS.then(x -> x.proof(1, 0, 13, 19)).changes("take", x -> x.take(0, 0), -1, ONE_REFUSED);
    }

    static void promise13_withTwelveFactsAHeadIsStillHeld() {
        TWELVE_FACTS.then(x -> x.head(1, 0, 19)).answers("take", x -> x.take(0, 0), 1);
    }

    static void promise13_withTwentyHeadsAProofIsStillHeld() {
        Scene full = NINE.then(x -> {
            x.take(0, x.head(1, 0, 9));
            for (int i = 0; i < 19; i++) x.take(0, Play.forge(x, 2, i, 0));
            x.clear();
            x.proof(1, 0, 4, 9);
        });
        full.answers("heads", x -> x.holds(0, 0), 20);
        full.answers("take", x -> x.take(0, 0), 1);
    }

    /** HEAD 0 is that of 9, HEADS 1 and 2 are of SIZE 4 with other ROOTS: one RECORD, and the forks' besides. */
    private static Scene twoOfSizeFour(int... groups) {
        return TAKEN.then(x -> {
            Play.takeForged(x, 0, 1, 4, 1);
            Play.takeForged(x, 0, 1, 4, 2);
            Play.fork(x, 0, 3, groups);
            x.clear();
            x.proof(1, 0, 4, 9);
        });
    }

    static void promise13_theRecordsOfAProofMayFillTheRoom() {
        Watch x = twoOfSizeFour(6, 2, 2).made();
        Checks.due("records", x.holds(0, 2), 18);
        Checks.due("take", x.take(0, 0), 1);
        Checks.due("records", x.holds(0, 2), 20);
        dueRecord(x, 18, 2, 1, 0, 0);
        dueRecord(x, 19, 2, 2, 0, 0);
    }

    static void promise13_withoutRoomForItsRecordsAProofIsMinusThreeDoingNothing() {
        Scene nineteen = twoOfSizeFour(6, 3);
        nineteen.answers("records", x -> x.holds(0, 2), 19);
        nineteen.changes("two", x -> x.take(0, 0), -3, ONE_CROWDED);
        Scene twenty = twoOfSizeFour(6, 3, 2);
        twenty.answers("records", x -> x.holds(0, 2), 20);
        twenty.changes("two", x -> x.take(0, 0), -3, ONE_CROWDED);
        Scene other = twenty.then(x -> x.proof(1, 0, 5, 9));
        other.answers("a proof without a record", x -> x.take(0, 1), 1);
        other.then(x -> x.take(0, 1)).keeps("a known one", x -> x.take(0, 1), 0);
    }

    // ---- the RECORDS of a PROOF

    static void promise13_recordsOfAProofComeByNumbers() {
        Watch x = twoOfSizeFour().made();
        Checks.due("take", x.take(0, 0), 1);
        Checks.due("records", x.holds(0, 2), 3);
        dueRecord(x, 0, 1, 1, 2, -1);
        dueRecord(x, 1, 2, 1, 0, 0);
        dueRecord(x, 2, 2, 2, 0, 0);
    }

    static void promise13_theFirstAndTheLastOfTwentyHeadsMayRaiseARecord() {
        Watch x = NINE.made();
        Play.takeForged(x, 0, 1, 4, 1);
        x.take(0, x.head(1, 0, 9));
        for (int i = 0; i < 17; i++) x.take(0, Play.forge(x, 2, i, 0));
        Play.takeForged(x, 0, 1, 4, 2);
        Checks.due("heads", x.holds(0, 0), 20);
        Checks.due("take", x.take(0, x.proof(1, 0, 4, 9)), 1);
        Checks.due("records", x.holds(0, 2), 3);
        dueRecord(x, 0, 1, 0, 19, -1);
        dueRecord(x, 1, 2, 0, 1, 0);
        dueRecord(x, 2, 2, 19, 1, 0);
    }

    static void promise13_theFirstAndTheLastOfTwelveFactsMayRaiseARecord() {
        for (int m : new int[] {1, 12}) {
            Watch x = TWELVE_FACTS.made();
            Checks.due("take", Play.takeForged(x, 0, 1, m, 1), 1);
            Checks.due("records", x.holds(0, 2), 1);
            dueRecord(x, 0, 2, 1, 0, m - 1);
        }
    }

    static void promise13_aHeadOfSizeMWhoseRootIsRRaisesNone() {
        Watch x = TAKEN.made();
        x.take(0, x.head(1, 0, 4));
        Checks.due("take", x.take(0, x.proof(1, 0, 4, 9)), 1);
        Checks.due("records", x.holds(0, 2), 0);
    }

    static void promise13_aHeadOfSizeMOneByteOffRRaisesARecord() {
        for (int k = 5; k < 37; k++) {
            Watch x = TAKEN.made();
            x.head(1, 0, 4);
            x.alter(1, k, 128);
            x.sign(1);
            x.take(0, 1);
            Checks.due("take", x.take(0, x.proof(1, 0, 4, 9)), 1);
            Checks.due("records", x.holds(0, 2), 1);
            dueRecord(x, 0, 2, 1, 0, 0);
        }
    }

    static void promise13_headsOfOtherLogsAndSizesRaiseNoneForAProof() {
        Watch x = TAKEN.made();
        for (int log : new int[] {0, 2, 3}) Play.takeForged(x, 0, log, 4, 1);
        for (int size : new int[] {0, 3, 5, 8, 4 + 256, 4 + 65536, 4 + (1 << 24)}) Play.takeForged(x, 0, 1, size, 1);
        Checks.due("take", x.take(0, x.proof(1, 0, 4, 9)), 1);
        Checks.due("records", x.holds(0, 2), 0);
    }

    // ---- a PATH: for how many HEADS that it holds it is ACCEPTED; nothing is held

    static void promise13_aPathForNoHeadIsZeroDoingNothing() {
        NINE.then(x -> x.path(1, 0, 9, 2)).keeps("no head", x -> x.take(0, 0), 0);
        TAKEN.then(x -> x.path(1, 0, 8, 2)).keeps("a head of another size", x -> x.take(0, 1), 0);
        TAKEN.then(x -> x.path(1, 0, 9, 2)).keeps("another monitor's", x -> x.take(1, 1), 0);
        TAKEN.then(x -> {
            x.path(1, 0, 9, 2);
            x.alter(1, 0, 1 ^ 2);
        }).keeps("another log", x -> x.take(0, 1), 0);
    }

    /** Of 5 to 8 leaves the first one's PATH has three hashes, all on its right, so that the ROOT may be the same. */
    static void promise13_aPathForAHeadOfAnotherSizeIsZero() {
        for (int n = 5; n <= 8; n++) {
            for (int size = 5; size <= 8; size++) {
                Watch x = NINE.made();
                x.head(1, 0, 5);
                Play.putNumber(x, 0, 1, size);
                x.sign(0);
                Checks.due("head", x.take(0, 0), 1);
                x.path(1, 0, 5, 0);
                Play.putNumber(x, 1, 1, n);
                Checks.due("of " + n + " for " + size, x.take(0, 1), n == size ? 1 : 0);
            }
        }
    }

    static void promise13_aPathForAHeadWhoseRootIsOneByteOffIsZero() {
        for (int k = 5; k < 37; k++) {
            Watch x = HEAD.made();
            x.alter(0, k, 128);
            x.sign(0);
            Checks.due("head", x.take(0, 0), 1);
            Checks.due("byte " + k, x.take(0, x.path(1, 0, 9, 2)), 0);
        }
    }

    static void promise13_aPathForNoneOfTwentyHeadsIsZero() {
        TWENTY_HEADS.then(x -> x.path(1, 0, 9, 2)).keeps("take", x -> x.take(0, 0), 0);
    }

    static void promise13_aPathIsAcceptedForOneOfManyHeads() {
        Scene scene = NINE.then(x -> {
            for (int mark = 1; mark < 4; mark++) Play.takeForged(x, 0, 1, 9, mark);
            x.take(0, x.head(1, 0, 9));
            x.take(0, x.head(1, 0, 8));
            x.clear();
            x.path(1, 0, 9, 2);
        });
        scene.keeps("take", x -> x.take(0, 0), 1);
    }

    static void promise13_aPathOfTheFirstAndTheLastLeafIsAccepted() {
        for (int n = 1; n <= 9; n++) {
            for (int i = 0; i < n; i++) {
                Watch x = NINE.made();
                x.take(0, x.head(1, 0, n));
                Checks.due("path of " + i + " of " + n, x.take(0, x.path(1, 0, n, i)), 1);
            }
        }
    }

    /** Without hashes nothing but the look at i keeps it from being ACCEPTED. */
    static void promise13_aPathWhoseIIsNotBelowNIsZero() {
        for (int i : new int[] {1, 2, -1, Play.MIN, Play.MAX}) {
            Scene scene = NINE.then(x -> {
                x.take(0, x.head(1, 0, 1));
                x.path(1, 0, 1, 0);
                Play.putNumber(x, 1, 5, i);
            });
            scene.keeps("i " + i + " of 1", x -> x.take(0, 1), 0);
        }
        for (int i : new int[] {9, 10, -1, -2, Play.MIN, Play.MIN + 2, Play.MAX}) {
            Scene scene = TAKEN.then(x -> {
                x.path(1, 0, 9, 2);
                Play.putNumber(x, 1, 5, i);
            });
            scene.keeps("i " + i + " of 9", x -> x.take(0, 1), 0);
        }
    }

    static void promise13_aPathOfAnEmptyTreeIsZero() {
        for (int i : new int[] {0, -1}) {
            Scene scene = NINE.then(x -> {
                putHead(x, 1, 0, leafHash(0));
                x.take(0, 0);
                x.path(1, 0, 1, 0);
                Play.putNumber(x, 1, 1, 0);
                Play.putNumber(x, 1, 5, i);
            });
            scene.answers("the head", x -> x.holds(0, 0), 1);
            scene.keeps("path", x -> x.take(0, 1), 0);
        }
    }

    static void promise13_aPathWithAnyByteChangedIsZero() {
        for (int i : new int[] {0, 2, 8}) {
            Scene path = TAKEN.then(x -> x.path(1, 0, 9, i));
            int bytes = path.made().letter(1, -2);
            for (int k = 0; k < bytes; k++) {
                for (int mask : new int[] {1, 128}) {
                    int at = k;
                    path.then(x -> x.alter(1, at, mask)).answers("byte " + k, x -> x.take(0, 1), 0);
                }
            }
            path.answers("as it was", x -> x.take(0, 1), 1);
        }
    }

    static void promise13_aPathWithTooFewHashesIsZero() {
        for (int i = 0; i < 9; i++) {
            for (int stay = 0; stay < 4; stay++) {
                Watch x = TAKEN.made();
                x.path(1, 0, 9, i);
                int hashes = Play.hashesOf(x, 1);
                x.cut(1, stay);
                Checks.due(stay + " of " + hashes + " hashes", x.take(0, 1), stay >= hashes ? 1 : 0);
            }
        }
    }

    static void promise13_aPathThatEndsTooEarlyIsZero() {
        Scene scene = NINE.then(x -> {
            putHead(x, 1, 4, Model.root(Play.numbers(2)));
            x.take(0, 0);
            x.path(1, 0, 2, 0);
            Play.putNumber(x, 1, 1, 4);
        });
        scene.answers("the head", x -> x.holds(0, 0), 1);
        scene.keeps("path", x -> x.take(0, 1), 0);
    }

    static void promise13_aPathWithTooManyHashesIsZero() {
        byte[] left = leafHash(0);
        byte[] right = leafHash(1);
        for (byte[] root : new byte[][] {Model.pair(left, right), Model.pair(right, left)}) {
            Scene scene = NINE.then(x -> {
                putHead(x, 1, 1, root);
                x.take(0, 0);
                x.path(1, 0, 2, 0);
                Play.putNumber(x, 1, 1, 1);
            });
            scene.answers("the head", x -> x.holds(0, 0), 1);
            scene.keeps("path", x -> x.take(0, 1), 0);
        }
    }

    static void promise13_aPathWithGreatNumbersIsAccepted() {
        for (int i : new int[] {1, 2, 4, 64, 1 << 29, 1 << 30}) {
            Watch x = new Watch(Scene.SEED);
            Play.grow(x, 1, 0, 2, 0);
            x.head(1, 0, 2);
            Play.putNumber(x, 0, 1, i + 1);
            x.sign(0);
            x.take(0, 0);
            x.path(1, 0, 2, 1);
            Play.putNumber(x, 1, 1, i + 1);
            Play.putNumber(x, 1, 5, i);
            Checks.due("leaf " + i + " of one more", x.take(0, 1), 1);
            Play.putNumber(x, 1, 5, i + 1);
            Checks.due("the leaf after the last", x.take(0, 1), 0);
        }
    }

    static void promise13_aFullMonitorStillTakesAPath() {
        TWELVE_FACTS.then(x -> x.path(1, 0, 20, 19)).keeps("take", x -> x.take(0, 0), 1);
        Scene full = NINE.then(x -> {
            for (int i = 0; i < 19; i++) x.take(0, Play.forge(x, 2, i, 0));
            x.take(0, x.head(1, 0, 9));
            x.clear();
            x.path(1, 0, 9, 8);
        });
        full.answers("heads", x -> x.holds(0, 0), 20);
        full.keeps("the twentieth head's", x -> x.take(0, 0), 1);
    }
}
