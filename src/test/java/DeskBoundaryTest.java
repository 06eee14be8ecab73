import java.util.HashMap;
import java.util.Map;

/** Promises 20 to 24: the boundaries that the document names for the DESK and the AUDITOR. */
public final class DeskBoundaryTest {
    public static void main(String[] args) {
        Checks.run(DeskBoundaryTest.class, 20, 24);
    }

    private static final int LOG = 2;
    private static final byte[] A = Model.sha(Model.one(1));
    private static final byte[] B = Model.sha(Model.one(2));

    private static final Scene NEW = new Scene(x -> { });
    private static final Scene FULL = new Scene(x -> {
        x.trim(634);
        for (int k = 0; k < 634; k += 3) x.patch(k, 1 + k % 255);
    });

    private static int fullAt(int k) {
        return k % 3 == 0 ? 1 + k % 255 : 0;
    }

    // ---- promise 20: desk

    static void promise20_anEmptyDeskHasNone() {
        for (int k : new int[] {0, 1, 633, 634, -1, Play.MIN, Play.MAX}) NEW.answers("byte " + k, x -> x.desk(k), -1);
    }

    static void promise20_belowTheFirstIsNone() {
        for (int k : new int[] {-1, -2, -634, Play.MIN}) FULL.answers("byte " + k, x -> x.desk(k), -1);
    }

    static void promise20_beyondTheLastIsNone() {
        for (int k : new int[] {634, 635, Play.MAX}) FULL.answers("byte " + k, x -> x.desk(k), -1);
        FULL.then(x -> x.trim(10)).answers("byte 10 of 10", x -> x.desk(10), -1);
        FULL.then(x -> x.trim(1)).answers("byte 1 of 1", x -> x.desk(1), -1);
    }

    static void promise20_allBytesOfAFullDesk() {
        for (int start = 0; start < 634; start += 200) {
            Watch x = FULL.made();
            for (int k = start; k < Math.min(634, start + 200); k++) Checks.due("byte " + k, x.desk(k), fullAt(k));
        }
    }

    static void promise20_aByteIsZeroTo255() {
        for (int v : new int[] {0, 127, 128, 255}) FULL.then(x -> x.patch(5, v)).answers("byte 5", x -> x.desk(5), v);
    }

    // ---- promise 21: patch

    static void promise21_onAnEmptyDeskIsFalse() {
        for (int k : new int[] {0, 1, -1}) NEW.keeps("byte " + k, x -> Play.bit(x.patch(k, 1)), 0);
    }

    static void promise21_noSuchByteIsFalse() {
        for (int k : new int[] {-1, 634, 635, Play.MIN, Play.MAX}) {
            FULL.keeps("byte " + k, x -> Play.bit(x.patch(k, 200)), 0);
        }
        Scene ten = FULL.then(x -> x.trim(10));
        ten.keeps("byte 10 of 10", x -> Play.bit(x.patch(10, 200)), 0);
        ten.then(x -> {
            x.patch(10, 200);
            x.trim(11);
        }).answers("nothing was done", x -> x.desk(10), 0);
    }

    static void promise21_theFirstAndTheLastByte() {
        for (int n : new int[] {1, 10, 634}) {
            for (int k : new int[] {0, n - 1}) {
                Watch x = NEW.made();
                x.trim(n);
                Checks.due("patch", x.patch(k, 77), true);
                Checks.due("byte " + k, x.desk(k), 77);
                if (n > 1) Checks.due("the one beside", x.desk(k == 0 ? 1 : k - 1), 0);
            }
        }
    }

    static void promise21_onlyTheLowestEightBits() {
        int[][] pairs = {{256, 0}, {257, 1}, {-1, 255}, {-256, 0}, {511, 255}, {Play.MIN, 0}, {Play.MAX, 255}, {128, 128}};
        for (int[] p : pairs) {
            Watch x = FULL.made();
            Checks.due("patch", x.patch(3, p[0]), true);
            Checks.due("of " + p[0], x.desk(3), p[1]);
        }
    }

    static void promise21_noOtherByteIsChanged() {
        Map<String, Integer> changed = new HashMap<>();
        changed.put("desk(2)", 9);
        byte[] hash = Model.sha(new byte[] {1, 0, 9, 4, 0});
        for (int k = 0; k < 32; k++) changed.put("hash(" + k + ")", hash[k] & 255);
        FULL.then(x -> x.trim(5)).changes("patch", x -> Play.bit(x.patch(2, 9)), 1, changed);
    }

    // ---- promise 22: trim

    static void promise22_outsideIsFalseDoingNothing() {
        for (int n : new int[] {-1, -2, 635, 636, 666, Play.MIN, Play.MAX}) {
            FULL.keeps("trim to " + n, x -> Play.bit(x.trim(n)), 0);
            NEW.keeps("trim to " + n, x -> Play.bit(x.trim(n)), 0);
        }
    }

    static void promise22_toNone() {
        FULL.answers("trim", x -> Play.bit(x.trim(0)), 1);
        FULL.then(x -> x.trim(0)).answers("byte 0", x -> x.desk(0), -1);
        NEW.keeps("none of none", x -> Play.bit(x.trim(0)), 1);
    }

    static void promise22_toAll() {
        NEW.answers("trim", x -> Play.bit(x.trim(634)), 1);
        Scene all = NEW.then(x -> x.trim(634));
        all.answers("byte 633", x -> x.desk(633), 0);
        all.answers("byte 634", x -> x.desk(634), -1);
        FULL.keeps("all stay", x -> Play.bit(x.trim(634)), 1);
    }

    static void promise22_newOnesAreZero() {
        for (int start = 0; start < 634; start += 250) {
            Watch x = FULL.made();
            x.trim(0);
            x.trim(634);
            for (int k = start; k < Math.min(634, start + 250); k++) Checks.due("byte " + k, x.desk(k), 0);
        }
    }

    static void promise22_theOldOnesStay() {
        Watch x = FULL.made();
        x.trim(10);
        x.trim(20);
        for (int k = 0; k < 20; k++) Checks.due("byte " + k, x.desk(k), k < 10 ? fullAt(k) : 0);
        Checks.due("byte 20", x.desk(20), -1);
    }

    static void promise22_newOnesAreZeroAfterALongerRecord() {
        Watch x = NEW.made();
        Play.takeForged(x, 0, 1, 5, 1);
        Play.takeForged(x, 0, 1, 5, 2);
        x.trim(634);
        for (int k = 90; k < 100; k++) x.patch(k, 200);
        x.lay(0, 0);
        x.trim(100);
        for (int k = 90; k < 100; k++) Checks.due("byte " + k, x.desk(k), 0);
    }

    // ---- promise 23: audit, of both kinds

    private static byte[] head(int size, byte[] root) {
        return Play.signed(Scene.SEED, LOG, size, root);
    }

    private static Scene onDesk(byte[] bytes) {
        return new Scene(x -> Play.putOnDesk(x, bytes));
    }

    private static void dueRight(String what, byte[] desk, boolean right) {
        onDesk(desk).answers(what, x -> Play.bit(x.audit()), Play.bit(right));
    }

    private static byte[] fork() {
        return Play.forkRecord(LOG, head(5, A), head(5, B));
    }

    /** From m to n one hash leads, if m is a power of 2 and n not above twice that. */
    private static byte[] breach(int m, int n) {
        return Play.breachRecord(LOG, head(m, A), head(n, Model.pair(B, A)), Model.all(B, A));
    }

    private static byte[] with(byte[] desk, int k, int v) {
        byte[] changed = desk.clone();
        changed[k] = (byte) v;
        return changed;
    }

    static void promise23_anEmptyDeskIsNotRight() {
        NEW.keeps("audit", x -> Play.bit(x.audit()), 0);
        for (int n : new int[] {1, 2, 45, 89, 90, 122, 154, 634}) dueRight(n + " times 0", new byte[n], false);
        for (int kind = 1; kind <= 2; kind++) {
            for (int n : new int[] {1, 2, 45, 46, 89, 90, 121, 122, 154, 634}) {
                dueRight(n + " bytes, kind " + kind, with(new byte[n], 0, kind), false);
            }
        }
    }

    static void promise23_itChangesNothing() {
        onDesk(fork()).keeps("audit", x -> Play.bit(x.audit()), 1);
        onDesk(breach(4, 7)).keeps("audit", x -> Play.bit(x.audit()), 1);
        onDesk(with(breach(4, 7), 50, 1)).keeps("audit", x -> Play.bit(x.audit()), 0);
    }

    static void promise23_noOtherKindIsRight() {
        for (int kind : new int[] {0, 3, 4, 128, 129, 130, 254, 255}) {
            dueRight("a fork as kind " + kind, with(fork(), 0, kind), false);
            dueRight("a breach as kind " + kind, with(breach(4, 7), 0, kind), false);
        }
        dueRight("a fork as a breach", with(fork(), 0, 2), false);
        dueRight("a breach as a fork", with(breach(4, 7), 0, 1), false);
    }

    static void promise23_heKnowsTheBytesAlone() {
        dueRight("a fork of no log's views", fork(), true);
        dueRight("a breach of no log's views", breach(4, 7), true);
        Watch other = new Watch(Scene.SEED + 1);
        Play.putOnDesk(other, fork());
        Checks.due("another seed", other.audit(), false);
    }

    static void promise23_anyByteChangedIsNotRight() {
        for (byte[] desk : new byte[][] {fork(), breach(4, 7)}) {
            dueRight("as it was", desk, true);
            for (int k = 0; k < desk.length; k++) {
                for (int mask : new int[] {1, 128}) dueRight("byte " + k, with(desk, k, desk[k] ^ mask), false);
            }
        }
    }

    static void promise23_bothHeadsMustBeSigned() {
        byte[] foreign = Play.signed(Scene.SEED, LOG + 1, 5, A);
        dueRight("the first by another log", Play.forkRecord(LOG, foreign, head(5, B)), false);
        dueRight("the other by another log", Play.forkRecord(LOG, head(5, B), foreign), false);
        for (int k = 36; k < 44; k++) {
            dueRight("the first one's sign", with(fork(), 2 + k, ~fork()[2 + k]), false);
            dueRight("the other one's sign", with(fork(), 46 + k, ~fork()[46 + k]), false);
        }
    }

    static void promise23_theLogMustBeZeroToThree() {
        for (int log : new int[] {0, 1, 2, 3, 4, 5, 128, 255}) {
            byte[] first = Play.signed(Scene.SEED, log, 4, A);
            byte[] other = Play.signed(Scene.SEED, log, 4, B);
            dueRight("a fork of log " + log, Play.forkRecord(log, first, other), log < 4);
            byte[] later = Play.signed(Scene.SEED, log, 7, Model.pair(B, A));
            dueRight("a breach of log " + log, Play.breachRecord(log, first, later, Model.all(B, A)), log < 4);
        }
    }

    /** A LOG that is none has no KEY: neither none at all nor one of zeros nor another LOG's will do. */
    static void promise23_aLogWithoutAKeyIsNotRight() {
        byte[] lastKey = Model.part(Model.sha(Model.one(3), Model.eight(Scene.SEED), Model.one(3)), 0, 8);
        for (int log : new int[] {4, 5, 128, 255}) {
            for (byte[] key : new byte[][] {{}, new byte[8], lastKey}) {
                byte[] first = signedBy(key, log, 5, A);
                dueRight("log " + log, Play.forkRecord(log, first, signedBy(key, log, 5, B)), false);
            }
        }
    }

    private static byte[] signedBy(byte[] key, int log, int size, byte[] root) {
        byte[] sizeAndRoot = Model.all(Model.four(size), root);
        return Model.all(sizeAndRoot, Model.part(Model.sha(Model.one(2), key, Model.one(log), sizeAndRoot), 0, 8));
    }

    static void promise23_noSizeMayBeBelowZero() {
        for (int size : new int[] {-1, -5, Play.MIN}) {
            dueRight("a fork of size " + size, Play.forkRecord(LOG, head(size, A), head(size, B)), false);
            dueRight("a breach from " + size, breach(size, 7), false);
            dueRight("a breach to " + size, breach(4, size), false);
            dueRight("a breach from and to " + size, breach(size, size + 1), false);
        }
    }

    // ---- promise 23: of kind 1

    static void promise23_aForkHasNinetyBytes() {
        for (int n : new int[] {0, 1, 2, 46, 89, 91, 122, 154, 634}) {
            onDesk(fork()).then(x -> x.trim(n)).answers(n + " bytes", x -> Play.bit(x.audit()), 0);
        }
        onDesk(fork()).then(x -> x.trim(90)).answers("90 bytes", x -> Play.bit(x.audit()), 1);
    }

    static void promise23_theSizesOfAForkAreAlike() {
        for (int size : new int[] {0, 1, 80, 81, Play.MAX}) {
            dueRight("size " + size, Play.forkRecord(LOG, head(size, A), head(size, B)), true);
        }
        int[][] pairs = {{5, 6}, {6, 5}, {0, 1}, {5, 5 + 256}, {5, 5 + 65536}, {5, 5 + (1 << 24)}, {0, Play.MAX}};
        for (int[] p : pairs) {
            dueRight("sizes " + p[0] + ", " + p[1], Play.forkRecord(LOG, head(p[0], A), head(p[1], B)), false);
        }
    }

    static void promise23_theRootsOfAForkAreNotAlike() {
        dueRight("one root", Play.forkRecord(LOG, head(5, A), head(5, A)), false);
        for (int k = 0; k < 32; k++) {
            byte[] near = with(A, k, A[k] ^ 128);
            dueRight("roots that differ in byte " + k, Play.forkRecord(LOG, head(5, A), head(5, near)), true);
        }
    }

    // ---- promise 23: of kind 2

    static void promise23_aBreachHasWholeHashes() {
        for (int n : new int[] {1, 90, 121, 122, 123, 153, 155, 185, 186, 187, 633, 634}) {
            onDesk(breach(4, 7)).then(x -> x.trim(n)).answers(n + " bytes", x -> Play.bit(x.audit()), 0);
        }
        onDesk(breach(4, 7)).then(x -> x.trim(154)).answers("154 bytes", x -> Play.bit(x.audit()), 1);
    }

    /** From 1 to 3 two hashes lead; a part of the second one doesn't, however it is read. */
    static void promise23_aPartOfAHashIsNotRight() {
        byte[] c = Model.sha(Model.one(3));
        byte[] below = Model.pair(B, A);
        for (int n : new int[] {0, 1, 5, 31}) {
            byte[] part = Model.part(c, 0, n);
            byte[] padded = Model.all(part, new byte[32 - n]);
            byte[][] roots = {Model.sha(Model.one(1), below), Model.sha(Model.one(1), below, part), Model.pair(below, padded), below};
            for (byte[] root : roots) {
                dueRight(n + " bytes", Play.breachRecord(LOG, head(1, A), head(3, root), Model.all(B, A, part)), false);
            }
        }
        byte[] whole = Play.breachRecord(LOG, head(1, A), head(3, Model.pair(below, c)), Model.all(B, A, c));
        dueRight("the whole hash", whole, true);
    }

    static void promise23_theFirstSizeOfABreachIsAboveZero() {
        for (int n : new int[] {1, 2, 7}) dueRight("from 0 to " + n, breach(0, n), false);
        dueRight("from 1 to 2", breach(1, 2), true);
    }

    static void promise23_theFirstSizeOfABreachIsBelowTheSecond() {
        dueRight("from 4 to 5", breach(4, 5), true);
        dueRight("from 4 to 4", breach(4, 4), false);
        dueRight("from 5 to 4", breach(5, 4), false);
        dueRight("from 4 to 8", breach(4, 8), true);
        dueRight("from 4 to 9 two hashes would lead", breach(4, 9), false);
        dueRight("from 2^30 to the greatest", breach(1 << 30, Play.MAX), true);
        dueRight("from 2^30 to one more", breach(1 << 30, (1 << 30) + 1), true);
        dueRight("from the greatest to the greatest", breach(Play.MAX, Play.MAX), false);
        dueRight("from 2^29 to above 2^30", breach(1 << 29, (1 << 30) + 1), false);
    }

    /** RFC 9162's steps alone would lead to the second ROOT in both. */
    static void promise23_stepsThatLeadFromMToMOrToLessAreNotRight() {
        byte[] two = Model.pair(B, A);
        byte[] toItself = Model.all(Model.pair(A, B), B, A);
        dueRight("from 3 to 3", Play.breachRecord(LOG, head(3, two), head(3, Model.pair(A, B)), toItself), false);
        byte[] toLess = Model.all(B, B, A);
        dueRight("from 3 to 2", Play.breachRecord(LOG, head(3, A), head(2, two), toLess), false);
    }

    static void promise23_rIsNotTheFirstRoot() {
        byte[] root = Model.pair(B, A);
        dueRight("r is the first root", Play.breachRecord(LOG, head(4, B), head(7, root), Model.all(B, A)), false);
        for (int k = 0; k < 32; k++) {
            byte[] near = with(B, k, B[k] ^ 128);
            byte[] desk = Play.breachRecord(LOG, head(4, near), head(7, root), Model.all(B, A));
            dueRight("they differ in byte " + k, desk, true);
        }
    }

    static void promise23_theHashesLeadFromR() {
        byte[] root = Model.pair(B, A);
        byte[] c = Model.sha(Model.one(3));
        dueRight("another r", Play.breachRecord(LOG, head(4, A), head(7, root), Model.all(c, A)), false);
        for (int k = 0; k < 32; k++) {
            byte[] near = with(root, k, root[k] ^ 128);
            byte[] desk = Play.breachRecord(LOG, head(4, A), head(7, near), Model.all(B, A));
            dueRight("a root that differs in byte " + k, desk, false);
        }
        byte[] three = Model.pair(A, Model.pair(B, c));
        byte[] hashes = Model.all(B, c, A);
        byte[] r = Model.pair(A, B);
        dueRight("from 3 to 4", Play.breachRecord(LOG, head(3, c), head(4, three), Model.all(r, hashes)), true);
        dueRight("r is not where they lead", Play.breachRecord(LOG, head(3, c), head(4, three), Model.all(B, hashes)), false);
        dueRight("too early", Play.breachRecord(LOG, head(4, A), head(9, root), Model.all(B, A)), false);
        byte[] tooMany = Model.all(Model.pair(c, r), hashes, c);
        byte[] above = Model.pair(c, three);
        dueRight("too many", Play.breachRecord(LOG, head(3, c), head(4, above), tooMany), false);
    }

    /** From 2^h - 1 to 2^h there are h + 1 hashes; all are 0 here, so that the DESK takes few calls. */
    private static byte[] longBreach(int levels, int hashes) {
        byte[] zero = new byte[32];
        byte[] r = zero;
        byte[] root = Model.pair(zero, zero);
        for (int i = 1; i < levels; i++) {
            r = Model.pair(zero, r);
            root = Model.pair(zero, root);
        }
        int n = 1 << levels;
        return Play.breachRecord(LOG, head(n - 1, A), head(n, root), Model.all(r, new byte[32 * hashes]));
    }

    static void promise23_aBreachMayHaveSixteenHashes() {
        Checks.due("bytes", longBreach(15, 16).length, 634);
        dueRight("16 hashes", longBreach(15, 16), true);
    }

    static void promise23_aBreachMayHaveTwoToSixteenHashesAndNoneTooMany() {
        for (int levels = 2; levels <= 15; levels++) {
            for (int hashes = 0; hashes <= 16; hashes++) {
                dueRight(hashes + " hashes of " + (levels + 1), longBreach(levels, hashes), hashes == levels + 1);
            }
        }
        dueRight("16 of 17", longBreach(16, 16), false);
    }

    static void promise23_whatAMonitorRaisesIsRight() {
        for (int m = 1; m < 20; m++) {
            Watch x = new Watch(Scene.SEED);
            Play.grow(x, 1, 0, 20, 0);
            x.take(0, x.head(1, 0, 20));
            Play.takeForged(x, 0, 1, m, 1);
            x.take(0, x.proof(1, 0, m, 20));
            Play.takeForged(x, 0, 1, m, 2);
            Checks.due("records", x.holds(0, 2), 3);
            for (int i = 0; i < 3; i++) {
                x.lay(0, i);
                Checks.due("record " + i, x.audit(), true);
            }
        }
    }

    // ---- promise 24: hash

    static void promise24_noSuchByteIsNone() {
        for (int k : new int[] {-1, -2, 32, 33, Play.MIN, Play.MAX}) {
            NEW.keeps("byte " + k, x -> x.hash(k), -1);
            FULL.answers("byte " + k, x -> x.hash(k), -1);
        }
    }

    static void promise24_ofNothing() {
        byte[] want = Model.sha();
        for (int k = 0; k < 32; k++) {
            int at = k;
            NEW.answers("byte " + k, x -> x.hash(at), want[k] & 255);
            FULL.then(x -> x.trim(0)).answers("byte " + k, x -> x.hash(at), want[k] & 255);
        }
    }

    static void promise24_ofEachLength() {
        for (int n = 1; n <= 634; n++) {
            byte[] desk = new byte[n];
            for (int k = 0; k < n; k += 1 + n / 100) desk[k] = (byte) (k * 7 + n);
            desk[n - 1] = (byte) 200;
            byte[] want = Model.sha(desk);
            Watch x = onDesk(desk).made();
            for (int k = 0; k < 32; k++) Checks.due("byte " + k + " of " + n, x.hash(k), want[k] & 255);
        }
    }

    static void promise24_theDeskStaysAsItIs() {
        int want = Model.sha(new byte[5])[31] & 255;
        NEW.then(x -> x.trim(5)).keeps("hash", x -> x.hash(31), want);
    }
}
