import java.util.ArrayList;
import java.util.List;

/** For each promise of the document: ordinary inputs, the edges that it names, and wrong inputs. */
public final class PromiseTest {
    private static final int[] NOT_A_LOG = {-1, 4, 255, Integer.MIN_VALUE, Integer.MAX_VALUE};
    private static final int[] NOT_A_VIEW = {-1, 2, Integer.MIN_VALUE, Integer.MAX_VALUE};
    private static final int[] NOT_A_MONITOR = {-1, 4, Integer.MIN_VALUE, Integer.MAX_VALUE};
    private static final int MIN = Integer.MIN_VALUE;
    private static final int MAX = Integer.MAX_VALUE;

    private static int promise;
    private static int wrong = 0;
    private static int checks = 0;

    private static void due(String what, long got, long want) {
        checks++;
        if (got != want) {
            wrong++;
            System.out.println("promise " + promise + ": " + what + " answered " + got + ", due is " + want);
        }
    }

    private static void due(String what, boolean got, boolean want) {
        due(what, got ? 1 : 0, want ? 1 : 0);
    }

    public static void main(String[] args) {
        newObject();
        append();
        leaves();
        head();
        proof();
        path();
        alter();
        cut();
        sign();
        clear();
        letters();
        letter();
        takeHead();
        takeHeadFull();
        takeProof();
        takeProofFull();
        takeChangedProof();
        takeProofToItself();
        takePath();
        gossip();
        holds();
        held();
        fact();
        record();
        lay();
        desk();
        patch();
        trim();
        auditFork();
        auditBreach();
        auditProofToItself();
        auditBounds();
        hash();
        System.out.println(checks + " checks, " + wrong + " wrong");
        if (wrong != 0) System.exit(1);
    }

    // ---- what the tests are made of

    private static GossipWatch withLeaves(int count) {
        GossipWatch x = new GossipWatch(7L);
        grow(x, 1, 0, count, 0);
        return x;
    }

    /** Leaves 0, 1, 2 and on, from a place on with another number added. */
    private static void grow(GossipWatch x, int log, int view, int count, int added) {
        int have = x.leaves(log, view);
        for (int i = have; i < have + count; i++) x.append(log, view, i + added);
    }

    private static List<Integer> numbers(int count) {
        List<Integer> all = new ArrayList<>();
        for (int i = 0; i < count; i++) all.add(i);
        return all;
    }

    private static byte[] bytesOf(GossipWatch x, int letter) {
        byte[] bytes = new byte[x.letter(letter, -2)];
        for (int k = 0; k < bytes.length; k++) bytes[k] = (byte) x.letter(letter, k);
        return bytes;
    }

    private static void dueBytes(String what, byte[] got, byte[] want) {
        due(what + " has so many bytes", got.length, want.length);
        for (int k = 0; k < Math.min(got.length, want.length); k++) {
            due(what + " byte " + k, got[k] & 255, want[k] & 255);
        }
    }

    private static byte[] deskOf(GossipWatch x) {
        int n = 0;
        while (x.desk(n) != GossipWatch.NONE) n++;
        byte[] bytes = new byte[n];
        for (int k = 0; k < n; k++) bytes[k] = (byte) x.desk(k);
        return bytes;
    }

    private static void putOnDesk(GossipWatch x, byte[] bytes) {
        x.trim(0);
        x.trim(bytes.length);
        for (int k = 0; k < bytes.length; k++) x.patch(k, bytes[k]);
    }

    private static void putNumber(GossipWatch x, int letter, int at, int v) {
        for (int k = 0; k < 4; k++) {
            x.alter(letter, at + k, x.letter(letter, at + k) ^ v >>> 24 - 8 * k);
        }
    }

    private static void putBytes(GossipWatch x, int letter, byte[] bytes) {
        for (int k = 0; k < bytes.length; k++) x.alter(letter, k, x.letter(letter, k) ^ bytes[k]);
    }

    /** Hashes that RFC 9162's steps would follow from the root of 3 leaves to itself, did m < n not rule it out. */
    private static byte[] hashesOfThree() {
        return Model.all(Model.root(List.of(2)), Model.root(numbers(2)));
    }

    private static byte[] signed(long seed, int log, int size, byte[] root) {
        byte[] sizeAndRoot = Model.all(Model.four(size), root);
        return Model.all(sizeAndRoot, new Model(seed).signOf(log, sizeAndRoot));
    }

    /** A HEAD of that SIZE with a ROOT of its own, SIGNED, handed to a monitor. */
    private static int takeForged(GossipWatch x, int monitor, int log, int size, int mark) {
        if (x.letters() == 60) x.clear();
        int letter = x.head(log, 0, 0);
        putNumber(x, letter, 1, size);
        putNumber(x, letter, 5, mark);
        x.sign(letter);
        return x.take(monitor, letter);
    }

    // ---- the promises

    private static void newObject() {
        promise = 1;
        GossipWatch x = new GossipWatch(0x0102030405060708L);
        for (int log = 0; log < 4; log++) {
            due("leaves", x.leaves(log, 0), 0);
            due("leaves", x.leaves(log, 1), 0);
            int letter = x.head(log, 1, 0);
            byte[] want = Model.all(Model.one(log), signed(0x0102030405060708L, log, 0, Model.sha()));
            dueBytes("a head of log " + log, bytesOf(x, letter), want);
        }
        for (int monitor = 0; monitor < 4; monitor++) {
            for (int what = 0; what < 5; what++) due("holds", x.holds(monitor, what), 0);
        }
        due("desk", x.desk(0), -1);
        GossipWatch other = new GossipWatch(0x0102030405060709L);
        due("another seed, another key", x.letter(x.head(0, 0, 0), 37) == other.letter(other.head(0, 0, 0), 37)
            && x.letter(0, 38) == other.letter(0, 38) && x.letter(0, 39) == other.letter(0, 39), false);
        GossipWatch negative = new GossipWatch(-2L);
        negative.head(3, 0, 0);
        dueBytes("a seed below 0", bytesOf(negative, 0), Model.all(Model.one(3), signed(-2L, 3, 0, Model.sha())));
        due("NONE", GossipWatch.NONE, -1);
    }

    private static void append() {
        promise = 2;
        GossipWatch x = new GossipWatch(1L);
        for (int i = 0; i < 80; i++) due("append", x.append(2, 1, i), i + 1);
        due("the 81st", x.append(2, 1, 5), -1);
        due("leaves after the 81st", x.leaves(2, 1), 80);
        due("the other view", x.append(2, 0, 5), 1);
        due("another log", x.append(3, 1, MIN), 1);
        for (int log : NOT_A_LOG) due("append to log " + log, x.append(log, 0, 1), -1);
        for (int view : NOT_A_VIEW) due("append to view " + view, x.append(0, view, 1), -1);
        for (int log = 0; log < 2; log++) {
            for (int view = 0; view < 2; view++) due("leaves", x.leaves(log, view), 0);
        }
    }

    private static void leaves() {
        promise = 3;
        GossipWatch x = new GossipWatch(1L);
        for (int log = 0; log < 4; log++) {
            for (int view = 0; view < 2; view++) grow(x, log, view, 2 * log + view, 0);
        }
        for (int log = 0; log < 4; log++) {
            for (int view = 0; view < 2; view++) due("leaves", x.leaves(log, view), 2 * log + view);
        }
        for (int log : NOT_A_LOG) due("leaves of log " + log, x.leaves(log, 0), -1);
        for (int view : NOT_A_VIEW) due("leaves of view " + view, x.leaves(0, view), -1);
    }

    private static void head() {
        promise = 4;
        GossipWatch x = withLeaves(80);
        for (int n = 0; n <= 80; n++) {
            if (x.letters() == 60) x.clear();
            int letter = x.head(1, 0, n);
            byte[] want = Model.all(Model.one(1), signed(7L, 1, n, Model.root(numbers(n))));
            dueBytes("head of " + n, bytesOf(x, letter), want);
        }
        x.clear();
        x.append(0, 0, -2);
        x.append(0, 0, 0x01020304);
        byte[] root = Model.root(List.of(-2, 0x01020304));
        due("head", x.head(0, 0, 2), 0);
        dueBytes("head", bytesOf(x, 0), Model.all(Model.one(0), signed(7L, 0, 2, root)));
        for (int n : new int[] {-1, 81, MIN, MAX}) due("head of " + n, x.head(1, 0, n), -1);
        due("head of an empty view", x.head(1, 1, 1), -1);
        for (int log : NOT_A_LOG) due("head of log " + log, x.head(log, 0, 0), -1);
        for (int view : NOT_A_VIEW) due("head of view " + view, x.head(0, view, 0), -1);
        due("letters", x.letters(), 1);
        for (int i = 1; i < 60; i++) due("head", x.head(1, 0, i), i);
        due("the 61st", x.head(1, 0, 1), -1);
        due("letters", x.letters(), 60);
        due("the last one stays", x.letter(59, 4), 59);
    }

    private static void proof() {
        promise = 5;
        GossipWatch x = withLeaves(80);
        List<Integer> all = numbers(80);
        for (int n = 2; n <= 80; n++) {
            for (int m = 1; m < n; m++) {
                x.clear();
                due("proof", x.proof(1, 0, m, n), 0);
                byte[] start = Model.all(Model.one(1), Model.four(m), Model.four(n), Model.root(all.subList(0, m)));
                byte[] want = Model.all(start, Model.subproof(m, all.subList(0, n), true));
                dueBytes("proof of " + m + " to " + n, bytesOf(x, 0), want);
                due("kind", x.letter(0, -1), 1);
            }
        }
        int[][] pairs = {{0, 3}, {-1, 3}, {3, 3}, {4, 3}, {3, 81}, {MIN, 3}, {MAX, 3}, {3, MAX}, {3, MIN}, {MIN, MIN}, {0, 0}};
        for (int[] p : pairs) due("proof of " + p[0] + " to " + p[1], x.proof(1, 0, p[0], p[1]), -1);
        due("proof of an empty view", x.proof(1, 1, 1, 2), -1);
        for (int log : NOT_A_LOG) due("proof of log " + log, x.proof(log, 0, 1, 2), -1);
        for (int view : NOT_A_VIEW) due("proof of view " + view, x.proof(1, view, 1, 2), -1);
        due("letters", x.letters(), 1);
        for (int i = 1; i < 60; i++) due("proof", x.proof(1, 0, 1, 2), i);
        due("the 61st", x.proof(1, 0, 1, 2), -1);
    }

    private static void path() {
        promise = 6;
        GossipWatch x = withLeaves(80);
        List<Integer> all = numbers(80);
        for (int n = 1; n <= 80; n++) {
            for (int i = 0; i < n; i++) {
                x.clear();
                due("path", x.path(1, 0, n, i), 0);
                byte[] start = Model.all(Model.one(1), Model.four(n), Model.four(i), Model.four(i));
                dueBytes("path of " + i + " of " + n, bytesOf(x, 0), Model.all(start, Model.pathOf(i, all.subList(0, n))));
                due("kind", x.letter(0, -1), 2);
            }
        }
        int[][] pairs = {{3, 3}, {3, -1}, {81, 3}, {0, 0}, {0, -1}, {-1, -2}, {MIN, 0}, {MIN, MAX}, {MAX, 0}, {3, MAX}, {3, MIN}};
        for (int[] p : pairs) due("path of " + p[1] + " of " + p[0], x.path(1, 0, p[0], p[1]), -1);
        for (int log : NOT_A_LOG) due("path of log " + log, x.path(log, 0, 1, 0), -1);
        for (int view : NOT_A_VIEW) due("path of view " + view, x.path(1, view, 1, 0), -1);
        due("letters", x.letters(), 1);
        for (int i = 1; i < 60; i++) due("path", x.path(1, 0, 2, 1), i);
        due("the 61st", x.path(1, 0, 2, 1), -1);
    }

    private static void alter() {
        promise = 7;
        GossipWatch x = withLeaves(9);
        x.head(1, 0, 9);
        x.proof(1, 0, 3, 9);
        x.path(1, 0, 1, 0);
        byte[] before = bytesOf(x, 0);
        due("alter", x.alter(0, 4, 0xff), 9 ^ 0xff);
        due("only the lowest 8 bits", x.alter(0, 4, 0x7fffff00), 9 ^ 0xff);
        due("a mask below 0", x.alter(0, 4, -1), 9);
        dueBytes("twice is none", bytesOf(x, 0), before);
        due("the first byte", x.alter(0, 0, 4), 5);
        due("the last byte", x.alter(0, 44, 1), before[44] & 255 ^ 1);
        for (int k : new int[] {-1, -2, 45, MIN, MAX}) due("byte " + k, x.alter(0, k, 1), -1);
        due("a proof's last byte", x.alter(1, x.letter(1, -2) - 1, 0) >= 0, true);
        due("a proof's byte", x.alter(1, x.letter(1, -2), 1), -1);
        due("a path's last byte", x.alter(2, 12, 3), 3);
        due("a path's byte", x.alter(2, 13, 1), -1);
        for (int letter : new int[] {-1, 3, 60, MIN, MAX}) due("letter " + letter, x.alter(letter, 0, 1), -1);
    }

    private static void cut() {
        promise = 8;
        GossipWatch x = withLeaves(80);
        x.head(1, 0, 9);
        x.proof(1, 0, 3, 9);
        x.path(1, 0, 80, 3);
        byte[] proof = bytesOf(x, 1);
        byte[] path = bytesOf(x, 2);
        int hashes = (proof.length - 41) / 32;
        due("cut none", x.cut(1, hashes), 0);
        due("too many", x.cut(1, hashes + 1), -1);
        due("below 0", x.cut(1, -1), -1);
        due("far below 0", x.cut(1, MIN), -1);
        due("far above", x.cut(1, MAX), -1);
        dueBytes("as before", bytesOf(x, 1), proof);
        due("cut two", x.cut(1, hashes - 2), 2);
        dueBytes("the first ones", bytesOf(x, 1), Model.part(proof, 0, proof.length - 64));
        due("not so many now", x.cut(1, hashes - 1), -1);
        due("all", x.cut(1, 0), hashes - 2);
        due("none left", x.cut(1, 0), 0);
        due("bytes", x.letter(1, -2), 41);
        due("path", x.cut(2, 8), -1);
        due("path", x.cut(2, 3), 4);
        dueBytes("path", bytesOf(x, 2), Model.part(path, 0, 13 + 3 * 32));
        due("head", x.cut(0, 0), -1);
        due("head", x.cut(0, -1), -1);
        for (int letter : new int[] {-1, 3, MIN, MAX}) due("letter " + letter, x.cut(letter, 0), -1);
        x.clear();
        x.proof(1, 0, 3, 9);
        dueBytes("a place used again", bytesOf(x, 0), proof);
    }

    private static void sign() {
        promise = 9;
        GossipWatch x = withLeaves(9);
        x.head(1, 0, 9);
        x.proof(1, 0, 3, 9);
        x.path(1, 0, 9, 0);
        x.alter(0, 10, 77);
        x.alter(0, 0, 1 ^ 3);
        byte[] changed = bytesOf(x, 0);
        due("sign", x.sign(0), true);
        byte[] want = Model.all(Model.one(3), signed(7L, 3, 9, Model.part(changed, 5, 32)));
        dueBytes("signed by the key of the log that stands there", bytesOf(x, 0), want);
        x.alter(0, 40, 9);
        due("a wrong sign goes", x.sign(0), true);
        dueBytes("as before", bytesOf(x, 0), want);
        putNumber(x, 0, 1, -5);
        due("a size below 0 is signed as it stands", x.sign(0), true);
        byte[] below = Model.all(Model.one(3), signed(7L, 3, -5, Model.part(changed, 5, 32)));
        dueBytes("the sign", bytesOf(x, 0), below);
        due("but is not SIGNED", x.take(0, 0), -1);
        for (int mask : new int[] {3 ^ 4, 3 ^ 255, 3 ^ 128}) {
            x.alter(0, 0, mask);
            byte[] before = bytesOf(x, 0);
            due("a log that isn't", x.sign(0), false);
            dueBytes("nothing done", bytesOf(x, 0), before);
            x.alter(0, 0, mask);
        }
        byte[] proof = bytesOf(x, 1);
        due("a proof", x.sign(1), false);
        dueBytes("a proof", bytesOf(x, 1), proof);
        due("a path", x.sign(2), false);
        for (int letter : new int[] {-1, 3, MIN, MAX}) due("letter " + letter, x.sign(letter), false);
    }

    private static void clear() {
        promise = 10;
        GossipWatch x = withLeaves(9);
        due("none", x.clear(), 0);
        x.proof(1, 0, 3, 9);
        x.head(1, 0, 2);
        x.take(0, 1);
        due("two", x.clear(), 2);
        due("letters", x.letters(), 0);
        due("letter", x.letter(0, -1), -1);
        due("take", x.take(0, 0), -2);
        due("what is held stays", x.holds(0, 0), 1);
        due("leaves stay", x.leaves(1, 0), 9);
        due("numbers from 0 on", x.path(1, 0, 1, 0), 0);
        due("nothing is left of the proof", x.letter(0, -2), 13);
        due("none", x.clear(), 1);
    }

    private static void letters() {
        promise = 11;
        GossipWatch x = withLeaves(9);
        due("none", x.letters(), 0);
        x.head(1, 0, 9);
        due("one", x.letters(), 1);
        x.proof(1, 0, 3, 9);
        x.path(1, 0, 9, 8);
        due("three", x.letters(), 3);
        for (int kind = 0; kind < 3; kind++) due("kind", x.letter(kind, -1), kind);
        x.take(0, 0);
        due("one that is taken stays", x.letters(), 3);
    }

    private static void letter() {
        promise = 12;
        GossipWatch x = withLeaves(9);
        x.head(1, 0, 9);
        x.proof(1, 0, 8, 9);
        x.path(1, 0, 9, 8);
        int[] sizes = {45, 41 + 32, 13 + 32};
        for (int i = 0; i < 3; i++) {
            due("kind", x.letter(i, -1), i);
            due("bytes", x.letter(i, -2), sizes[i]);
            due("log", x.letter(i, 0), 1);
            due("the last byte", x.letter(i, sizes[i] - 1) >= 0, true);
            for (int k : new int[] {-3, sizes[i], MIN, MAX}) due("byte " + k, x.letter(i, k), -1);
        }
        x.alter(0, 44, x.letter(0, 44) ^ 255);
        due("a byte is 0 to 255", x.letter(0, 44), 255);
        for (int i : new int[] {-1, 3, MIN, MAX}) {
            for (int k : new int[] {-2, -1, 0}) due("letter " + i, x.letter(i, k), -1);
        }
    }

    private static void takeHead() {
        promise = 13;
        GossipWatch x = withLeaves(9);
        x.head(1, 0, 9);
        due("new", x.take(0, 0), 1);
        due("known", x.take(0, 0), 0);
        due("another monitor", x.take(3, 0), 1);
        for (int at = 0; at < 45; at++) {
            x.alter(0, at, 1);
            due("not signed, byte " + at, x.take(0, 0), -1);
            x.alter(0, at, 1);
        }
        due("known", x.take(0, 0), 0);
        x.alter(0, 1, 128);
        x.sign(0);
        due("a size below 0", x.take(0, 0), -1);
        x.alter(0, 1, 128);
        x.alter(0, 0, 1 ^ 2);
        x.sign(0);
        due("the same of another log", x.take(0, 0), 1);
        due("no record", x.holds(0, 2), 0);
        putNumber(x, 0, 1, MAX);
        x.sign(0);
        due("a great size", x.take(0, 0), 1);
        due("no record", x.holds(0, 2), 0);
        x.alter(0, 36, 1);
        x.sign(0);
        due("another root", x.take(0, 0), 1);
        due("a record", x.holds(0, 2), 1);
        due("the one", x.record(0, 0, 1), 2);
        due("the other", x.record(0, 0, 2), 3);
        for (int monitor : NOT_A_MONITOR) due("monitor " + monitor, x.take(monitor, 0), -2);
        for (int letter : new int[] {-1, 1, MIN, MAX}) due("letter " + letter, x.take(0, letter), -2);
        due("letters", x.letters(), 1);
    }

    private static void takeHeadFull() {
        promise = 13;
        GossipWatch x = new GossipWatch(9L);
        for (int i = 0; i < 6; i++) due("forked", takeForged(x, 0, 0, 5, i), 1);
        due("records", x.holds(0, 2), 15);
        due("six more don't fit", takeForged(x, 0, 0, 5, 6), -3);
        due("heads", x.holds(0, 0), 6);
        due("records", x.holds(0, 2), 15);
        due("no sixteenth", x.record(0, 15, 0), -1);
        due("a known one is still known", takeForged(x, 0, 0, 5, 5), 0);
        due("another size is taken", takeForged(x, 0, 0, 6, 0), 1);
        due("one record fits", takeForged(x, 0, 0, 6, 1), 1);
        due("sixteen", x.holds(0, 2), 16);
        due("two records fit", takeForged(x, 0, 0, 6, 2), 1);
        due("eighteen", x.holds(0, 2), 18);
        due("three don't", takeForged(x, 0, 0, 6, 3), -3);
        due("another size", takeForged(x, 0, 0, 7, 0), 1);
        due("nineteen", takeForged(x, 0, 0, 7, 1), 1);
        due("another size", takeForged(x, 0, 0, 8, 0), 1);
        due("twenty", takeForged(x, 0, 0, 8, 1), 1);
        due("twenty", x.holds(0, 2), 20);
        due("twenty-one", takeForged(x, 0, 0, 8, 2), -3);
        due("no record needed", takeForged(x, 0, 1, 8, 2), 1);
        for (int i = x.holds(0, 0); i < 20; i++) due("head", takeForged(x, 0, 2, 100 + i, 0), 1);
        due("the 21st head", takeForged(x, 0, 2, 99, 0), -3);
        due("not signed comes before full", unsigned(x), -1);
        due("known comes before full", takeForged(x, 0, 2, 119, 0), 0);
        due("heads", x.holds(0, 0), 20);
        due("-3", x.holds(0, 4), 4);
    }

    private static int unsigned(GossipWatch x) {
        int letter = x.head(3, 0, 0);
        x.alter(letter, 44, 1);
        return x.take(0, letter);
    }

    private static void takeProof() {
        promise = 13;
        GossipWatch x = new GossipWatch(7L);
        grow(x, 1, 0, 80, 0);
        grow(x, 1, 1, 80, 1000);
        for (int n = 2; n <= 80; n += 13) {
            for (int m = 1; m < n; m++) {
                x.clear();
                GossipWatch y = new GossipWatch(7L);
                grow(y, 1, 0, n, 0);
                y.proof(1, 0, m, n);
                due("no head", y.take(2, 0), -1);
                y.head(1, 0, n);
                y.take(2, 1);
                due("proof of " + m + " to " + n, y.take(2, 0), 1);
                due("known", y.take(2, 0), 0);
                due("cut", y.cut(0, (y.letter(0, -2) - 41) / 32 - 1), 1);
                due("cut", y.take(2, 0), -1);
            }
        }
        x.clear();
        int other = x.head(1, 1, 9);
        int one = x.head(1, 0, 9);
        int proof = x.proof(1, 0, 5, 9);
        int small = x.head(1, 1, 5);
        due("a head of the other view", x.take(0, other), 1);
        due("accepted for none", x.take(0, proof), -1);
        due("small", x.take(0, small), 1);
        due("the right one too", x.take(0, one), 1);
        due("records", x.holds(0, 2), 1);
        due("accepted", x.take(0, proof), 1);
        due("for the third", x.fact(0, 0, 2), 2);
        due("a record", x.holds(0, 2), 2);
        int[] want = {2, 1, 2, 0};
        for (int what = 0; what < 4; what++) due("record", x.record(0, 1, what), want[what]);
        due("before the proof the size's head came", x.take(0, x.head(1, 0, 5)), 1);
        due("a fork, no breach", x.holds(0, 2), 3);
        due("a fork", x.record(0, 2, 0), 1);
        due("of another log", takeForged(x, 0, 2, 5, 3), 1);
        due("no record", x.holds(0, 2), 3);
        due("the same m, another head", x.take(0, x.head(1, 0, 11)), 1);
        due("is a new fact", x.take(0, x.proof(1, 0, 5, 11)), 1);
        due("its head", x.fact(0, 1, 2), 5);
        due("a breach again", x.record(0, 3, 3), 1);
        due("a new head breaks both facts and both forks", takeForged(x, 0, 1, 5, 4), 1);
        int[][] due = {{1, 1, 6, -1}, {1, 3, 6, -1}, {2, 6, 2, 0}, {2, 6, 5, 1}};
        due("records", x.holds(0, 2), 8);
        for (int i = 0; i < 4; i++) {
            for (int what = 0; what < 4; what++) due("record " + i, x.record(0, 4 + i, what), due[i][what]);
        }
    }

    private static void takeProofFull() {
        promise = 13;
        GossipWatch x = withLeaves(20);
        x.take(0, x.head(1, 0, 20));
        for (int m = 1; m <= 12; m++) due("fact", x.take(0, x.proof(1, 0, m, 20)), 1);
        due("the 13th", x.take(0, x.proof(1, 0, 13, 20)), -3);
        due("a known one", x.take(0, x.proof(1, 0, 12, 20)), 0);
        due("an unknown head", x.take(0, x.proof(1, 0, 12, 19)), -1);
        due("facts", x.holds(0, 1), 12);
        due("-3", x.holds(0, 4), 1);
        due("NONE", x.holds(0, 3), 1);

        GossipWatch y = withLeaves(20);
        for (int i = 1; i <= 6; i++) takeForged(y, 0, 1, 5, i);
        due("records", y.holds(0, 2), 15);
        due("head", y.take(0, y.head(1, 0, 8)), 1);
        due("six more don't fit", y.take(0, y.proof(1, 0, 5, 8)), -3);
        due("facts", y.holds(0, 1), 0);
        due("records", y.holds(0, 2), 15);
        due("none is needed", y.take(0, y.proof(1, 0, 4, 8)), 1);
        due("a head that breaks the fact", takeForged(y, 0, 1, 4, 1), 1);
        due("sixteen", y.holds(0, 2), 16);
        due("kind", y.record(0, 15, 0), 2);
        due("and one more that is a fork too", takeForged(y, 0, 1, 4, 2), 1);
        due("eighteen", y.holds(0, 2), 18);
        due("two forks and a breach don't fit", takeForged(y, 0, 1, 4, 3), -3);
        due("eighteen", y.holds(0, 2), 18);
        due("head", y.take(0, y.head(1, 0, 9)), 1);
        due("two breaches fit", y.take(0, y.proof(1, 0, 4, 9)), 1);
        due("twenty", y.holds(0, 2), 20);
        due("facts", y.holds(0, 1), 2);
        due("-3", y.holds(0, 4), 2);
    }

    private static void takeChangedProof() {
        promise = 13;
        GossipWatch x = withLeaves(9);
        x.take(0, x.head(1, 0, 9));
        for (int m : new int[] {3, 4, 8}) {
            int proof = x.proof(1, 0, m, 9);
            int bytes = x.letter(proof, -2);
            for (int at = 0; at < bytes; at++) {
                x.alter(proof, at, 128);
                due("byte " + at, x.take(0, proof), -1);
                x.alter(proof, at, 128);
            }
            due("as it was", x.take(0, proof), 1);
        }
        for (int shift = 0; shift < 30; shift++) {
            GossipWatch y = withLeaves(2);
            int m = 1 << shift;
            int head = y.head(1, 0, 2);
            int proof = y.proof(1, 0, 1, 2);
            putNumber(y, head, 1, 2 * m);
            y.sign(head);
            y.take(0, head);
            putNumber(y, proof, 5, 2 * m);
            putNumber(y, proof, 1, m);
            due("m 2^" + shift, y.take(0, proof), 1);
            due("m", y.fact(0, 0, 1), m);
            for (int other : new int[] {0, -1, MIN, 2 * m, 2 * m + 1, m + 1 < 2 * m ? m + 1 : 0}) {
                putNumber(y, proof, 1, other);
                due("m " + other, y.take(0, proof), -1);
            }
        }
        GossipWatch y = withLeaves(9);
        y.take(0, y.head(1, 0, 9));
        int proof = y.proof(1, 0, 8, 9);
        y.take(0, proof);
        int byteOfR = y.letter(proof, 9);
        y.alter(proof, 9, 255);
        due("a fact is a copy", y.fact(0, 0, 4), byteOfR);
    }

    private static void takeProofToItself() {
        promise = 13;
        GossipWatch x = withLeaves(3);
        due("head", x.take(0, x.head(1, 0, 3)), 1);
        int proof = x.proof(1, 0, 1, 3);
        due("two hashes", x.letter(proof, -2), 41 + 64);
        due("from 1", x.take(0, proof), 1);
        byte[] start = Model.all(Model.one(1), Model.four(3), Model.four(3), Model.root(numbers(3)));
        putBytes(x, proof, Model.all(start, hashesOfThree()));
        due("from 3 to 3", x.take(0, proof), -1);
        x.cut(proof, 0);
        due("without hashes", x.take(0, proof), -1);
    }

    private static void takePath() {
        promise = 13;
        GossipWatch x = withLeaves(80);
        for (int n : new int[] {1, 2, 3, 7, 8, 9, 31, 64, 65, 79, 80}) {
            x.take(1, x.head(1, 0, n));
            for (int i = 0; i < n; i++) {
                if (x.letters() == 60) x.clear();
                int path = x.path(1, 0, n, i);
                due("path of " + i + " of " + n, x.take(1, path), 1);
                due("no such head", x.take(2, path), 0);
                int last = x.letter(path, -2) - 1;
                for (int at : new int[] {0, 2, 4, 5, 8, 12, last}) {
                    x.alter(path, at, 128);
                    due("byte " + at, x.take(1, path), 0);
                    x.alter(path, at, 128);
                }
                if (n > 1) {
                    x.cut(path, (last + 1 - 13) / 32 - 1);
                    due("cut", x.take(1, path), 0);
                }
            }
        }
        due("nothing is counted", x.holds(1, 3) + x.holds(1, 4) + x.holds(2, 3), 0);
        due("nothing is held", x.holds(1, 1), 0);
        GossipWatch y = withLeaves(2);
        int head = y.head(1, 0, 2);
        int path = y.path(1, 0, 2, 1);
        putNumber(y, head, 1, (1 << 30) + 1);
        y.sign(head);
        y.take(0, head);
        putNumber(y, path, 1, (1 << 30) + 1);
        due("i is another", y.take(0, path), 0);
        putNumber(y, path, 5, 1 << 30);
        due("a great i", y.take(0, path), 1);
        putNumber(y, path, 5, (1 << 30) + 1);
        due("i is n", y.take(0, path), 0);
        due("an empty tree has no path", emptyPath(), 0);
    }

    private static int emptyPath() {
        GossipWatch x = withLeaves(1);
        x.take(0, x.head(1, 0, 0));
        int path = x.path(1, 0, 1, 0);
        putNumber(x, path, 1, 0);
        return x.take(0, path);
    }

    private static void gossip() {
        promise = 14;
        GossipWatch x = withLeaves(9);
        grow(x, 1, 1, 9, 100);
        for (int n = 1; n <= 5; n++) x.take(0, x.head(1, 0, n));
        for (int n = 4; n <= 6; n++) x.take(1, x.head(1, 1, n));
        x.take(1, x.head(1, 0, 3));
        due("of one that holds none", x.gossip(3, 0), 0);
        due("gossip", x.gossip(0, 1), 4);
        due("heads", x.holds(1, 0), 8);
        due("the teller's stay", x.holds(0, 0), 5);
        int[] sizes = {4, 5, 6, 3, 1, 2, 4, 5};
        for (int i = 0; i < 8; i++) due("by numbers", x.held(1, i, 4), sizes[i]);
        due("records", x.holds(1, 2), 2);
        int[][] want = {{1, 0, 6, -1}, {1, 1, 7, -1}};
        for (int i = 0; i < 2; i++) {
            for (int what = 0; what < 4; what++) due("record", x.record(1, i, what), want[i][what]);
        }
        due("again", x.gossip(0, 1), 0);
        due("back", x.gossip(1, 0), 3);
        for (int m : NOT_A_MONITOR) {
            due("of " + m, x.gossip(m, 0), -1);
            due("to " + m, x.gossip(0, m), -1);
            due("both " + m, x.gossip(m, m), -1);
        }
        for (int m = 0; m < 4; m++) due("to itself", x.gossip(m, m), -1);
        due("nothing is counted for NONE", x.holds(0, 3), 0);

        GossipWatch y = new GossipWatch(3L);
        for (int i = 0; i < 18; i++) takeForged(y, 0, 0, i, 1);
        for (int i = 0; i < 5; i++) takeForged(y, 1, 1, i, 1);
        due("two fit", y.gossip(1, 0), 2);
        due("three didn't", y.holds(0, 4), 3);
        due("those of the teller", y.holds(1, 4), 0);
        due("the known ones are 0, the others -3", y.gossip(1, 0), 0);
        due("six", y.holds(0, 4), 6);
    }

    private static void holds() {
        promise = 15;
        GossipWatch x = withLeaves(9);
        int head = x.head(1, 0, 9);
        x.take(2, head);
        x.take(2, head);
        x.alter(head, 5, 1);
        x.take(2, head);
        x.sign(head);
        x.take(2, head);
        int proof = x.proof(1, 0, 3, 9);
        x.take(2, proof);
        x.alter(proof, 9, 1);
        x.take(2, proof);
        x.take(2, 77);
        int[] want = {2, 1, 1, 2, 0};
        for (int what = 0; what < 5; what++) due("holds " + what, x.holds(2, what), want[what]);
        for (int what = 0; what < 5; what++) due("another monitor", x.holds(1, what), 0);
        for (int what : new int[] {-1, 5, MIN, MAX}) due("what " + what, x.holds(2, what), -1);
        for (int monitor : NOT_A_MONITOR) due("monitor " + monitor, x.holds(monitor, 0), -1);
    }

    private static void held() {
        promise = 16;
        GossipWatch x = withLeaves(9);
        x.head(1, 0, 9);
        x.head(1, 0, 4);
        byte[][] want = {bytesOf(x, 1), bytesOf(x, 0)};
        x.take(3, 1);
        x.take(3, 0);
        x.alter(0, 20, 255);
        x.clear();
        for (int i = 0; i < 2; i++) {
            for (int k = 0; k < 45; k++) due("held", x.held(3, i, k), want[i][k] & 255);
            for (int k : new int[] {-1, -2, 45, MIN, MAX}) due("byte " + k, x.held(3, i, k), -1);
        }
        for (int i : new int[] {-1, 2, 20, MIN, MAX}) due("head " + i, x.held(3, i, 0), -1);
        for (int monitor : NOT_A_MONITOR) due("monitor " + monitor, x.held(monitor, 0, 0), -1);
        due("another monitor", x.held(0, 0, 0), -1);
    }

    private static void fact() {
        promise = 17;
        GossipWatch x = withLeaves(80);
        x.take(1, x.head(1, 0, 3));
        x.take(1, x.head(1, 0, 80));
        int proof = x.proof(1, 0, 77, 80);
        byte[] bytes = bytesOf(x, proof);
        x.take(1, proof);
        x.clear();
        due("log", x.fact(1, 0, 0), 1);
        due("m", x.fact(1, 0, 1), 77);
        due("head", x.fact(1, 0, 2), 1);
        due("hashes", x.fact(1, 0, 3), (bytes.length - 41) / 32);
        for (int k = 0; k < 32; k++) due("r", x.fact(1, 0, 4 + k), bytes[9 + k] & 255);
        for (int what : new int[] {-1, 36, MIN, MAX}) due("what " + what, x.fact(1, 0, what), -1);
        for (int i : new int[] {-1, 1, 12, MIN, MAX}) due("fact " + i, x.fact(1, i, 0), -1);
        for (int monitor : NOT_A_MONITOR) due("monitor " + monitor, x.fact(monitor, 0, 0), -1);
        due("another monitor", x.fact(0, 0, 0), -1);
    }

    /** Monitor 0 with a fork (record 0) and a breach (record 1). */
    private static GossipWatch twoRecords() {
        GossipWatch x = new GossipWatch(7L);
        grow(x, 1, 0, 9, 0);
        grow(x, 1, 1, 9, 100);
        x.take(0, x.head(1, 0, 2));
        x.take(0, x.head(1, 0, 7));
        x.take(0, x.head(1, 1, 7));
        x.take(0, x.head(1, 0, 3));
        x.take(0, x.proof(1, 1, 3, 7));
        return x;
    }

    private static void record() {
        promise = 18;
        GossipWatch x = twoRecords();
        int[][] want = {{1, 1, 2, -1}, {2, 3, 2, 0}};
        due("records", x.holds(0, 2), 2);
        for (int i = 0; i < 2; i++) {
            for (int what = 0; what < 4; what++) due("record " + i, x.record(0, i, what), want[i][what]);
            for (int what : new int[] {-1, 4, MIN, MAX}) due("what " + what, x.record(0, i, what), -1);
        }
        for (int i : new int[] {-1, 2, 20, MIN, MAX}) due("record " + i, x.record(0, i, 0), -1);
        for (int monitor : NOT_A_MONITOR) due("monitor " + monitor, x.record(monitor, 0, 0), -1);
        due("another monitor", x.record(1, 0, 0), -1);
    }

    private static byte[] heldPart(GossipWatch x, int monitor, int i) {
        byte[] part = new byte[44];
        for (int k = 0; k < 44; k++) part[k] = (byte) x.held(monitor, i, 1 + k);
        return part;
    }

    private static void lay() {
        promise = 19;
        GossipWatch x = twoRecords();
        x.trim(634);
        x.patch(100, 3);
        due("a fork", x.lay(0, 0), 90);
        dueBytes("a fork", deskOf(x), Model.all(new byte[] {1, 1}, heldPart(x, 0, 1), heldPart(x, 0, 2)));
        byte[] proof = bytesOf(x, 4);
        x.clear();
        due("a breach", x.lay(0, 1), 90 + proof.length - 9);
        byte[] breach = Model.all(new byte[] {2, 1}, heldPart(x, 0, 3), heldPart(x, 0, 2), Model.part(proof, 9, proof.length - 9));
        dueBytes("a breach", deskOf(x), breach);
        for (int i : new int[] {-1, 2, MIN, MAX}) due("record " + i, x.lay(0, i), -1);
        for (int monitor : NOT_A_MONITOR) due("monitor " + monitor, x.lay(monitor, 0), -1);
        due("another monitor", x.lay(1, 0), -1);
        dueBytes("nothing done", deskOf(x), breach);
    }

    private static void desk() {
        promise = 20;
        GossipWatch x = twoRecords();
        due("none", x.desk(0), -1);
        x.lay(0, 0);
        due("kind", x.desk(0), 1);
        due("the first size", x.desk(5), 7);
        due("the other size", x.desk(49), 7);
        x.patch(89, -1);
        due("a byte is 0 to 255", x.desk(89), 255);
        for (int k : new int[] {-1, 90, MIN, MAX}) due("byte " + k, x.desk(k), -1);
        x.trim(634);
        due("the last byte", x.desk(633), 0);
        due("one more", x.desk(634), -1);
    }

    private static void patch() {
        promise = 21;
        GossipWatch x = new GossipWatch(7L);
        due("none", x.patch(0, 1), false);
        x.trim(634);
        due("the first", x.patch(0, 511), true);
        due("lowest 8 bits", x.desk(0), 255);
        due("the last", x.patch(633, -2), true);
        due("lowest 8 bits", x.desk(633), 254);
        due("no or, no exclusive or", x.patch(633, 256), true);
        due("lowest 8 bits", x.desk(633), 0);
        for (int k : new int[] {-1, 634, MIN, MAX}) due("byte " + k, x.patch(k, 1), false);
        x.trim(3);
        due("outside now", x.patch(3, 9), false);
        x.trim(4);
        due("nothing was done", x.desk(3), 0);
    }

    private static void trim() {
        promise = 22;
        GossipWatch x = new GossipWatch(7L);
        due("all", x.trim(634), true);
        for (int k = 0; k < 634; k++) x.patch(k, 1 + k % 255);
        for (int n : new int[] {-1, 635, MIN, MAX}) due("trim " + n, x.trim(n), false);
        due("nothing done", x.desk(633), 1 + 633 % 255);
        due("fewer", x.trim(10), true);
        due("the last", x.desk(9), 10);
        due("gone", x.desk(10), -1);
        due("more", x.trim(20), true);
        due("as it was", x.desk(9), 10);
        for (int k = 10; k < 20; k++) due("new ones are 0", x.desk(k), 0);
        due("none", x.trim(0), true);
        due("none", x.desk(0), -1);
        due("all", x.trim(634), true);
        for (int k = 0; k < 634; k++) due("all are 0", x.desk(k), 0);
    }

    private static void auditFork() {
        promise = 23;
        GossipWatch x = twoRecords();
        due("an empty desk", x.audit(), false);
        x.lay(0, 0);
        due("a fork", x.audit(), true);
        for (int k = 0; k < 90; k++) {
            int was = x.desk(k);
            x.patch(k, was ^ 1);
            due("byte " + k, x.audit(), false);
            x.patch(k, was);
        }
        due("as it was", x.audit(), true);
        for (int n : new int[] {91, 122, 89, 0}) {
            x.trim(n);
            due("of " + n + " bytes", x.audit(), false);
        }
        byte[] a = Model.sha(new byte[] {1});
        byte[] b = Model.sha(new byte[] {2});
        for (int log = 0; log < 4; log++) {
            for (int size : new int[] {0, 1, MAX}) {
                putOnDesk(x, Model.all(Model.one(1), Model.one(log), signed(7L, log, size, a), signed(7L, log, size, b)));
                due("right by its bytes alone", x.audit(), true);
            }
        }
        putOnDesk(x, Model.all(Model.one(1), Model.one(2), signed(7L, 2, -1, a), signed(7L, 2, -1, b)));
        due("a size below 0", x.audit(), false);
        putOnDesk(x, Model.all(Model.one(1), Model.one(2), signed(7L, 2, 5, a), signed(7L, 2, 6, b)));
        due("two sizes", x.audit(), false);
        putOnDesk(x, Model.all(Model.one(1), Model.one(2), signed(7L, 2, 5, a), signed(7L, 2, 5, a)));
        due("one root", x.audit(), false);
        putOnDesk(x, Model.all(Model.one(1), Model.one(2), signed(7L, 2, 5, a), signed(7L, 1, 5, b)));
        due("another log's sign", x.audit(), false);
        putOnDesk(x, Model.all(Model.one(1), Model.one(4), signed(7L, 4, 5, a), signed(7L, 4, 5, b)));
        due("no log", x.audit(), false);
        putOnDesk(x, Model.all(Model.one(1), Model.one(255), signed(7L, 255, 5, a), signed(7L, 255, 5, b)));
        due("no log", x.audit(), false);
        putOnDesk(x, Model.all(Model.one(3), Model.one(2), signed(7L, 2, 5, a), signed(7L, 2, 5, b)));
        due("no kind", x.audit(), false);
        putOnDesk(x, Model.all(Model.one(0), Model.one(2), signed(7L, 2, 5, a), signed(7L, 2, 5, b)));
        due("no kind", x.audit(), false);
        putOnDesk(x, Model.all(Model.one(2), Model.one(2), signed(7L, 2, 5, a), signed(7L, 2, 5, b)));
        due("a fork as a breach", x.audit(), false);
    }

    private static void auditBreach() {
        promise = 23;
        GossipWatch x = twoRecords();
        int n = x.lay(0, 1);
        due("a breach", x.audit(), true);
        for (int k = 0; k < n; k++) {
            int was = x.desk(k);
            x.patch(k, was ^ 1);
            due("byte " + k, x.audit(), false);
            x.patch(k, was);
        }
        due("as it was", x.audit(), true);
        for (int size : new int[] {n + 32, n + 1, n - 1, n - 32, 122, 121, 90, 89, 1}) {
            x.lay(0, 1);
            x.trim(size);
            due("of " + size + " bytes", x.audit(), false);
        }
        GossipWatch y = withLeaves(9);
        y.take(0, y.head(1, 0, 9));
        y.take(0, y.proof(1, 0, 4, 9));
        takeForged(y, 0, 1, 4, 0);
        due("a breach", y.holds(0, 2), 1);
        y.lay(0, 0);
        due("of m a power of 2", y.audit(), true);
        byte[] r = Model.root(numbers(4));
        byte[] desk = deskOf(y);
        byte[] rest = Model.part(desk, 46, desk.length - 46);
        putOnDesk(y, Model.all(new byte[] {2, 1}, signed(7L, 1, 4, r), rest));
        due("r is the first root", y.audit(), false);
        byte[] other = Model.sha(new byte[] {5});
        for (int m : new int[] {0, 9, 10, -4, 3, 5, MAX}) {
            putOnDesk(y, Model.all(new byte[] {2, 1}, signed(7L, 1, m, other), rest));
            due("m " + m, y.audit(), false);
        }
        putOnDesk(y, Model.all(new byte[] {2, 1}, signed(7L, 1, 4, other), rest));
        due("m 4", y.audit(), true);
    }

    private static void auditProofToItself() {
        promise = 23;
        GossipWatch x = new GossipWatch(7L);
        byte[] root = Model.root(numbers(3));
        byte[] first = signed(7L, 1, 3, Model.sha());
        putOnDesk(x, Model.all(new byte[] {2, 1}, first, signed(7L, 1, 3, root), root, hashesOfThree()));
        due("from 3 to 3", x.audit(), false);
        x.trim(122);
        due("without hashes", x.audit(), false);
    }

    /** A breach from m = 2^15 - 1 to n = 2^15 has 1 + 15 hashes: as many as a DESK can have. */
    private static void auditBounds() {
        promise = 23;
        for (int levels = 1; levels <= 16; levels++) {
            byte[] hashes = Model.sha(new byte[] {9});
            byte[] older = hashes;
            byte[] newer = Model.pair(hashes, Model.sha(new byte[] {10}));
            hashes = Model.all(hashes, Model.sha(new byte[] {10}));
            for (int i = 1; i < levels; i++) {
                byte[] c = Model.sha(new byte[] {(byte) (10 + i)});
                hashes = Model.all(hashes, c);
                older = Model.pair(c, older);
                newer = Model.pair(c, newer);
            }
            int n = 1 << levels;
            // From 1 to 2 the one leaf is r itself, and is not among the hashes.
            if (levels == 1) hashes = Model.part(hashes, 32, 32);
            byte[] first = signed(-9L, 3, n - 1, Model.sha());
            byte[] desk = Model.all(new byte[] {2, 3}, first, signed(-9L, 3, n, newer), older, hashes);
            GossipWatch x = new GossipWatch(-9L);
            if (desk.length > 634) {
                due("16 hashes at most", levels, 16);
                continue;
            }
            putOnDesk(x, desk);
            due(levels + " levels", x.audit(), true);
            if (x.trim(desk.length + 32)) due("a hash more", x.audit(), false);
        }
    }

    private static void hash() {
        promise = 24;
        GossipWatch x = new GossipWatch(7L);
        for (int n = 0; n <= 634; n++) {
            x.trim(n);
            if (n > 0) x.patch(n - 1, n * 7 + 3);
            byte[] want = Model.sha(deskOf(x));
            for (int k = 0; k < 32; k++) due("byte " + k + " of " + n, x.hash(k), want[k] & 255);
        }
        for (int k : new int[] {-1, 32, MIN, MAX}) due("byte " + k, x.hash(k), -1);
        x.trim(3);
        x.patch(0, 'a');
        x.patch(1, 'b');
        x.patch(2, 'c');
        due("abc", x.hash(0), 0xba);
        due("abc", x.hash(31), 0xad);
        due("the desk stays", x.desk(3), -1);
    }
}
