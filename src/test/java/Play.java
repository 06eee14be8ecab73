import java.util.ArrayList;
import java.util.List;

/** What the tests are made of: leaves, letters that were changed on the way, bytes that are due. */
final class Play {
    static final int NONE = GossipWatch.NONE;
    static final int MIN = Integer.MIN_VALUE;
    static final int MAX = Integer.MAX_VALUE;
    static final int[] NOT_A_LOG = {-1, 4, 255, 256, MIN, MAX};
    static final int[] NOT_A_VIEW = {-1, 2, MIN, MAX};
    static final int[] NOT_A_MONITOR = {-1, 4, MIN, MAX};

    private Play() {
    }

    static int bit(boolean b) {
        return b ? 1 : 0;
    }

    /** So many leaves more: each is its own place, with a number added. */
    static void grow(Watch x, int log, int view, int count, int added) {
        int have = x.leaves(log, view);
        for (int i = have; i < have + count; i++) x.append(log, view, i + added);
    }

    /** The leaves that grow makes in a new VIEW, with nothing added. */
    static List<Integer> numbers(int count) {
        List<Integer> all = new ArrayList<>();
        for (int i = 0; i < count; i++) all.add(i);
        return all;
    }

    static Watch withLeaves(int count) {
        Watch x = new Watch(Scene.SEED);
        grow(x, 1, 0, count, 0);
        return x;
    }

    // ---- letters

    static byte[] bytesOf(Watch x, int letter) {
        byte[] bytes = new byte[Math.max(0, x.letter(letter, -2))];
        for (int k = 0; k < bytes.length; k++) bytes[k] = (byte) x.letter(letter, k);
        return bytes;
    }

    static int hashesOf(Watch x, int letter) {
        return (x.letter(letter, -2) - (x.letter(letter, -1) == 1 ? 41 : 13)) / 32;
    }

    static void putNumber(Watch x, int letter, int at, int v) {
        for (int k = 0; k < 4; k++) {
            int mask = (x.letter(letter, at + k) ^ v >>> 24 - 8 * k) & 255;
            if (mask != 0) x.alter(letter, at + k, mask);
        }
    }

    static void putBytes(Watch x, int letter, int at, byte[] bytes) {
        for (int k = 0; k < bytes.length; k++) {
            int mask = (x.letter(letter, at + k) ^ bytes[k]) & 255;
            if (mask != 0) x.alter(letter, at + k, mask);
        }
    }

    /** A HEAD's bytes without its LOG, as they are due; of a LOG that is none too, as if it had a KEY. */
    static byte[] signed(long seed, int log, int size, byte[] root) {
        byte[] sizeAndRoot = Model.all(Model.four(size), root);
        return Model.all(sizeAndRoot, new Model(seed).signOf(log, sizeAndRoot));
    }

    static byte[] headBytes(int log, int size, byte[] root) {
        return Model.all(Model.one(log), signed(Scene.SEED, log, size, root));
    }

    /** A letter: a HEAD of that SIZE, SIGNED, whose ROOT is that of no leaves with a mark on its last byte. */
    static int forge(Watch x, int log, int size, int mark) {
        int letter = x.head(log, 0, 0);
        for (int k = 0; k < 4; k++) {
            int part = size >>> 24 - 8 * k & 255;
            if (part != 0) x.alter(letter, 1 + k, part);
        }
        if (mark != 0) x.alter(letter, 36, mark);
        x.sign(letter);
        return letter;
    }

    static byte[] forgedRoot(int mark) {
        byte[] root = Model.sha();
        root[31] ^= (byte) mark;
        return root;
    }

    static int takeForged(Watch x, int monitor, int log, int size, int mark) {
        if (x.letters() == 60) x.clear();
        return x.take(monitor, forge(x, log, size, mark));
    }

    /** For each group so many HEADS of one SIZE (100, 101, ..): a group of g raises g (g - 1) / 2 RECORDS. */
    static void fork(Watch x, int monitor, int log, int... groups) {
        for (int group = 0; group < groups.length; group++) {
            for (int i = 0; i < groups[group]; i++) takeForged(x, monitor, log, 100 + group, 1 + i);
        }
    }

    // ---- the DESK

    static byte[] deskOf(Watch x) {
        List<Integer> seen = new ArrayList<>();
        for (int v = x.desk(0); v != NONE; v = x.desk(seen.size())) seen.add(v);
        byte[] bytes = new byte[seen.size()];
        for (int k = 0; k < bytes.length; k++) bytes[k] = seen.get(k).byteValue();
        return bytes;
    }

    /** New bytes are 0, so that only the others cost a call. */
    static void putOnDesk(Watch x, byte[] bytes) {
        x.trim(0);
        x.trim(bytes.length);
        for (int k = 0; k < bytes.length; k++) {
            if (bytes[k] != 0) x.patch(k, bytes[k]);
        }
    }

    static byte[] forkRecord(int log, byte[] first, byte[] other) {
        return Model.all(Model.one(1), Model.one(log), first, other);
    }

    static byte[] breachRecord(int log, byte[] first, byte[] other, byte[] rAndHashes) {
        return Model.all(Model.one(2), Model.one(log), first, other, rAndHashes);
    }
}
