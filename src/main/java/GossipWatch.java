/** Logs, letters, monitors and an auditor, as ../shared/DOC.md promises them. */
public final class GossipWatch {
    public static final int NONE = -1;

    private static final int NO_SUCH = -2;
    private static final int FULL = -3;

    private static final int LOGS = 4;
    private static final int VIEWS = 2;
    private static final int MOST_LETTERS = 60;
    private static final int MONITORS = 4;

    private static final int HASH = 32;
    private static final int MOST_HASHES_ON_DESK = 16;
    // 80 leaves stand in a tree of seven levels below its root, and a PROOF may have one hash more.
    private static final int MOST_HASHES_OF_LETTER = 8;

    // Where the parts of a letter begin. LOG is byte 0 of every kind, and of a HEAD and a PATH
    // the number that follows is the size of the tree, so that five bytes compare both at once.
    private static final int HEAD_SIZE = 1;
    private static final int HEAD_ROOT = 5;
    private static final int HEAD_BYTES = 45;
    private static final int PROOF_M = 1;
    private static final int PROOF_N = 5;
    private static final int PROOF_R = 9;
    private static final int PROOF_HASHES = 41;
    private static final int MOST_PROOF_BYTES = PROOF_HASHES + MOST_HASHES_OF_LETTER * HASH;
    private static final int PATH_N = 1;
    private static final int PATH_I = 5;
    private static final int PATH_LEAF = 9;
    private static final int PATH_HASHES = 13;
    private static final int LOG_AND_NUMBER = 5;

    // A HEAD without its LOG, as a RECORD has it: SIZE, ROOT, SIGN.
    private static final int SIZE_AND_ROOT = 36;
    private static final int SIGN_BYTES = 8;
    private static final int HEAD_PART = 44;

    private static final int RECORD_LOG = 1;
    private static final int RECORD_FIRST = 2;
    private static final int RECORD_OTHER = 46;
    private static final int RECORD_R = 90;
    private static final int RECORD_HASHES = 122;
    private static final int MOST_DESK = RECORD_HASHES + MOST_HASHES_ON_DESK * HASH;

    private final Sha sha;
    private final Keys keys;
    private final Climb climb;
    private final View[] views;
    private final Letter[] post;
    private final Monitor[] monitors;
    private final Row onDesk;
    private final Row stack;
    private int posted;

    public GossipWatch(long seed) {
        sha = new Sha();
        keys = new Keys();
        keys.makeFrom(sha, seed);
        climb = new Climb();
        views = new View[LOGS * VIEWS];
        for (int i = 0; i < views.length; i++) {
            views[i] = new View();
        }
        post = new Letter[MOST_LETTERS];
        for (int i = 0; i < post.length; i++) {
            post[i] = new Letter();
        }
        monitors = new Monitor[MONITORS];
        for (int i = 0; i < monitors.length; i++) {
            monitors[i] = new Monitor();
        }
        onDesk = new Row(MOST_DESK);
        stack = new Row(MOST_HASHES_OF_LETTER * HASH);
        posted = 0;
    }

    public int append(int log, int view, int leaf) {
        View shown = viewOf(log, view);
        if (shown == null || shown.isFull()) {
            return NONE;
        }
        shown.addLeaf(sha, leaf);
        return shown.count;
    }

    public int leaves(int log, int view) {
        View shown = viewOf(log, view);
        return shown == null ? NONE : shown.count;
    }

    public int head(int log, int view, int n) {
        View shown = viewOf(log, view);
        if (shown == null || n < 0 || n > shown.count || posted >= MOST_LETTERS) {
            return NONE;
        }
        Row bytes = nextLetter(Letter.HEAD, log);
        bytes.addNumber(n);
        bytes.addPart(shown.rootOf(sha, 0, n), 0, HASH);
        bytes.addPart(keys.signFor(sha, bytes, 0, HEAD_SIZE), 0, SIGN_BYTES);
        return posted - 1;
    }

    public int proof(int log, int view, int m, int n) {
        View shown = viewOf(log, view);
        if (shown == null || m <= 0 || m >= n || n > shown.count || posted >= MOST_LETTERS) {
            return NONE;
        }
        Row bytes = nextLetter(Letter.PROOF, log);
        bytes.addNumber(m);
        bytes.addNumber(n);
        bytes.addPart(shown.rootOf(sha, 0, m), 0, HASH);
        stack.empty();
        shown.pushProof(sha, m, n, stack);
        bytes.addHashesReversed(stack);
        return posted - 1;
    }

    public int path(int log, int view, int n, int i) {
        View shown = viewOf(log, view);
        if (shown == null || n > shown.count || i < 0 || i >= n || posted >= MOST_LETTERS) {
            return NONE;
        }
        Row bytes = nextLetter(Letter.PATH, log);
        bytes.addNumber(n);
        bytes.addNumber(i);
        bytes.addNumber(shown.leafAt(i));
        stack.empty();
        shown.pushPath(sha, n, i, stack);
        bytes.addHashesReversed(stack);
        return posted - 1;
    }

    public int alter(int letter, int k, int mask) {
        Letter sent = letterOf(letter);
        if (sent == null || !sent.bytes.has(k)) {
            return NONE;
        }
        sent.bytes.put(k, sent.bytes.at(k) ^ mask);
        return sent.bytes.at(k);
    }

    public int cut(int letter, int n) {
        Letter sent = letterOf(letter);
        if (sent == null || n < 0 || n > sent.hashCount()) {
            return NONE;
        }
        int gone = sent.hashCount() - n;
        sent.bytes.resize(sent.bytes.size - gone * HASH);
        return gone;
    }

    public boolean sign(int letter) {
        Letter sent = letterOf(letter);
        if (sent == null || sent.kind != Letter.HEAD || sent.bytes.at(0) >= LOGS) {
            return false;
        }
        Row signed = keys.signFor(sha, sent.bytes, 0, HEAD_SIZE);
        sent.bytes.resize(HEAD_BYTES - SIGN_BYTES);
        sent.bytes.addPart(signed, 0, SIGN_BYTES);
        return true;
    }

    public int clear() {
        int gone = posted;
        posted = 0;
        return gone;
    }

    public int letters() {
        return posted;
    }

    public int letter(int letter, int k) {
        Letter sent = letterOf(letter);
        if (sent == null) {
            return NONE;
        }
        if (k == -1) {
            return sent.kind;
        }
        return k == -2 ? sent.bytes.size : sent.bytes.at(k);
    }

    public int take(int monitor, int letter) {
        Monitor taker = monitorOf(monitor);
        Letter sent = letterOf(letter);
        if (taker == null || sent == null) {
            return NO_SUCH;
        }
        Row bytes = sent.bytes;
        if (sent.kind == Letter.HEAD) {
            boolean signed = keys.haveSigned(sha, bytes, 0, HEAD_SIZE);
            return taker.noted(signed ? taker.takeHead(bytes) : NONE);
        }
        if (sent.kind == Letter.PROOF) {
            Row root = climb.ofProof(sha, bytes, PROOF_R, bytes.number(PROOF_M), bytes.number(PROOF_N));
            return taker.noted(taker.takeProof(bytes, root));
        }
        return taker.countAccepting(bytes, climb.ofPath(sha, bytes));
    }

    public int gossip(int a, int b) {
        Monitor teller = monitorOf(a);
        Monitor taker = monitorOf(b);
        if (teller == null || taker == null || a == b) {
            return NONE;
        }
        int news = 0;
        for (int i = 0; i < teller.headCount; i++) {
            // No look at the SIGN: only what is SIGNED has ever been held.
            if (taker.noted(taker.takeHead(teller.heads[i])) == 1) {
                news++;
            }
        }
        return news;
    }

    public int holds(int monitor, int what) {
        Monitor asked = monitorOf(monitor);
        return asked == null ? NONE : asked.countOf(what);
    }

    public int held(int monitor, int i, int k) {
        Monitor asked = monitorOf(monitor);
        return asked == null || !asked.hasHead(i) ? NONE : asked.heads[i].at(k);
    }

    public int fact(int monitor, int i, int what) {
        Monitor asked = monitorOf(monitor);
        return asked == null ? NONE : asked.ofFact(i, what);
    }

    public int record(int monitor, int i, int what) {
        Monitor asked = monitorOf(monitor);
        return asked == null ? NONE : asked.ofRecord(i, what);
    }

    public int lay(int monitor, int i) {
        Monitor asked = monitorOf(monitor);
        if (asked == null || !asked.hasRecord(i)) {
            return NONE;
        }
        asked.writeRecord(i, onDesk);
        return onDesk.size;
    }

    public int desk(int k) {
        return onDesk.at(k);
    }

    public boolean patch(int k, int v) {
        if (!onDesk.has(k)) {
            return false;
        }
        onDesk.put(k, v);
        return true;
    }

    public boolean trim(int n) {
        if (n < 0 || n > MOST_DESK) {
            return false;
        }
        onDesk.resize(n);
        return true;
    }

    public boolean audit() {
        int kind = onDesk.at(0);
        if (kind == Monitor.FORK) {
            return onDesk.size == RECORD_R && bothAreSigned() && isFork();
        }
        return kind == Monitor.BREACH && endsWithWholeHashes() && bothAreSigned() && isBreach();
    }

    public int hash(int k) {
        if (k < 0 || k >= HASH) {
            return NONE;
        }
        sha.message.become(onDesk);
        return sha.finish().at(k);
    }

    private View viewOf(int log, int view) {
        if (log < 0 || log >= LOGS || view < 0 || view >= VIEWS) {
            return null;
        }
        return views[log * VIEWS + view];
    }

    private Letter letterOf(int letter) {
        return letter < 0 || letter >= posted ? null : post[letter];
    }

    private Monitor monitorOf(int monitor) {
        return monitor < 0 || monitor >= MONITORS ? null : monitors[monitor];
    }

    /** The callers have looked whether there is room for one more. */
    private Row nextLetter(int kind, int log) {
        Letter next = post[posted];
        posted++;
        next.kind = kind;
        next.bytes.empty();
        next.bytes.add(log);
        return next.bytes;
    }

    private boolean bothAreSigned() {
        return keys.haveSigned(sha, onDesk, RECORD_LOG, RECORD_FIRST)
            && keys.haveSigned(sha, onDesk, RECORD_LOG, RECORD_OTHER);
    }

    private boolean isFork() {
        return onDesk.number(RECORD_FIRST) == onDesk.number(RECORD_OTHER)
            && !onDesk.sameAs(RECORD_FIRST + 4, onDesk, RECORD_OTHER + 4, HASH);
    }

    private boolean endsWithWholeHashes() {
        return onDesk.size >= RECORD_HASHES && (onDesk.size - RECORD_HASHES) % HASH == 0;
    }

    private boolean isBreach() {
        if (onDesk.sameAs(RECORD_R, onDesk, RECORD_FIRST + 4, HASH)) {
            return false;
        }
        int m = onDesk.number(RECORD_FIRST);
        int n = onDesk.number(RECORD_OTHER);
        Row root = climb.ofProof(sha, onDesk, RECORD_R, m, n);
        return root != null && root.sameAs(0, onDesk, RECORD_OTHER + 4, HASH);
    }

    /** A row of bytes up to a limit. Each method looks at its places first, so that none can throw. */
    private static final class Row {
        private final byte[] bytes;
        int size;

        Row(int most) {
            bytes = new byte[Math.max(most, 0)];
            size = 0;
        }

        boolean has(int k) {
            return k >= 0 && k < size;
        }

        int at(int k) {
            return k >= 0 && k < size ? bytes[k] & 255 : NONE;
        }

        int number(int k) {
            if (k < 0 || k > size - 4) {
                return NONE;
            }
            return bytes[k] << 24 | (bytes[k + 1] & 255) << 16 | (bytes[k + 2] & 255) << 8 | bytes[k + 3] & 255;
        }

        void put(int k, int v) {
            if (k >= 0 && k < size) {
                bytes[k] = (byte) v;
            }
        }

        void empty() {
            size = 0;
        }

        void add(int v) {
            if (size < bytes.length) {
                bytes[size] = (byte) v;
                size++;
            }
        }

        void addNumber(int v) {
            if (size > bytes.length - 4) {
                return;
            }
            bytes[size] = (byte) (v >>> 24);
            bytes[size + 1] = (byte) (v >>> 16);
            bytes[size + 2] = (byte) (v >>> 8);
            bytes[size + 3] = (byte) v;
            size += 4;
        }

        void addPart(Row from, int start, int count) {
            if (start < 0 || count < 0 || start > from.size - count || count > bytes.length - size) {
                return;
            }
            System.arraycopy(from.bytes, start, bytes, size, count);
            size += count;
        }

        /** Hashes are found from the root down, but letters have them from the leaves up. */
        void addHashesReversed(Row from) {
            for (int start = from.size - HASH; start >= 0; start -= HASH) {
                addPart(from, start, HASH);
            }
        }

        void become(Row other) {
            size = 0;
            addPart(other, 0, other.size);
        }

        void becomePart(Row other, int start, int count) {
            size = 0;
            addPart(other, start, count);
        }

        void resize(int n) {
            if (n < 0 || n > bytes.length) {
                return;
            }
            for (int k = size; k < n; k++) {
                bytes[k] = 0;
            }
            size = n;
        }

        boolean sameAs(int start, Row other, int otherStart, int count) {
            for (int k = 0; k < count; k++) {
                if (at(start + k) != other.at(otherStart + k)) {
                    return false;
                }
            }
            return true;
        }
    }

    /** SHA-256 (FIPS 180-4) of what stands in message; the digest stands until the next one is made. */
    private static final class Sha {
        private static final int BLOCK = 64;

        private static final int[] FIRST = {
            0x6a09e667, 0xbb67ae85, 0x3c6ef372, 0xa54ff53a, 0x510e527f, 0x9b05688c, 0x1f83d9ab, 0x5be0cd19
        };

        private static final int[] ROUND = {
            0x428a2f98, 0x71374491, 0xb5c0fbcf, 0xe9b5dba5, 0x3956c25b, 0x59f111f1, 0x923f82a4, 0xab1c5ed5,
            0xd807aa98, 0x12835b01, 0x243185be, 0x550c7dc3, 0x72be5d74, 0x80deb1fe, 0x9bdc06a7, 0xc19bf174,
            0xe49b69c1, 0xefbe4786, 0x0fc19dc6, 0x240ca1cc, 0x2de92c6f, 0x4a7484aa, 0x5cb0a9dc, 0x76f988da,
            0x983e5152, 0xa831c66d, 0xb00327c8, 0xbf597fc7, 0xc6e00bf3, 0xd5a79147, 0x06ca6351, 0x14292967,
            0x27b70a85, 0x2e1b2138, 0x4d2c6dfc, 0x53380d13, 0x650a7354, 0x766a0abb, 0x81c2c92e, 0x92722c85,
            0xa2bfe8a1, 0xa81a664b, 0xc24b8b70, 0xc76c51a3, 0xd192e819, 0xd6990624, 0xf40e3585, 0x106aa070,
            0x19a4c116, 0x1e376c08, 0x2748774c, 0x34b0bcb5, 0x391c0cb3, 0x4ed8aa4a, 0x5b9cca4f, 0x682e6ff3,
            0x748f82ee, 0x78a5636f, 0x84c87814, 0x8cc70208, 0x90befffa, 0xa4506ceb, 0xbef9a3f7, 0xc67178f2
        };

        // A full DESK is the longest message; with two blocks more there is room for its padding.
        final Row message = new Row((MOST_DESK / BLOCK + 2) * BLOCK);
        final Row digest = new Row(HASH);
        private final int[] words = new int[64];
        private final int[] state = new int[8];

        Row finish() {
            int bits = message.size * 8;
            message.add(0x80);
            for (int i = 0; i < BLOCK && message.size % BLOCK != BLOCK - 8; i++) {
                message.add(0);
            }
            message.addNumber(0);
            message.addNumber(bits);
            System.arraycopy(FIRST, 0, state, 0, state.length);
            for (int start = 0; start < message.size; start += BLOCK) {
                for (int t = 0; t < 16; t++) {
                    words[t] = message.number(start + 4 * t);
                }
                stretch();
                mix();
            }
            digest.empty();
            for (int i = 0; i < state.length; i++) {
                digest.addNumber(state[i]);
            }
            return digest;
        }

        /** Of two parts of a tree: H(01, left, right). The right one may be the last digest. */
        Row join(Row left, int leftStart, Row right, int rightStart) {
            message.empty();
            message.add(1);
            message.addPart(left, leftStart, HASH);
            message.addPart(right, rightStart, HASH);
            return finish();
        }

        private void stretch() {
            for (int t = 16; t < words.length; t++) {
                int x = words[t - 15];
                int y = words[t - 2];
                int small = (x >>> 7 | x << 25) ^ (x >>> 18 | x << 14) ^ x >>> 3;
                int great = (y >>> 17 | y << 15) ^ (y >>> 19 | y << 13) ^ y >>> 10;
                words[t] = words[t - 16] + small + words[t - 7] + great;
            }
        }

        private void mix() {
            int a = state[0];
            int b = state[1];
            int c = state[2];
            int d = state[3];
            int e = state[4];
            int f = state[5];
            int g = state[6];
            int h = state[7];
            for (int t = 0; t < words.length; t++) {
                int eTurned = (e >>> 6 | e << 26) ^ (e >>> 11 | e << 21) ^ (e >>> 25 | e << 7);
                int first = h + eTurned + (e & f ^ ~e & g) + ROUND[t] + words[t];
                int aTurned = (a >>> 2 | a << 30) ^ (a >>> 13 | a << 19) ^ (a >>> 22 | a << 10);
                int second = aTurned + (a & b ^ a & c ^ b & c);
                h = g;
                g = f;
                f = e;
                e = d + first;
                d = c;
                c = b;
                b = a;
                a = first + second;
            }
            state[0] += a;
            state[1] += b;
            state[2] += c;
            state[3] += d;
            state[4] += e;
            state[5] += f;
            state[6] += g;
            state[7] += h;
        }
    }

    /** The KEYS of all LOGS, and the SIGNS that are made with them. */
    private static final class Keys {
        private static final int KEY = 8;

        private final Row keys = new Row(LOGS * KEY);

        void makeFrom(Sha sha, long seed) {
            keys.empty();
            for (int log = 0; log < LOGS; log++) {
                sha.message.empty();
                sha.message.add(3);
                sha.message.addNumber((int) (seed >>> 32));
                sha.message.addNumber((int) seed);
                sha.message.add(log);
                keys.addPart(sha.finish(), 0, KEY);
            }
        }

        /** The first 8 bytes of what it answers are the SIGN; the LOG must be known to be 0 to 3. */
        Row signFor(Sha sha, Row row, int logStart, int sizeStart) {
            int log = row.at(logStart);
            sha.message.empty();
            sha.message.add(2);
            sha.message.addPart(keys, log * KEY, KEY);
            sha.message.add(log);
            sha.message.addPart(row, sizeStart, SIZE_AND_ROOT);
            return sha.finish();
        }

        boolean haveSigned(Sha sha, Row row, int logStart, int sizeStart) {
            int log = row.at(logStart);
            if (log < 0 || log >= LOGS || row.number(sizeStart) < 0) {
                return false;
            }
            Row due = signFor(sha, row, logStart, sizeStart);
            return due.sameAs(0, row, sizeStart + SIZE_AND_ROOT, SIGN_BYTES);
        }
    }

    /** The leaves of one VIEW, with the hash of each full subtree, so that none is made twice. */
    private static final class View {
        private static final int MOST = 80;
        private static final int LEVELS = 7;

        private final int[] values = new int[MOST];
        private final Row[] levels = new Row[LEVELS];
        int count;

        View() {
            for (int level = 0; level < LEVELS; level++) {
                levels[level] = new Row((MOST >> level) * HASH);
            }
            count = 0;
        }

        boolean isFull() {
            return count >= MOST;
        }

        int leafAt(int i) {
            return i >= 0 && i < count ? values[i] : 0;
        }

        void addLeaf(Sha sha, int leaf) {
            if (count >= MOST) {
                return;
            }
            values[count] = leaf;
            count++;
            sha.message.empty();
            sha.message.add(0);
            sha.message.addNumber(leaf);
            levels[0].addPart(sha.finish(), 0, HASH);
            for (int level = 1; level < LEVELS && count % (1 << level) == 0; level++) {
                Row below = levels[level - 1];
                Row both = sha.join(below, below.size - 2 * HASH, below, below.size - HASH);
                levels[level].addPart(both, 0, HASH);
            }
        }

        /** Of the leaves from one to before another, as RFC 6962 splits them: so each part is a full subtree. */
        Row rootOf(Sha sha, int from, int to) {
            int rest = to - from;
            if (rest <= 0) {
                sha.message.empty();
                return sha.finish();
            }
            int start = to;
            boolean begun = false;
            for (int level = 0; level < LEVELS; level++) {
                if ((rest >> level & 1) == 1) {
                    start -= 1 << level;
                    int place = (start >> level) * HASH;
                    if (begun) {
                        sha.join(levels[level], place, sha.digest, 0);
                    } else {
                        sha.digest.becomePart(levels[level], place, HASH);
                    }
                    begun = true;
                }
            }
            return sha.digest;
        }

        /** The hashes of RFC 6962, 2.1.1, from the root down. */
        void pushPath(Sha sha, int n, int i, Row stack) {
            int from = 0;
            int to = n;
            for (int level = 0; level < LEVELS && to - from > 1; level++) {
                int middle = from + splitOf(to - from);
                if (i < middle) {
                    stack.addPart(rootOf(sha, middle, to), 0, HASH);
                    to = middle;
                } else {
                    stack.addPart(rootOf(sha, from, middle), 0, HASH);
                    from = middle;
                }
            }
        }

        /** The hashes of RFC 6962, 2.1.2, from the root down. */
        void pushProof(Sha sha, int m, int n, Row stack) {
            int from = 0;
            int to = n;
            for (int level = 0; level < LEVELS && to != m; level++) {
                int middle = from + splitOf(to - from);
                if (m <= middle) {
                    stack.addPart(rootOf(sha, middle, to), 0, HASH);
                    to = middle;
                } else {
                    stack.addPart(rootOf(sha, from, middle), 0, HASH);
                    from = middle;
                }
            }
            // A part that begins with the first leaf is the whole old tree, whose root is r itself.
            if (from > 0) {
                stack.addPart(rootOf(sha, from, to), 0, HASH);
            }
        }

        /** The greatest power of 2 below n. */
        private static int splitOf(int n) {
            int split = 1;
            for (int level = 1; level < LEVELS && split * 2 < n; level++) {
                split *= 2;
            }
            return split;
        }
    }

    /** A letter's place, used again after all letters have gone. */
    private static final class Letter {
        static final int HEAD = 0;
        static final int PROOF = 1;
        static final int PATH = 2;

        final Row bytes = new Row(MOST_PROOF_BYTES);
        int kind;

        int hashCount() {
            if (kind == HEAD) {
                return NONE;
            }
            return (bytes.size - (kind == PROOF ? PROOF_HASHES : PATH_HASHES)) / HASH;
        }
    }

    /** Where hashes lead to. They are climbed once, and the root compared with as many HEADS as there are. */
    private static final class Climb {
        private static final int MOST_SHIFTS = 32;

        private final Row older = new Row(HASH);
        private final Row newer = new Row(HASH);

        /** RFC 9162, 2.1.4.2; r stands before the hashes. Null: there is no root that they prove. */
        Row ofProof(Sha sha, Row row, int rStart, int m, int n) {
            if (m <= 0 || m >= n || row.size < rStart + 2 * HASH) {
                return null;
            }
            boolean powerOfTwo = (m & m - 1) == 0;
            int start = powerOfTwo ? rStart : rStart + HASH;
            older.becomePart(row, start, HASH);
            newer.becomePart(row, start, HASH);
            int fn = m - 1;
            int sn = n - 1;
            for (int i = 0; i < MOST_SHIFTS && (fn & 1) == 1; i++) {
                fn >>= 1;
                sn >>= 1;
            }
            boolean risen = rises(sha, fn, sn, row, start + HASH);
            return risen && older.sameAs(0, row, rStart, HASH) ? newer : null;
        }

        /** RFC 9162, 2.1.3.2. Null: there is no root that they prove. */
        Row ofPath(Sha sha, Row row) {
            int n = row.number(PATH_N);
            int i = row.number(PATH_I);
            if (i < 0 || i >= n) {
                return null;
            }
            sha.message.empty();
            sha.message.add(0);
            sha.message.addPart(row, PATH_LEAF, 4);
            newer.become(sha.finish());
            // The steps are those of a proof, whose older side doesn't matter here.
            older.become(newer);
            return rises(sha, i, n - 1, row, PATH_HASHES) ? newer : null;
        }

        private boolean rises(Sha sha, int first, int second, Row row, int hashesStart) {
            int fn = first;
            int sn = second;
            for (int start = hashesStart; start < row.size; start += HASH) {
                if (sn == 0) {
                    return false;
                }
                if ((fn & 1) == 1 || fn == sn) {
                    older.become(sha.join(row, start, older, 0));
                    newer.become(sha.join(row, start, newer, 0));
                    for (int i = 0; i < MOST_SHIFTS && (fn & 1) == 0 && fn != 0; i++) {
                        fn >>= 1;
                        sn >>= 1;
                    }
                } else {
                    newer.become(sha.join(newer, 0, row, start));
                }
                fn >>= 1;
                sn >>= 1;
            }
            return sn == 0;
        }
    }

    /** A MONITOR. It is handed HEADS that are SIGNED, and the roots that hashes have led to. */
    private static final class Monitor {
        static final int FORK = 1;
        static final int BREACH = 2;

        private static final int MOST_HEADS = 20;
        private static final int MOST_FACTS = 12;
        private static final int MOST_RECORDS = 20;
        private static final int RECORD_FIELDS = 4;

        final Row[] heads = new Row[MOST_HEADS];
        private final Row[] proofs = new Row[MOST_FACTS];
        private final int[] factHeads = new int[MOST_FACTS];
        private final int[][] records = new int[MOST_RECORDS][RECORD_FIELDS];
        int headCount;
        private int factCount;
        private int recordCount;
        private int refused;
        private int crowded;

        Monitor() {
            for (int i = 0; i < MOST_HEADS; i++) {
                heads[i] = new Row(HEAD_BYTES);
            }
            for (int i = 0; i < MOST_FACTS; i++) {
                proofs[i] = new Row(MOST_PROOF_BYTES);
            }
        }

        int noted(int answer) {
            if (answer == NONE) {
                refused++;
            }
            if (answer == FULL) {
                crowded++;
            }
            return answer;
        }

        int takeHead(Row head) {
            if (holdsLike(head)) {
                return 0;
            }
            int before = recordCount;
            if (headCount >= MOST_HEADS || !raiseForks(head) || !raiseBreachesOfHead(head)) {
                recordCount = before;
                return FULL;
            }
            heads[headCount].become(head);
            headCount++;
            return 1;
        }

        int takeProof(Row proof, Row root) {
            int head = root == null ? NONE : headAccepting(proof, root);
            if (head == NONE) {
                return NONE;
            }
            if (hasFactLike(proof, head)) {
                return 0;
            }
            int before = recordCount;
            if (factCount >= MOST_FACTS || !raiseBreachesOfFact(proof, head)) {
                recordCount = before;
                return FULL;
            }
            proofs[factCount].become(proof);
            factHeads[factCount] = head;
            factCount++;
            return 1;
        }

        int countAccepting(Row path, Row root) {
            int found = 0;
            for (int i = 0; root != null && i < headCount; i++) {
                if (heads[i].sameAs(0, path, 0, LOG_AND_NUMBER) && heads[i].sameAs(HEAD_ROOT, root, 0, HASH)) {
                    found++;
                }
            }
            return found;
        }

        int countOf(int what) {
            switch (what) {
                case 0:
                    return headCount;
                case 1:
                    return factCount;
                case 2:
                    return recordCount;
                case 3:
                    return refused;
                case 4:
                    return crowded;
                default:
                    return NONE;
            }
        }

        boolean hasHead(int i) {
            return i >= 0 && i < headCount;
        }

        private boolean hasFact(int i) {
            return i >= 0 && i < factCount;
        }

        boolean hasRecord(int i) {
            return i >= 0 && i < recordCount;
        }

        int ofFact(int i, int what) {
            if (!hasFact(i) || what < 0 || what >= 4 + HASH) {
                return NONE;
            }
            switch (what) {
                case 0:
                    return proofs[i].at(0);
                case 1:
                    return proofs[i].number(PROOF_M);
                case 2:
                    return factHeads[i];
                case 3:
                    return (proofs[i].size - PROOF_HASHES) / HASH;
                default:
                    return proofs[i].at(PROOF_R + what - 4);
            }
        }

        int ofRecord(int i, int what) {
            return !hasRecord(i) || what < 0 || what >= RECORD_FIELDS ? NONE : records[i][what];
        }

        void writeRecord(int i, Row to) {
            if (!hasRecord(i)) {
                return;
            }
            int[] fields = records[i];
            if (!hasHead(fields[1]) || !hasHead(fields[2])) {
                return;
            }
            Row first = heads[fields[1]];
            to.empty();
            to.add(fields[0]);
            to.add(first.at(0));
            to.addPart(first, HEAD_SIZE, HEAD_PART);
            to.addPart(heads[fields[2]], HEAD_SIZE, HEAD_PART);
            if (hasFact(fields[3])) {
                Row proof = proofs[fields[3]];
                to.addPart(proof, PROOF_R, proof.size - PROOF_R);
            }
        }

        private boolean holdsLike(Row head) {
            for (int i = 0; i < headCount; i++) {
                if (heads[i].sameAs(0, head, 0, HEAD_ROOT + HASH)) {
                    return true;
                }
            }
            return false;
        }

        private int headAccepting(Row proof, Row root) {
            for (int i = 0; i < headCount; i++) {
                boolean sameTree = heads[i].at(0) == proof.at(0) && heads[i].sameAs(HEAD_SIZE, proof, PROOF_N, 4);
                if (sameTree && heads[i].sameAs(HEAD_ROOT, root, 0, HASH)) {
                    return i;
                }
            }
            return NONE;
        }

        private boolean hasFactLike(Row proof, int head) {
            for (int i = 0; i < factCount; i++) {
                boolean sameStart = proofs[i].sameAs(0, proof, 0, LOG_AND_NUMBER)
                    && proofs[i].sameAs(PROOF_R, proof, PROOF_R, HASH);
                if (sameStart && factHeads[i] == head) {
                    return true;
                }
            }
            return false;
        }

        /** The head comes after holdsLike: one of its LOG and SIZE can only have another ROOT. */
        private boolean raiseForks(Row head) {
            for (int i = 0; i < headCount; i++) {
                if (heads[i].sameAs(0, head, 0, LOG_AND_NUMBER) && !raise(FORK, i, headCount, NONE)) {
                    return false;
                }
            }
            return true;
        }

        private boolean raiseBreachesOfHead(Row head) {
            for (int i = 0; i < factCount; i++) {
                if (belies(head, proofs[i]) && !raise(BREACH, headCount, factHeads[i], i)) {
                    return false;
                }
            }
            return true;
        }

        private boolean raiseBreachesOfFact(Row proof, int head) {
            for (int i = 0; i < headCount; i++) {
                if (belies(heads[i], proof) && !raise(BREACH, i, head, factCount)) {
                    return false;
                }
            }
            return true;
        }

        private static boolean belies(Row head, Row proof) {
            return head.sameAs(0, proof, 0, LOG_AND_NUMBER) && !head.sameAs(HEAD_ROOT, proof, PROOF_R, HASH);
        }

        /** False: there is no room. The caller then takes back what it has raised before. */
        private boolean raise(int kind, int first, int other, int fact) {
            if (recordCount >= MOST_RECORDS) {
                return false;
            }
            int[] fields = records[recordCount];
            fields[0] = kind;
            fields[1] = first;
            fields[2] = other;
            fields[3] = fact;
            recordCount++;
            return true;
        }
    }
}
