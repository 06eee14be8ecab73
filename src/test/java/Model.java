import java.security.MessageDigest;
import java.security.NoSuchAlgorithmException;
import java.util.ArrayList;
import java.util.Arrays;
import java.util.List;

/**
 * The document once more, written in another way than GossipWatch: the Java library's SHA-256, RFC 6962's
 * recursion for trees, and proofs checked by following that recursion, not RFC 9162's steps.
 */
final class Model {
    static final int NONE = -1;

    static final class Sent {
        int kind;
        byte[] bytes;
    }

    static final class Fact {
        byte[] proof;
        int head;
    }

    static final class Monitor {
        final List<byte[]> heads = new ArrayList<>();
        final List<Fact> facts = new ArrayList<>();
        final List<int[]> records = new ArrayList<>();
        int refused;
        int crowded;
    }

    private final long seed;
    private final List<List<Integer>> views = new ArrayList<>();
    private final List<Sent> post = new ArrayList<>();
    private final List<Monitor> monitors = new ArrayList<>();
    private byte[] desk = new byte[0];

    Model(long seed) {
        this.seed = seed;
        for (int i = 0; i < 8; i++) views.add(new ArrayList<>());
        for (int i = 0; i < 4; i++) monitors.add(new Monitor());
    }

    // ---- bytes and hashes

    static byte[] sha(byte[]... parts) {
        try {
            MessageDigest digest = MessageDigest.getInstance("SHA-256");
            for (byte[] part : parts) digest.update(part);
            return digest.digest();
        } catch (NoSuchAlgorithmException e) {
            throw new IllegalStateException(e);
        }
    }

    static byte[] one(int v) {
        return new byte[] {(byte) v};
    }

    static byte[] four(int v) {
        return java.nio.ByteBuffer.allocate(4).putInt(v).array();
    }

    static byte[] eight(long v) {
        return java.nio.ByteBuffer.allocate(8).putLong(v).array();
    }

    static byte[] part(byte[] of, int from, int count) {
        return Arrays.copyOfRange(of, from, from + count);
    }

    static int number(byte[] of, int at) {
        return java.nio.ByteBuffer.wrap(of).getInt(at);
    }

    static byte[] all(byte[]... parts) {
        int n = 0;
        for (byte[] p : parts) n += p.length;
        byte[] out = new byte[n];
        int at = 0;
        for (byte[] p : parts) {
            System.arraycopy(p, 0, out, at, p.length);
            at += p.length;
        }
        return out;
    }

    static byte[] pair(byte[] left, byte[] right) {
        return sha(one(1), left, right);
    }

    static long split(long n) {
        return Long.highestOneBit(n - 1);
    }

    static byte[] root(List<Integer> leaves) {
        int n = leaves.size();
        if (n == 0) return sha();
        if (n == 1) return sha(one(0), four(leaves.get(0)));
        int k = (int) split(n);
        return pair(root(leaves.subList(0, k)), root(leaves.subList(k, n)));
    }

    static byte[] pathOf(int i, List<Integer> leaves) {
        int n = leaves.size();
        if (n == 1) return new byte[0];
        int k = (int) split(n);
        if (i < k) return all(pathOf(i, leaves.subList(0, k)), root(leaves.subList(k, n)));
        return all(pathOf(i - k, leaves.subList(k, n)), root(leaves.subList(0, k)));
    }

    static byte[] subproof(int m, List<Integer> leaves, boolean b) {
        int n = leaves.size();
        if (m == n) return b ? new byte[0] : root(leaves);
        int k = (int) split(n);
        if (m <= k) return all(subproof(m, leaves.subList(0, k), b), root(leaves.subList(k, n)));
        return all(subproof(m - k, leaves.subList(k, n), false), root(leaves.subList(0, k)));
    }

    /** A reader of hashes, which remembers whether it was asked for one too many. */
    static final class Hashes {
        final byte[] bytes;
        int at = 0;
        boolean tooFew = false;

        Hashes(byte[] bytes) {
            this.bytes = bytes;
        }

        byte[] next() {
            if (at + 32 > bytes.length) {
                tooFew = true;
                return new byte[32];
            }
            at += 32;
            return part(bytes, at - 32, 32);
        }

        boolean ended() {
            return !tooFew && at == bytes.length;
        }
    }

    private static byte[][] rebuilt(long m, long n, boolean b, byte[] r, Hashes hashes) {
        if (m == n) {
            byte[] h = b ? r : hashes.next();
            return new byte[][] {h, h};
        }
        long k = split(n);
        if (m <= k) {
            byte[][] left = rebuilt(m, k, b, r, hashes);
            return new byte[][] {left[0], pair(left[1], hashes.next())};
        }
        byte[][] right = rebuilt(m - k, n - k, false, r, hashes);
        byte[] c = hashes.next();
        return new byte[][] {pair(c, right[0]), pair(c, right[1])};
    }

    static boolean proves(int m, int n, byte[] r, byte[] hashBytes, byte[] root) {
        if (!(0 < m && m < n)) return false;
        Hashes hashes = new Hashes(hashBytes);
        byte[][] both = rebuilt(m, n, true, r, hashes);
        return hashes.ended() && Arrays.equals(both[0], r) && Arrays.equals(both[1], root);
    }

    private static byte[] rebuiltPath(long i, long n, byte[] leafHash, Hashes hashes) {
        if (n == 1) return leafHash;
        long k = split(n);
        if (i < k) {
            byte[] left = rebuiltPath(i, k, leafHash, hashes);
            return pair(left, hashes.next());
        }
        byte[] right = rebuiltPath(i - k, n - k, leafHash, hashes);
        return pair(hashes.next(), right);
    }

    static boolean provesLeaf(int i, int n, byte[] leaf, byte[] hashBytes, byte[] root) {
        if (!(0 <= i && i < n)) return false;
        Hashes hashes = new Hashes(hashBytes);
        byte[] got = rebuiltPath(i, n, sha(one(0), leaf), hashes);
        return hashes.ended() && Arrays.equals(got, root);
    }

    byte[] signOf(int log, byte[] sizeAndRoot) {
        byte[] key = part(sha(one(3), eight(seed), one(log)), 0, 8);
        return part(sha(one(2), key, one(log), sizeAndRoot), 0, 8);
    }

    boolean signed(byte[] head) {
        int log = head[0] & 255;
        return log <= 3 && number(head, 1) >= 0
            && Arrays.equals(part(head, 37, 8), signOf(log, part(head, 1, 36)));
    }

    // ---- the face

    private List<Integer> view(int log, int view) {
        return log >= 0 && log < 4 && view >= 0 && view < 2 ? views.get(2 * log + view) : null;
    }

    private Sent sent(int letter) {
        return letter >= 0 && letter < post.size() ? post.get(letter) : null;
    }

    private Monitor monitor(int monitor) {
        return monitor >= 0 && monitor < 4 ? monitors.get(monitor) : null;
    }

    private int send(int kind, byte[] bytes) {
        Sent s = new Sent();
        s.kind = kind;
        s.bytes = bytes;
        post.add(s);
        return post.size() - 1;
    }

    int append(int log, int view, int leaf) {
        List<Integer> v = view(log, view);
        if (v == null || v.size() == 80) return NONE;
        v.add(leaf);
        return v.size();
    }

    int leaves(int log, int view) {
        List<Integer> v = view(log, view);
        return v == null ? NONE : v.size();
    }

    int head(int log, int view, int n) {
        List<Integer> v = view(log, view);
        if (v == null || n < 0 || n > v.size() || post.size() == 60) return NONE;
        byte[] sizeAndRoot = all(four(n), root(v.subList(0, n)));
        return send(0, all(one(log), sizeAndRoot, signOf(log, sizeAndRoot)));
    }

    int proof(int log, int view, int m, int n) {
        List<Integer> v = view(log, view);
        if (v == null || !(0 < m && m < n) || n > v.size() || post.size() == 60) return NONE;
        return send(1, all(one(log), four(m), four(n), root(v.subList(0, m)), subproof(m, v.subList(0, n), true)));
    }

    int path(int log, int view, int n, int i) {
        List<Integer> v = view(log, view);
        if (v == null || n > v.size() || i < 0 || i >= n || post.size() == 60) return NONE;
        return send(2, all(one(log), four(n), four(i), four(v.get(i)), pathOf(i, v.subList(0, n))));
    }

    int alter(int letter, int k, int mask) {
        Sent s = sent(letter);
        if (s == null || k < 0 || k >= s.bytes.length) return NONE;
        s.bytes[k] ^= (byte) mask;
        return s.bytes[k] & 255;
    }

    int cut(int letter, int n) {
        Sent s = sent(letter);
        if (s == null || s.kind == 0) return NONE;
        int start = s.kind == 1 ? 41 : 13;
        int count = (s.bytes.length - start) / 32;
        if (n < 0 || n > count) return NONE;
        s.bytes = part(s.bytes, 0, start + 32 * n);
        return count - n;
    }

    boolean sign(int letter) {
        Sent s = sent(letter);
        if (s == null || s.kind != 0 || (s.bytes[0] & 255) > 3) return false;
        s.bytes = all(part(s.bytes, 0, 37), signOf(s.bytes[0], part(s.bytes, 1, 36)));
        return true;
    }

    int clear() {
        int n = post.size();
        post.clear();
        return n;
    }

    int letters() {
        return post.size();
    }

    int letter(int letter, int k) {
        Sent s = sent(letter);
        if (s == null || k < -2 || k >= s.bytes.length) return NONE;
        return k == -1 ? s.kind : k == -2 ? s.bytes.length : s.bytes[k] & 255;
    }

    int take(int monitor, int letter) {
        Monitor m = monitor(monitor);
        Sent s = sent(letter);
        if (m == null || s == null) return -2;
        int answer = s.kind == 0 ? takeHead(m, s.bytes) : s.kind == 1 ? takeProof(m, s.bytes) : takePath(m, s.bytes);
        return noted(m, answer);
    }

    private static int noted(Monitor m, int answer) {
        if (answer == NONE) m.refused++;
        if (answer == -3) m.crowded++;
        return answer;
    }

    private int takeHead(Monitor m, byte[] head) {
        if (!signed(head)) return NONE;
        List<int[]> raised = new ArrayList<>();
        int number = m.heads.size();
        for (int i = 0; i < m.heads.size(); i++) {
            byte[] other = m.heads.get(i);
            if (other[0] != head[0] || number(other, 1) != number(head, 1)) continue;
            if (Arrays.equals(part(other, 5, 32), part(head, 5, 32))) return 0;
            raised.add(new int[] {1, i, number, NONE});
        }
        for (int f = 0; f < m.facts.size(); f++) {
            Fact fact = m.facts.get(f);
            if (fact.proof[0] == head[0] && number(fact.proof, 1) == number(head, 1)
                && !Arrays.equals(part(fact.proof, 9, 32), part(head, 5, 32))) {
                raised.add(new int[] {2, number, fact.head, f});
            }
        }
        if (number == 20 || m.records.size() + raised.size() > 20) return -3;
        m.heads.add(head.clone());
        m.records.addAll(raised);
        return 1;
    }

    private int takeProof(Monitor m, byte[] p) {
        int accepted = NONE;
        for (int i = m.heads.size() - 1; i >= 0; i--) {
            byte[] head = m.heads.get(i);
            if (head[0] == p[0] && number(head, 1) == number(p, 5)
                && proves(number(p, 1), number(p, 5), part(p, 9, 32), part(p, 41, p.length - 41), part(head, 5, 32))) {
                accepted = i;
            }
        }
        if (accepted == NONE) return NONE;
        for (Fact fact : m.facts) {
            if (fact.proof[0] == p[0] && number(fact.proof, 1) == number(p, 1) && fact.head == accepted
                && Arrays.equals(part(fact.proof, 9, 32), part(p, 9, 32))) return 0;
        }
        List<int[]> raised = new ArrayList<>();
        for (int i = 0; i < m.heads.size(); i++) {
            byte[] head = m.heads.get(i);
            if (head[0] == p[0] && number(head, 1) == number(p, 1)
                && !Arrays.equals(part(head, 5, 32), part(p, 9, 32))) {
                raised.add(new int[] {2, i, accepted, m.facts.size()});
            }
        }
        if (m.facts.size() == 12 || m.records.size() + raised.size() > 20) return -3;
        Fact fact = new Fact();
        fact.proof = p.clone();
        fact.head = accepted;
        m.facts.add(fact);
        m.records.addAll(raised);
        return 1;
    }

    private static int takePath(Monitor m, byte[] p) {
        int count = 0;
        for (byte[] head : m.heads) {
            if (head[0] == p[0] && number(head, 1) == number(p, 1)
                && provesLeaf(number(p, 5), number(p, 1), part(p, 9, 4), part(p, 13, p.length - 13), part(head, 5, 32))) {
                count++;
            }
        }
        return count;
    }

    int gossip(int a, int b) {
        Monitor teller = monitor(a);
        Monitor taker = monitor(b);
        if (teller == null || taker == null || a == b) return NONE;
        int count = 0;
        for (byte[] head : teller.heads) {
            if (noted(taker, takeHead(taker, head)) == 1) count++;
        }
        return count;
    }

    int holds(int monitor, int what) {
        Monitor m = monitor(monitor);
        if (m == null || what < 0 || what > 4) return NONE;
        return new int[] {m.heads.size(), m.facts.size(), m.records.size(), m.refused, m.crowded}[what];
    }

    int held(int monitor, int i, int k) {
        Monitor m = monitor(monitor);
        if (m == null || i < 0 || i >= m.heads.size() || k < 0 || k >= 45) return NONE;
        return m.heads.get(i)[k] & 255;
    }

    int fact(int monitor, int i, int what) {
        Monitor m = monitor(monitor);
        if (m == null || i < 0 || i >= m.facts.size() || what < 0 || what > 35) return NONE;
        Fact f = m.facts.get(i);
        if (what >= 4) return f.proof[9 + what - 4] & 255;
        return new int[] {f.proof[0], number(f.proof, 1), f.head, (f.proof.length - 41) / 32}[what];
    }

    int record(int monitor, int i, int what) {
        Monitor m = monitor(monitor);
        if (m == null || i < 0 || i >= m.records.size() || what < 0 || what > 3) return NONE;
        return m.records.get(i)[what];
    }

    int lay(int monitor, int i) {
        Monitor m = monitor(monitor);
        if (m == null || i < 0 || i >= m.records.size()) return NONE;
        int[] r = m.records.get(i);
        byte[] first = m.heads.get(r[1]);
        byte[] other = m.heads.get(r[2]);
        desk = all(one(r[0]), one(first[0]), part(first, 1, 44), part(other, 1, 44));
        if (r[0] == 2) {
            byte[] proof = m.facts.get(r[3]).proof;
            desk = all(desk, part(proof, 9, proof.length - 9));
        }
        return desk.length;
    }

    int desk(int k) {
        return k >= 0 && k < desk.length ? desk[k] & 255 : NONE;
    }

    boolean patch(int k, int v) {
        if (k < 0 || k >= desk.length) return false;
        desk[k] = (byte) v;
        return true;
    }

    boolean trim(int n) {
        if (n < 0 || n > 634) return false;
        desk = Arrays.copyOf(desk, n);
        return true;
    }

    boolean audit() {
        if (desk.length < 90) return false;
        byte[] first = all(part(desk, 1, 1), part(desk, 2, 44));
        byte[] other = all(part(desk, 1, 1), part(desk, 46, 44));
        if (!signed(first) || !signed(other)) return false;
        int m = number(first, 1);
        int n = number(other, 1);
        if (desk[0] == 1) {
            return desk.length == 90 && m == n && !Arrays.equals(part(first, 5, 32), part(other, 5, 32));
        }
        if (desk[0] != 2 || desk.length < 122 || desk.length > 634 || (desk.length - 122) % 32 != 0) return false;
        byte[] r = part(desk, 90, 32);
        return !Arrays.equals(r, part(first, 5, 32))
            && proves(m, n, r, part(desk, 122, desk.length - 122), part(other, 5, 32));
    }

    int hash(int k) {
        return k < 0 || k > 31 ? NONE : sha(desk)[k] & 255;
    }
}
