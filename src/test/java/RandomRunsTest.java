import java.util.Random;

/** Long runs of calls, drawn with fixed seeds, on a GossipWatch and on the Model: each answer must be the same. */
public final class RandomRunsTest {
    private static final int RUNS = 3000;
    private static final int CALLS = 512;
    private static final int[] ODD = {-3, -2, -1, 4, 60, 80, 634, Integer.MIN_VALUE, Integer.MAX_VALUE};

    private final Random random;
    private final Watch real;
    private final Model model;
    private final int run;
    private final int log;
    private final boolean smallTrees;
    private final boolean honest;
    private int calls = 0;
    private boolean wrong = false;

    // How often what a good run must reach was reached, over all runs.
    private static final int[] reached = new int[14];

    private RandomRunsTest(int run) {
        this.run = run;
        random = new Random(run);
        long seed = run % 5 == 0 ? run : random.nextLong();
        real = new Watch(seed);
        model = new Model(seed);
        log = random.nextInt(4);
        smallTrees = random.nextInt(4) == 0;
        honest = random.nextInt(4) == 0;
    }

    public static void main(String[] args) {
        int bad = 0;
        for (int run = 0; run < RUNS; run++) {
            RandomRunsTest test = new RandomRunsTest(run);
            test.play();
            if (test.wrong) bad++;
            if (bad > 5) break;
        }
        for (int i = 0; i < reached.length; i++) {
            if (bad == 0 && reached[i] < 20) {
                System.out.println("goal " + i + " was reached only " + reached[i] + " times");
                bad++;
            }
        }
        System.out.println("reached " + java.util.Arrays.toString(reached));
        System.out.println(bad == 0 ? "all runs are alike" : bad + " runs are not alike");
        if (bad != 0) System.exit(1);
    }

    private void due(String call, int got, int want) {
        calls++;
        if (got != want && !wrong) {
            wrong = true;
            System.out.println("run " + run + ", call " + calls + ": " + call + " answered " + got + ", due is " + want);
        }
    }

    private static int bit(boolean b) {
        return b ? 1 : 0;
    }

    private int odd(int plain) {
        return random.nextInt(60) == 0 ? ODD[random.nextInt(ODD.length)] : plain;
    }

    private int below(int n) {
        return n <= 0 ? 0 : random.nextInt(n);
    }

    private int anyLog() {
        return odd(random.nextInt(8) == 0 ? random.nextInt(4) : log);
    }

    private int anyMonitor() {
        return odd(random.nextInt(3) > 0 ? 0 : random.nextInt(4));
    }

    private int anyLetter() {
        int n = model.letters();
        return odd(random.nextBoolean() ? n - 1 : below(n + 1));
    }

    private void play() {
        int first = random.nextInt(4) == 0 ? 80 : random.nextInt(20);
        int fork = honest ? first : below(first);
        for (int i = 0; i < first; i++) {
            append(log, 0, i);
            append(log, 1, i < fork ? i : -i);
        }
        while (calls < CALLS - 24 && !wrong) step();
        while (calls < CALLS && !wrong) look();
    }

    private void step() {
        switch (random.nextInt(16)) {
            case 0:
                append(anyLog(), odd(random.nextInt(2)), random.nextInt(3) == 0 ? random.nextInt() : random.nextInt(4));
                break;
            case 1:
            case 2:
                head();
                take();
                break;
            case 3:
            case 4:
                proof();
                take();
                break;
            case 5:
                path();
                if (random.nextInt(3) == 0) alter();
                take();
                break;
            case 6:
                alter();
                take();
                break;
            case 7:
                if (honest) proof();
                else forge();
                take();
                break;
            case 8:
                cut();
                take();
                break;
            case 9:
                gossip();
                break;
            case 10:
                if (random.nextInt(6) == 0 || model.letters() >= 58) clear();
                else take();
                break;
            case 11:
            case 12:
                lay();
                audit();
                if (random.nextBoolean()) {
                    spoilDesk();
                    audit();
                }
                break;
            case 13:
                forgeHuge();
                break;
            default:
                look();
        }
    }

    private void append(int l, int v, int leaf) {
        int got = real.append(l, v, leaf);
        due("append(" + l + ", " + v + ", " + leaf + ")", got, model.append(l, v, leaf));
        if (got == 80) reached[0]++;
    }

    private int treeSize(int l, int v) {
        int n = model.leaves(l, v);
        return smallTrees ? Math.min(n, 3) : n;
    }

    private void head() {
        int l = anyLog();
        int v = odd(random.nextInt(2));
        int n = odd(below(treeSize(l, v) + 1));
        due("head(" + l + ", " + v + ", " + n + ")", real.head(l, v, n), model.head(l, v, n));
        if (model.letters() == 60) reached[1]++;
    }

    private void proof() {
        int l = anyLog();
        int v = odd(random.nextInt(2));
        int n = odd(honest && random.nextInt(8) > 0 ? treeSize(l, v) : below(treeSize(l, v) + 1));
        int m = odd(below(n + 1));
        if (random.nextInt(3) > 0) {
            due("head(" + l + ", " + v + ", " + n + ")", real.head(l, v, n), model.head(l, v, n));
            take();
        }
        due("proof(" + l + ", " + v + ", " + m + ", " + n + ")", real.proof(l, v, m, n), model.proof(l, v, m, n));
    }

    private void path() {
        int l = anyLog();
        int v = odd(random.nextInt(2));
        int n = odd(below(treeSize(l, v) + 1));
        int i = odd(below(n));
        if (random.nextInt(3) > 0) {
            due("head(" + l + ", " + v + ", " + n + ")", real.head(l, v, n), model.head(l, v, n));
            take();
        }
        due("path(" + l + ", " + v + ", " + n + ", " + i + ")", real.path(l, v, n, i), model.path(l, v, n, i));
    }

    private void alter(int letter, int k, int mask) {
        String call = "alter(" + letter + ", " + k + ", " + mask + ")";
        due(call, real.alter(letter, k, mask), model.alter(letter, k, mask));
    }

    private void alter() {
        int letter = anyLetter();
        int k = odd(random.nextBoolean() ? below(14) : below(model.letter(letter, -2) + 1));
        alter(letter, k, random.nextBoolean() ? 1 << random.nextInt(9) : random.nextInt());
    }

    private void sign() {
        int letter = anyLetter();
        due("sign(" + letter + ")", bit(real.sign(letter)), bit(model.sign(letter)));
    }

    /** A HEAD with another ROOT or SIZE, signed again, so that forks and breaches come about. */
    private void forge() {
        head();
        alter(model.letters() - 1, random.nextInt(4) == 0 ? random.nextInt(5) : 5 + random.nextInt(32), random.nextInt(256));
        int last = model.letters() - 1;
        due("sign(" + last + ")", bit(real.sign(last)), bit(model.sign(last)));
        if (random.nextInt(4) == 0) sign();
    }

    /**
     * Numbers far beyond any view: the one hash of a PROOF from 1 to 2 serves for each m = 2^e and n up to 2^(e + 1),
     * the one of a PATH of leaf 1 of 2 for i = 2^e of 2^e + 1, if the HEAD has that SIZE too. Some are one off.
     */
    private void forgeHuge() {
        int v = odd(random.nextInt(2));
        int m = 1 << random.nextInt(31);
        int n = m + 1 + below(m);
        boolean ofLeaf = random.nextBoolean();
        if (ofLeaf) n = m + 1;
        due("head", real.head(log, v, 2), model.head(log, v, 2));
        int head = model.letters() - 1;
        putNumber(head, 1, n);
        due("sign(" + head + ")", bit(real.sign(head)), bit(model.sign(head)));
        due("take(0, " + head + ")", real.take(0, head), model.take(0, head));
        if (ofLeaf) due("path", real.path(log, v, 2, 1), model.path(log, v, 2, 1));
        else due("proof", real.proof(log, v, 1, 2), model.proof(log, v, 1, 2));
        int letter = model.letters() - 1;
        putNumber(letter, ofLeaf ? 1 : 5, n);
        putNumber(letter, ofLeaf ? 5 : 1, random.nextInt(4) == 0 ? m + random.nextInt(3) - 1 : m);
        int got = real.take(0, letter);
        due("take(0, " + letter + ")", got, model.take(0, letter));
        if (got == 1 && n > 1 << 20) reached[ofLeaf ? 12 : 13]++;
    }

    private void putNumber(int letter, int at, int v) {
        for (int k = 0; k < 4; k++) {
            int now = model.letter(letter, at + k);
            int want = v >>> 24 - 8 * k & 255;
            if (now != want) alter(letter, at + k, now ^ want);
        }
    }

    private void cut() {
        int letter = anyLetter();
        int n = odd(below(9));
        due("cut(" + letter + ", " + n + ")", real.cut(letter, n), model.cut(letter, n));
    }

    private void take() {
        int m = anyMonitor();
        int letter = anyLetter();
        int got = real.take(m, letter);
        due("take(" + m + ", " + letter + ")", got, model.take(m, letter));
        int kind = model.letter(letter, -1);
        if (kind == 0 && got == -3 && model.holds(m, 0) == 20) reached[2]++;
        if (kind == 0 && got == -3 && model.holds(m, 0) < 20) reached[3]++;
        if (kind == 1 && got == -3 && model.holds(m, 1) == 12) reached[4]++;
        if (kind == 1 && got == -3 && model.holds(m, 1) < 12) reached[5]++;
        if (kind == 1 && got == 0) reached[6]++;
        if (kind == 2 && got == 1) reached[7]++;
        if (kind == 2 && got == 0) reached[8]++;
    }

    private void gossip() {
        int a = anyMonitor();
        int b = odd(random.nextInt(4));
        due("gossip(" + a + ", " + b + ")", real.gossip(a, b), model.gossip(a, b));
    }

    private void clear() {
        due("clear()", real.clear(), model.clear());
    }

    private void lay() {
        int m = anyMonitor();
        int i = odd(below(model.holds(m, 2) + 1));
        due("lay(" + m + ", " + i + ")", real.lay(m, i), model.lay(m, i));
    }

    private void audit() {
        boolean got = real.audit();
        due("audit()", bit(got), bit(model.audit()));
        if (got && model.desk(0) == 1) reached[9]++;
        if (got && model.desk(0) == 2) reached[10]++;
        if (!got && model.desk(0) == 2) reached[11]++;
    }

    private void spoilDesk() {
        if (random.nextInt(4) == 0) {
            int n = odd(random.nextBoolean() ? 90 + 32 * random.nextInt(18) : random.nextInt(635));
            due("trim(" + n + ")", bit(real.trim(n)), bit(model.trim(n)));
        } else {
            int k = odd(random.nextBoolean() ? below(6) : random.nextInt(260));
            int v = random.nextInt(600) - 100;
            due("patch(" + k + ", " + v + ")", bit(real.patch(k, v)), bit(model.patch(k, v)));
        }
    }

    private void look() {
        int m = anyMonitor();
        int letter = anyLetter();
        int what;
        int i;
        switch (random.nextInt(9)) {
            case 0:
                due("leaves", real.leaves(letter, m), model.leaves(letter, m));
                break;
            case 1:
                due("letters()", real.letters(), model.letters());
                break;
            case 2:
                what = odd(random.nextInt(48) - 3);
                due("letter(" + letter + ", " + what + ")", real.letter(letter, what), model.letter(letter, what));
                break;
            case 3:
                what = odd(random.nextInt(6));
                due("holds(" + m + ", " + what + ")", real.holds(m, what), model.holds(m, what));
                break;
            case 4:
                i = odd(below(model.holds(m, 0) + 1));
                what = odd(random.nextInt(46));
                due("held(" + m + ", " + i + ", " + what + ")", real.held(m, i, what), model.held(m, i, what));
                break;
            case 5:
                i = odd(below(model.holds(m, 1) + 1));
                what = odd(random.nextInt(37));
                due("fact(" + m + ", " + i + ", " + what + ")", real.fact(m, i, what), model.fact(m, i, what));
                break;
            case 6:
                i = odd(below(model.holds(m, 2) + 1));
                what = odd(random.nextInt(5));
                due("record(" + m + ", " + i + ", " + what + ")", real.record(m, i, what), model.record(m, i, what));
                break;
            case 7:
                what = odd(random.nextInt(400));
                due("desk(" + what + ")", real.desk(what), model.desk(what));
                break;
            default:
                what = odd(random.nextInt(33));
                due("hash(" + what + ")", real.hash(what), model.hash(what));
        }
    }
}
