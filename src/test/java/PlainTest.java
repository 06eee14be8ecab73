import java.util.ArrayList;
import java.util.List;

/** Each promise with ordinary inputs; its boundaries are in the BoundaryTests. */
public final class PlainTest {
    public static void main(String[] args) {
        Checks.run(PlainTest.class, 1, 24);
    }

    private static final int[] LEAVES = {12, -7, 12, 0x01020304, 99, 5, Integer.MIN_VALUE, 0, 31};

    private static List<Integer> first(int n) {
        List<Integer> some = new ArrayList<>();
        for (int i = 0; i < n; i++) some.add(LEAVES[i]);
        return some;
    }

    /** View 0 of LOG 2 has all of the leaves, view 1 has another one in the fifth place. */
    private static Watch twoViews() {
        Watch x = new Watch(-5L);
        for (int i = 0; i < LEAVES.length; i++) {
            x.append(2, 0, LEAVES[i]);
            x.append(2, 1, i == 4 ? 1 : LEAVES[i]);
        }
        return x;
    }

    /** Monitor 1 has HEADS of 9 and 4, and with another story of 9 a RECORD; of 6 it has a FACT, and so a second one. */
    private static Watch caught() {
        Watch x = twoViews();
        x.take(1, x.head(2, 0, 9));
        x.take(1, x.head(2, 0, 4));
        x.take(1, x.head(2, 1, 9));
        x.take(1, x.proof(2, 1, 6, 9));
        x.take(1, x.head(2, 0, 6));
        return x;
    }

    static void promise01_twoObjectsOfOneSeedAreAlike() {
        Watch x = caught();
        Watch y = caught();
        for (int letter = 0; letter < x.letters(); letter++) {
            Checks.due("bytes", x.letter(letter, -2), y.letter(letter, -2));
            for (int k = 0; k < 45; k++) Checks.due("byte " + k, x.letter(letter, k), y.letter(letter, k));
        }
    }

    static void promise02_eachLeafIsOneMore() {
        Watch x = new Watch(3L);
        for (int i = 1; i <= 20; i++) Checks.due("append", x.append(3, 1, i * i), i);
    }

    static void promise03_eachViewHasItsOwnLeaves() {
        Watch x = new Watch(3L);
        for (int log = 0; log < 4; log++) {
            for (int view = 0; view < 2; view++) Play.grow(x, log, view, 2 * log + view, 0);
        }
        for (int log = 0; log < 4; log++) {
            for (int view = 0; view < 2; view++) Checks.due("leaves", x.leaves(log, view), 2 * log + view);
        }
    }

    static void promise04_headsOfAllSizes() {
        for (int n = 0; n <= LEAVES.length; n++) {
            Watch x = twoViews();
            byte[] want = Model.all(Model.one(2), Play.signed(-5L, 2, n, Model.root(first(n))));
            Checks.dueBytes("head of " + n, Play.bytesOf(x, x.head(2, 0, n)), want);
        }
    }

    static void promise05_allProofsOfAllSizes() {
        for (int n = 2; n <= 80; n++) {
            byte[] root = Model.root(Play.numbers(n));
            for (int m = 1; m < n; m++) {
                Watch x = Play.withLeaves(n);
                Checks.due("proof", x.proof(1, 0, m, n), 0);
                byte[] start = Model.all(Model.one(1), Model.four(m), Model.four(n), Model.root(Play.numbers(m)));
                byte[] hashes = Model.subproof(m, Play.numbers(n), true);
                byte[] got = Play.bytesOf(x, 0);
                Checks.dueBytes("proof of " + m + " to " + n, got, Model.all(start, hashes));
                Checks.due("it leads there", Model.proves(m, n, Model.part(got, 9, 32), hashes, root), true);
            }
        }
    }

    static void promise06_allPathsOfAllSizes() {
        for (int n = 1; n <= 80; n++) {
            for (int i = 0; i < n; i++) {
                Watch x = Play.withLeaves(n);
                Checks.due("path", x.path(1, 0, n, i), 0);
                byte[] start = Model.all(Model.one(1), Model.four(n), Model.four(i), Model.four(i));
                byte[] want = Model.all(start, Model.pathOf(i, Play.numbers(n)));
                Checks.dueBytes("path of " + i + " of " + n, Play.bytesOf(x, 0), want);
            }
        }
    }

    static void promise07_changedTwiceIsAsBefore() {
        Watch x = twoViews();
        x.head(2, 0, 9);
        byte[] before = Play.bytesOf(x, 0);
        for (int k = 0; k < 45; k++) Checks.due("alter", x.alter(0, k, 0x5a), (before[k] ^ 0x5a) & 255);
        for (int k = 0; k < 45; k++) Checks.due("alter", x.alter(0, k, 0x5a), before[k] & 255);
        Checks.dueBytes("head", Play.bytesOf(x, 0), before);
    }

    static void promise08_hashByHash() {
        Watch x = twoViews();
        x.path(2, 0, 8, 3);
        for (int stay = 2; stay >= 0; stay--) {
            Checks.due("cut", x.cut(0, stay), 1);
            Checks.due("bytes", x.letter(0, -2), 13 + 32 * stay);
        }
    }

    static void promise09_aForgedHeadIsTakenOnceItIsSigned() {
        Watch x = twoViews();
        x.head(2, 0, 9);
        x.alter(0, 30, 1);
        Checks.due("take", x.take(0, 0), -1);
        Checks.due("sign", x.sign(0), true);
        Checks.due("take", x.take(0, 0), 1);
    }

    static void promise10_lettersGo() {
        Watch x = caught();
        Checks.due("clear", x.clear(), 5);
        Checks.due("letters", x.letters(), 0);
        Checks.due("the next number", x.head(2, 0, 1), 0);
    }

    static void promise11_lettersAreCounted() {
        Watch x = caught();
        Checks.due("letters", x.letters(), 5);
        x.path(2, 0, 3, 1);
        Checks.due("letters", x.letters(), 6);
    }

    static void promise12_kindsAndLengths() {
        Watch x = caught();
        int[][] want = {{0, 45}, {0, 45}, {0, 45}, {1, 41 + 32 * 4}, {0, 45}};
        for (int i = 0; i < 5; i++) {
            Checks.due("kind", x.letter(i, -1), want[i][0]);
            Checks.due("bytes", x.letter(i, -2), want[i][1]);
            Checks.due("log", x.letter(i, 0), 2);
        }
    }

    static void promise13_allProofsAndPathsOfAllSizesAreAccepted() {
        for (int n = 2; n <= 80; n++) {
            for (int m = 1; m < n; m++) {
                Watch x = Play.withLeaves(n);
                x.take(3, x.head(1, 0, n));
                Checks.due("proof of " + m + " to " + n, x.take(3, x.proof(1, 0, m, n)), 1);
                Checks.due("again", x.take(3, 1), 0);
                Checks.due("path of " + m + " of " + n, x.take(3, x.path(1, 0, n, m)), 1);
            }
        }
    }

    static void promise13_twoStoriesAreCaught() {
        Watch x = twoViews();
        Checks.due("one story", x.take(1, x.head(2, 0, 9)), 1);
        Checks.due("a part of both", x.take(1, x.head(2, 0, 4)), 1);
        Checks.due("the other story", x.take(1, x.head(2, 1, 9)), 1);
        Checks.due("records", x.holds(1, 2), 1);
        Checks.due("the other's proof", x.take(1, x.proof(2, 1, 6, 9)), 1);
        Checks.due("records", x.holds(1, 2), 1);
        Checks.due("the one's head of 6", x.take(1, x.head(2, 0, 6)), 1);
        Checks.due("records", x.holds(1, 2), 2);
        Checks.due("its own proof", x.take(1, x.proof(2, 0, 6, 9)), 1);
        Checks.due("records", x.holds(1, 2), 2);
    }

    static void promise14_twoStoriesMeet() {
        Watch x = twoViews();
        for (int n = 1; n <= 6; n++) x.take(0, x.head(2, 0, n));
        for (int n = 1; n <= 6; n++) x.take(1, x.head(2, 1, n));
        Checks.due("two of six are news", x.gossip(0, 1), 2);
        Checks.due("records", x.holds(1, 2), 2);
        Checks.due("and back", x.gossip(1, 0), 2);
        Checks.due("records", x.holds(0, 2), 2);
        Checks.due("heads", x.holds(0, 0), 8);
    }

    static void promise15_everythingIsCounted() {
        Watch x = caught();
        x.alter(0, 5, 1);
        x.take(1, 0);
        int[] want = {4, 1, 2, 1, 0};
        for (int what = 0; what < 5; what++) Checks.due("holds " + what, x.holds(1, what), want[what]);
    }

    static void promise16_headsAreHeldAsTheyCame() {
        Watch x = caught();
        int[] letters = {0, 1, 2, 4};
        for (int i = 0; i < 4; i++) {
            for (int k = 0; k < 45; k++) Checks.due("byte " + k, x.held(1, i, k), x.letter(letters[i], k));
        }
    }

    static void promise17_aFactIsTheProofAndItsHead() {
        Watch x = caught();
        int[] want = {2, 6, 2, 4};
        for (int what = 0; what < 4; what++) Checks.due("fact", x.fact(1, 0, what), want[what]);
        for (int k = 0; k < 32; k++) Checks.due("r", x.fact(1, 0, 4 + k), x.letter(3, 9 + k));
    }

    static void promise18_recordsTellWhatCannotBothBe() {
        Watch x = caught();
        int[][] want = {{1, 0, 2, -1}, {2, 3, 2, 0}};
        for (int i = 0; i < 2; i++) {
            for (int what = 0; what < 4; what++) Checks.due("record " + i, x.record(1, i, what), want[i][what]);
        }
    }

    static void promise19_aRecordComesOnTheDesk() {
        Watch x = caught();
        Checks.due("a fork", x.lay(1, 0), 90);
        Checks.due("kind", x.desk(0), 1);
        Checks.due("a breach", x.lay(1, 1), 122 + 4 * 32);
        Checks.due("kind", x.desk(0), 2);
    }

    static void promise20_theDeskShowsTheRecord() {
        Watch x = caught();
        x.lay(1, 1);
        Checks.due("log", x.desk(1), 2);
        Checks.due("the size m", x.desk(5), 6);
        Checks.due("the size n", x.desk(49), 9);
        for (int k = 0; k < 160; k++) Checks.due("r and hashes", x.desk(90 + k), x.letter(3, 9 + k));
    }

    static void promise21_aPatchedRecordIsNotRightUntilItIsMended() {
        Watch x = caught();
        x.lay(1, 0);
        int was = x.desk(60);
        Checks.due("patch", x.patch(60, was + 1), true);
        Checks.due("audit", x.audit(), false);
        Checks.due("patch", x.patch(60, was), true);
        Checks.due("audit", x.audit(), true);
    }

    static void promise22_aTrimmedRecordIsNotRight() {
        Watch x = caught();
        x.lay(1, 1);
        Checks.due("trim", x.trim(122 + 3 * 32), true);
        Checks.due("audit", x.audit(), false);
    }

    static void promise23_bothRecordsAreRight() {
        Watch x = caught();
        for (int i = 0; i < 2; i++) {
            x.lay(1, i);
            Checks.due("record " + i, x.audit(), true);
        }
    }

    static void promise24_theHashOfAbc() {
        Watch x = new Watch(0L);
        Play.putOnDesk(x, new byte[] {'a', 'b', 'c'});
        byte[] want = Model.sha(new byte[] {'a', 'b', 'c'});
        Checks.due("the first byte, as FIPS 180-4 has it", x.hash(0), 0xba);
        Checks.due("the last one", x.hash(31), 0xad);
        for (int k = 0; k < 32; k++) Checks.due("byte " + k, x.hash(k), want[k] & 255);
    }
}
