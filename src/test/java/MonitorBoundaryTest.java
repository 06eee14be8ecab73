import java.util.HashMap;
import java.util.Map;

/** Promises 14 to 19: the boundaries that the document names for gossip and for what monitors hold. */
public final class MonitorBoundaryTest {
    public static void main(String[] args) {
        Checks.run(MonitorBoundaryTest.class, 14, 19);
    }

    private static final Scene NEW = new Scene(x -> { });
    /** Monitor 0 has HEADS of 2, 7, 7 (the other view's) and 3, a FACT from 3 to 7, RECORDS of both kinds. */
    private static final Scene BUSY = new Scene(x -> {
        Play.grow(x, 1, 0, 9, 0);
        Play.grow(x, 1, 1, 9, 100);
        x.take(0, x.head(1, 0, 2));
        x.take(0, x.head(1, 0, 7));
        x.take(0, x.head(1, 1, 7));
        x.take(0, x.head(1, 0, 3));
        x.take(0, x.proof(1, 1, 3, 7));
    });
    private static final Scene TWENTY_HEADS = new Scene(x -> {
        for (int i = 0; i < 20; i++) x.take(0, Play.forge(x, 2, i, i));
        x.clear();
    });
    private static final Scene TWELVE_FACTS = new Scene(x -> {
        Play.grow(x, 1, 0, 80, 0);
        x.take(0, x.head(1, 0, 80));
        for (int m = 52; m < 64; m++) x.take(0, x.proof(1, 0, m, 80));
        x.clear();
    });
    private static final Scene TWENTY_RECORDS = new Scene(x -> {
        Play.fork(x, 0, 3, 6, 3, 2, 2);
        x.clear();
    });

    private static byte[] heldPart(Watch x, int i) {
        byte[] part = new byte[44];
        for (int k = 0; k < 44; k++) part[k] = (byte) x.held(0, i, 1 + k);
        return part;
    }

    // ---- promise 14: gossip

    static void promise14_toItselfIsNone() {
        for (int monitor = 0; monitor < 4; monitor++) {
            int m = monitor;
            BUSY.keeps("monitor " + m, x -> x.gossip(m, m), -1);
        }
        TWENTY_HEADS.keeps("a full one", x -> x.gossip(0, 0), -1);
    }

    static void promise14_noSuchMonitorIsNone() {
        for (int monitor : Play.NOT_A_MONITOR) {
            BUSY.keeps("of " + monitor, x -> x.gossip(monitor, 1), -1);
            BUSY.keeps("to " + monitor, x -> x.gossip(0, monitor), -1);
            BUSY.keeps("of and to " + monitor, x -> x.gossip(monitor, monitor), -1);
        }
    }

    static void promise14_eachMonitorMayTellEachOther() {
        for (int a = 0; a < 4; a++) {
            for (int b = 0; b < 4; b++) {
                if (a == b) continue;
                Watch x = NEW.made();
                x.take(a, Play.forge(x, 1, 5, 1));
                Checks.due("of " + a + " to " + b, x.gossip(a, b), 1);
                Checks.due("heads of " + b, x.holds(b, 0), 1);
                Checks.due("size", x.held(b, 0, 4), 5);
            }
        }
    }

    static void promise14_ofOneThatHoldsNoneIsZero() {
        BUSY.keeps("gossip", x -> x.gossip(1, 0), 0);
        NEW.keeps("gossip", x -> x.gossip(0, 1), 0);
    }

    static void promise14_allTwentyMayBeNew() {
        TWENTY_HEADS.answers("gossip", x -> x.gossip(0, 3), 20);
        Watch x = TWENTY_HEADS.made();
        x.gossip(0, 3);
        Checks.due("heads", x.holds(3, 0), 20);
        for (int i = 0; i < 20; i++) {
            for (int k : new int[] {0, 4, 36, 44}) Checks.due("by numbers", x.held(3, i, k), x.held(0, i, k));
        }
    }

    static void promise14_knownOnesDoNotCount() {
        Scene told = BUSY.then(x -> x.gossip(0, 1));
        told.keeps("again", x -> x.gossip(0, 1), 0);
        told.keeps("back", x -> x.gossip(1, 0), 0);
        BUSY.then(x -> x.take(1, 1)).answers("one is known", x -> x.gossip(0, 1), 3);
    }

    static void promise14_theTellersStayAsTheyAre() {
        Map<String, Integer> changed = new HashMap<>();
        Watch x = TWENTY_HEADS.made();
        changed.put("holds(1, 0)", 20);
        for (int i = 0; i < 20; i++) {
            byte[] head = Play.headBytes(2, i, Play.forgedRoot(i));
            for (int k = 0; k < 45; k++) changed.put("held(1, " + i + ", " + k + ")", head[k] & 255);
        }
        TWENTY_HEADS.changes("gossip", y -> y.gossip(0, 1), 20, changed);
    }

    static void promise14_thoseThatDoNotFitAreMinusThree() {
        Scene scene = TWENTY_HEADS.then(x -> {
            for (int i = 0; i < 18; i++) x.take(1, Play.forge(x, 3, i, 0));
            x.clear();
        });
        scene.answers("two fit", x -> x.gossip(0, 1), 2);
        Watch x = scene.made();
        x.gossip(0, 1);
        Checks.due("heads", x.holds(1, 0), 20);
        Checks.due("-3", x.holds(1, 4), 18);
        Checks.due("NONE", x.holds(1, 3), 0);
        Checks.due("the teller's -3", x.holds(0, 4), 0);
        Checks.due("the first", x.held(1, 18, 4), 0);
        Checks.due("the second", x.held(1, 19, 4), 1);
        Map<String, Integer> changed = Map.of("holds(1, 4)", 36);
        scene.then(y -> y.gossip(0, 1)).changes("none fits", y -> y.gossip(0, 1), 0, changed);
    }

    static void promise14_oneWithoutRoomForRecordsDoesNotStopTheNext() {
        Scene scene = TWENTY_RECORDS.then(x -> {
            Play.takeForged(x, 1, 3, 100, 9);
            Play.takeForged(x, 1, 3, 50, 9);
            Play.takeForged(x, 1, 3, 103, 9);
            Play.takeForged(x, 1, 3, 51, 9);
            x.clear();
        });
        scene.answers("two fit", x -> x.gossip(1, 0), 2);
        Watch x = scene.made();
        x.gossip(1, 0);
        Checks.due("-3", x.holds(0, 4), 2);
        Checks.due("heads", x.holds(0, 0), 15);
        Checks.due("records", x.holds(0, 2), 20);
        Checks.due("the second", x.held(0, 13, 4), 50);
        Checks.due("the fourth", x.held(0, 14, 4), 51);
    }

    static void promise14_factsAndRecordsAreNotTold() {
        Watch x = BUSY.made();
        Checks.due("gossip", x.gossip(0, 2), 4);
        Checks.due("facts", x.holds(2, 1), 0);
        Checks.due("the fork, raised anew", x.holds(2, 2), 1);
        int[] want = {1, 1, 2, -1};
        for (int what = 0; what < 4; what++) Checks.due("record", x.record(2, 0, what), want[what]);
    }

    // ---- promise 15: holds

    static void promise15_noSuchMonitorIsNone() {
        for (int monitor : Play.NOT_A_MONITOR) {
            for (int what = 0; what < 5; what++) {
                int w = what;
                BUSY.answers("monitor " + monitor, x -> x.holds(monitor, w), -1);
            }
        }
    }

    static void promise15_noSuchWhatIsNone() {
        for (int monitor = 0; monitor < 4; monitor++) {
            int m = monitor;
            for (int what : new int[] {-1, 5, 6, Play.MIN, Play.MAX}) {
                BUSY.answers("what " + what, x -> x.holds(m, what), -1);
            }
        }
    }

    static void promise15_noneAtFirst() {
        for (int monitor = 0; monitor < 4; monitor++) {
            int m = monitor;
            for (int what = 0; what < 5; what++) {
                int w = what;
                NEW.answers("what " + what, x -> x.holds(m, w), 0);
            }
        }
    }

    static void promise15_asManyAsThereIsRoomFor() {
        TWENTY_HEADS.answers("heads", x -> x.holds(0, 0), 20);
        TWELVE_FACTS.answers("facts", x -> x.holds(0, 1), 12);
        TWENTY_RECORDS.answers("records", x -> x.holds(0, 2), 20);
        TWENTY_HEADS.then(x -> x.take(0, Play.forge(x, 2, 20, 0))).answers("heads", x -> x.holds(0, 0), 20);
        TWELVE_FACTS.then(x -> x.take(0, x.proof(1, 0, 3, 80))).answers("facts", x -> x.holds(0, 1), 12);
        TWENTY_RECORDS.then(x -> x.take(0, Play.forge(x, 3, 100, 9))).answers("records", x -> x.holds(0, 2), 20);
    }

    static void promise15_eachAnswerOfNoneCounts() {
        Watch x = BUSY.made();
        x.alter(0, 44, 1);
        x.cut(4, 0);
        for (int i = 1; i <= 50; i++) {
            x.take(0, 0);
            x.take(0, 4);
            Checks.due("NONE", x.holds(0, 3), 2 * i);
        }
        Checks.due("-3", x.holds(0, 4), 0);
        Checks.due("another monitor", x.holds(1, 3), 0);
    }

    static void promise15_eachAnswerOfMinusThreeCounts() {
        Watch x = TWENTY_HEADS.made();
        x.take(1, Play.forge(x, 2, 77, 0));
        for (int i = 1; i <= 50; i++) {
            x.take(0, 0);
            x.gossip(1, 0);
            Checks.due("-3", x.holds(0, 4), 2 * i);
        }
        Checks.due("NONE", x.holds(0, 3), 0);
        Checks.due("the teller", x.holds(1, 4), 0);
        TWELVE_FACTS.then(y -> y.take(0, y.proof(1, 0, 3, 80))).answers("a proof", y -> y.holds(0, 4), 1);
    }

    /** In 512 calls there is room for more answers than a byte counts, and in gossip for thousands. */
    static void promise15_answersAreCountedBeyondAByte() {
        Watch x = NEW.made();
        x.alter(x.head(0, 0, 0), 44, 1);
        for (int i = 0; i < 509; i++) x.take(0, 0);
        Checks.due("NONE", x.holds(0, 3), 509);
        Watch y = TWENTY_HEADS.made();
        for (int i = 0; i < 20; i++) y.take(1, Play.forge(y, 3, i, i));
        for (int i = 0; i < 200; i++) Checks.due("gossip", y.gossip(0, 1), 0);
        Checks.due("-3", y.holds(1, 4), 4000);
        Checks.due("heads", y.holds(1, 0), 20);
    }

    static void promise15_otherAnswersDoNotCount() {
        Scene scene = BUSY.then(x -> x.path(1, 0, 5, 2));
        scene.keeps("a path for no head", x -> x.take(0, 5), 0);
        scene.keeps("a known head", x -> x.take(0, 1), 0);
        scene.keeps("a known proof", x -> x.take(0, 4), 0);
        scene.keeps("no such letter", x -> x.take(0, 6), -2);
        scene.keeps("no such monitor", x -> x.take(4, 0), -2);
        scene.keeps("gossip with itself", x -> x.gossip(0, 0), -1);
        scene.keeps("gossip with none", x -> x.gossip(0, 4), -1);
    }

    // ---- promise 16: held

    static void promise16_noSuchMonitorIsNone() {
        for (int monitor : Play.NOT_A_MONITOR) BUSY.answers("monitor " + monitor, x -> x.held(monitor, 0, 0), -1);
        for (int monitor = 1; monitor < 4; monitor++) {
            int m = monitor;
            BUSY.answers("a monitor without heads", x -> x.held(m, 0, 0), -1);
        }
    }

    static void promise16_noSuchHeadIsNone() {
        for (int i : new int[] {-1, 4, 19, 20, Play.MIN, Play.MAX}) {
            BUSY.answers("head " + i, x -> x.held(0, i, 0), -1);
        }
        for (int i : new int[] {-1, 20, 21, Play.MAX}) TWENTY_HEADS.answers("head " + i, x -> x.held(0, i, 0), -1);
    }

    static void promise16_noSuchByteIsNone() {
        for (int i : new int[] {0, 19}) {
            for (int k : new int[] {-1, -2, 45, 46, Play.MIN, Play.MAX}) {
                TWENTY_HEADS.answers("byte " + k, x -> x.held(0, i, k), -1);
            }
        }
    }

    static void promise16_allBytesOfAllTwenty() {
        for (int i = 0; i < 20; i++) {
            byte[] want = Play.headBytes(2, i, Play.forgedRoot(i));
            Watch x = TWENTY_HEADS.made();
            for (int k = 0; k < 45; k++) Checks.due("byte " + k + " of head " + i, x.held(0, i, k), want[k] & 255);
        }
    }

    static void promise16_whatBecomesOfTheLetterDoesNotMatter() {
        Watch x = BUSY.made();
        byte[] want = Play.bytesOf(x, 0);
        for (int k = 0; k < 45; k++) x.alter(0, k, 255);
        x.clear();
        x.head(3, 0, 0);
        for (int k = 0; k < 45; k++) Checks.due("byte " + k, x.held(0, 0, k), want[k] & 255);
    }

    // ---- promise 17: fact

    static void promise17_noSuchMonitorIsNone() {
        for (int monitor : Play.NOT_A_MONITOR) BUSY.answers("monitor " + monitor, x -> x.fact(monitor, 0, 0), -1);
        for (int monitor = 1; monitor < 4; monitor++) {
            int m = monitor;
            BUSY.answers("a monitor without facts", x -> x.fact(m, 0, 0), -1);
        }
    }

    static void promise17_noSuchFactIsNone() {
        for (int i : new int[] {-1, 1, 11, 12, Play.MIN, Play.MAX}) {
            for (int what : new int[] {0, 1, 2, 3, 4}) BUSY.answers("fact " + i, x -> x.fact(0, i, what), -1);
        }
        for (int i : new int[] {-1, 12, 13}) TWELVE_FACTS.answers("fact " + i, x -> x.fact(0, i, 0), -1);
    }

    static void promise17_noSuchWhatIsNone() {
        for (int what : new int[] {-1, 36, 37, Play.MIN, Play.MAX}) {
            BUSY.answers("what " + what, x -> x.fact(0, 0, what), -1);
            TWELVE_FACTS.answers("what " + what, x -> x.fact(0, 11, what), -1);
        }
    }

    static void promise17_allOfAllTwelve() {
        for (int i = 0; i < 12; i++) {
            Watch x = TWELVE_FACTS.made();
            int m = 52 + i;
            Checks.due("log", x.fact(0, i, 0), 1);
            Checks.due("m", x.fact(0, i, 1), m);
            Checks.due("head", x.fact(0, i, 2), 0);
            Checks.due("hashes", x.fact(0, i, 3), Model.subproof(m, Play.numbers(80), true).length / 32);
            byte[] r = Model.root(Play.numbers(m));
            for (int k = 0; k < 32; k++) Checks.due("byte " + k + " of r", x.fact(0, i, 4 + k), r[k] & 255);
        }
    }

    static void promise17_theLogsZeroAndThree() {
        for (int log : new int[] {0, 3}) {
            Watch x = NEW.made();
            Play.grow(x, log, 1, 3, 5);
            x.take(2, x.head(log, 1, 3));
            x.take(2, x.proof(log, 1, 2, 3));
            Checks.due("log", x.fact(2, 0, 0), log);
            Checks.due("m", x.fact(2, 0, 1), 2);
            Checks.due("hashes", x.fact(2, 0, 3), 1);
        }
    }

    static void promise17_whatBecomesOfTheLetterDoesNotMatter() {
        Watch x = BUSY.made();
        int first = x.fact(0, 0, 4);
        int hashes = x.fact(0, 0, 3);
        x.alter(4, 9, 255);
        x.alter(4, 4, 255);
        x.cut(4, 0);
        Checks.due("r", x.fact(0, 0, 4), first);
        Checks.due("m", x.fact(0, 0, 1), 3);
        Checks.due("hashes", x.fact(0, 0, 3), hashes);
        x.clear();
        Checks.due("r", x.fact(0, 0, 4), first);
    }

    // ---- promise 18: record

    static void promise18_noSuchMonitorIsNone() {
        for (int monitor : Play.NOT_A_MONITOR) BUSY.answers("monitor " + monitor, x -> x.record(monitor, 0, 0), -1);
        for (int monitor = 1; monitor < 4; monitor++) {
            int m = monitor;
            BUSY.answers("a monitor without records", x -> x.record(m, 0, 0), -1);
        }
    }

    static void promise18_noSuchRecordIsNone() {
        for (int i : new int[] {-1, 2, 19, 20, Play.MIN, Play.MAX}) {
            for (int what = 0; what < 4; what++) {
                int w = what;
                BUSY.answers("record " + i, x -> x.record(0, i, w), -1);
            }
        }
        for (int i : new int[] {-1, 20, 21}) TWENTY_RECORDS.answers("record " + i, x -> x.record(0, i, 0), -1);
    }

    static void promise18_noSuchWhatIsNone() {
        for (int what : new int[] {-1, 4, 5, Play.MIN, Play.MAX}) {
            for (int i = 0; i < 2; i++) {
                int record = i;
                BUSY.answers("what " + what, x -> x.record(0, record, what), -1);
            }
            TWENTY_RECORDS.answers("what " + what, x -> x.record(0, 19, what), -1);
        }
    }

    static void promise18_ofKindOneThereIsNoFact() {
        int[] want = {1, 1, 2, -1};
        for (int what = 0; what < 4; what++) {
            int w = what;
            BUSY.answers("what " + what, x -> x.record(0, 0, w), want[what]);
        }
    }

    static void promise18_ofKindTwoTheOtherHeadIsTheFacts() {
        int[] want = {2, 3, 2, 0};
        for (int what = 0; what < 4; what++) {
            int w = what;
            BUSY.answers("what " + what, x -> x.record(0, 1, w), want[what]);
        }
    }

    static void promise18_allOfAllTwenty() {
        Watch x = TWENTY_RECORDS.made();
        int i = 0;
        int start = 0;
        for (int group : new int[] {6, 3, 2, 2}) {
            for (int other = 1; other < group; other++) {
                for (int first = 0; first < other; first++) {
                    int[] want = {1, start + first, start + other, -1};
                    for (int what = 0; what < 4; what++) Checks.due("record " + i, x.record(0, i, what), want[what]);
                    i++;
                }
            }
            start += group;
        }
        Checks.due("records", i, 20);
    }

    // ---- promise 19: lay

    static void promise19_noSuchMonitorIsNoneDoingNothing() {
        Scene scene = BUSY.then(x -> x.lay(0, 1));
        for (int monitor : Play.NOT_A_MONITOR) scene.keeps("monitor " + monitor, x -> x.lay(monitor, 0), -1);
        for (int monitor = 1; monitor < 4; monitor++) {
            int m = monitor;
            scene.keeps("a monitor without records", x -> x.lay(m, 0), -1);
        }
    }

    static void promise19_noSuchRecordIsNoneDoingNothing() {
        Scene scene = BUSY.then(x -> x.lay(0, 1));
        for (int i : new int[] {-1, 2, 19, 20, Play.MIN, Play.MAX}) scene.keeps("record " + i, x -> x.lay(0, i), -1);
        Scene full = TWENTY_RECORDS.then(x -> x.trim(7));
        for (int i : new int[] {-1, 20, 21}) full.keeps("record " + i, x -> x.lay(0, i), -1);
        NEW.keeps("no record at all", x -> x.lay(0, 0), -1);
    }

    static void promise19_ofKindOneThereAreNinetyBytes() {
        Watch x = BUSY.made();
        Checks.due("lay", x.lay(0, 0), 90);
        byte[] want = Play.forkRecord(1, heldPart(x, 1), heldPart(x, 2));
        Checks.dueBytes("the desk", Play.deskOf(x), want);
    }

    static void promise19_ofKindTwoThereAre122AndTheHashes() {
        Watch x = BUSY.made();
        byte[] proof = Play.bytesOf(x, 4);
        x.clear();
        Checks.due("lay", x.lay(0, 1), 122 + proof.length - 41);
        byte[] want = Play.breachRecord(1, heldPart(x, 3), heldPart(x, 2), Model.part(proof, 9, proof.length - 9));
        Watch y = BUSY.made();
        y.lay(0, 1);
        Checks.dueBytes("the desk", Play.deskOf(y), want);
    }

    static void promise19_theLongestAndTheShortestOfKindTwo() {
        for (int m : new int[] {51, 63, 64}) {
            Scene scene = new Scene(x -> {
                Play.grow(x, 1, 0, 80, 0);
                x.take(0, x.head(1, 0, 80));
                x.take(0, x.proof(1, 0, m, 80));
                Play.takeForged(x, 0, 1, m, 1);
            });
            byte[] hashes = Model.subproof(m, Play.numbers(80), true);
            byte[] first = Play.signed(Scene.SEED, 1, m, Play.forgedRoot(1));
            byte[] other = Play.signed(Scene.SEED, 1, 80, Model.root(Play.numbers(80)));
            byte[] want = Play.breachRecord(1, first, other, Model.all(Model.root(Play.numbers(m)), hashes));
            Watch x = scene.made();
            Checks.due("lay", x.lay(0, 0), want.length);
            Checks.dueBytes("the desk", Play.deskOf(x), want);
            Checks.due("it is right", scene.then(y -> y.lay(0, 0)).made().audit(), true);
        }
    }

    static void promise19_theTwentiethRecord() {
        Watch x = TWENTY_RECORDS.made();
        Checks.due("lay", x.lay(0, 19), 90);
        byte[] first = Play.signed(Scene.SEED, 3, 103, Play.forgedRoot(1));
        byte[] other = Play.signed(Scene.SEED, 3, 103, Play.forgedRoot(2));
        Checks.dueBytes("the desk", Play.deskOf(x), Play.forkRecord(3, first, other));
    }

    static void promise19_nothingIsLeftOfALongerDesk() {
        Scene longer = BUSY.then(x -> {
            x.trim(634);
            x.patch(633, 9);
            x.patch(90, 9);
        });
        longer.answers("lay", x -> x.lay(0, 0), 90);
        longer.then(x -> x.lay(0, 0)).answers("byte 90", x -> x.desk(90), -1);
        longer.then(x -> x.lay(0, 0)).answers("byte 89", x -> x.desk(89) < 0 ? 1 : 0, 0);
    }

    static void promise19_theRecordStaysAsItIs() {
        Map<String, Integer> changed = new HashMap<>();
        Watch x = BUSY.made();
        byte[] want = Play.forkRecord(1, heldPart(x, 1), heldPart(x, 2));
        for (int k = 0; k < 90; k++) changed.put("desk(" + k + ")", want[k] & 255);
        byte[] hash = Model.sha(want);
        for (int k = 0; k < 32; k++) changed.put("hash(" + k + ")", hash[k] & 255);
        changed.put("audit()", 1);
        BUSY.changes("lay", y -> y.lay(0, 0), 90, changed);
    }
}
