import java.util.HashMap;
import java.util.Map;

/** Promises 7 to 12: the boundaries that the document names for letters. */
public final class LetterBoundaryTest {
    public static void main(String[] args) {
        Checks.run(LetterBoundaryTest.class, 7, 12);
    }

    private static final int HEAD = 0;
    private static final int PROOF = 1;
    private static final int PATH = 2;
    private static final int BARE_PATH = 3;
    private static final int[] NOT_A_LETTER = {-1, -2, 4, 59, 60, Play.MIN, Play.MAX};

    private static final Scene NINE = new Scene(x -> Play.grow(x, 1, 0, 9, 0));
    /** One of each kind, and a PATH without hashes. */
    private static final Scene FOUR = NINE.then(x -> {
        x.head(1, 0, 9);
        x.proof(1, 0, 1, 9);
        x.path(1, 0, 9, 2);
        x.path(1, 0, 1, 0);
    });
    private static final Scene SIXTY = NINE.then(x -> {
        for (int i = 0; i < 60; i++) x.head(1, 0, i % 10);
    });
    private static final int[] BYTES = {45, 41 + 4 * 32, 13 + 4 * 32, 13};

    // ---- promise 7: alter

    static void promise07_theFirstAndTheLastByte() {
        Watch x = FOUR.made();
        for (int letter = 0; letter < 4; letter++) {
            for (int k : new int[] {0, BYTES[letter] - 1}) {
                int was = x.letter(letter, k);
                int l = letter;
                Map<String, Integer> changed = Map.of("letter(" + letter + ", " + k + ")", was ^ 255);
                FOUR.changes("alter", y -> y.alter(l, k, 255), was ^ 255, changed);
            }
        }
    }

    static void promise07_onlyTheLowestEightBitsOfTheMask() {
        int was = FOUR.made().letter(HEAD, 20);
        FOUR.keeps("mask 0", x -> x.alter(HEAD, 20, 0), was);
        FOUR.keeps("mask 256", x -> x.alter(HEAD, 20, 256), was);
        FOUR.keeps("mask 0x7fffff00", x -> x.alter(HEAD, 20, 0x7fffff00), was);
        FOUR.keeps("mask MIN", x -> x.alter(HEAD, 20, Play.MIN), was);
        FOUR.changes("mask -1", x -> x.alter(HEAD, 20, -1), was ^ 255, Map.of("letter(0, 20)", was ^ 255));
        FOUR.changes("mask 257", x -> x.alter(HEAD, 20, 257), was ^ 1, Map.of("letter(0, 20)", was ^ 1));
        FOUR.changes("mask 128", x -> x.alter(HEAD, 20, 128), was ^ 128, Map.of("letter(0, 20)", was ^ 128));
    }

    static void promise07_theByteThenIsZeroTo255() {
        Watch x = FOUR.made();
        Checks.due("to 255", x.alter(HEAD, 1, 255), 255);
        Checks.due("to 0", x.alter(HEAD, 1, 255), 0);
        Checks.due("to 128", x.alter(HEAD, 1, 128), 128);
    }

    static void promise07_noSuchByteIsNone() {
        for (int letter = 0; letter < 4; letter++) {
            int l = letter;
            for (int k : new int[] {-1, -2, BYTES[letter], BYTES[letter] + 1, Play.MIN, Play.MAX}) {
                FOUR.keeps("byte " + k + " of letter " + letter, x -> x.alter(l, k, 1), -1);
            }
        }
    }

    static void promise07_aByteThatWasCutIsNone() {
        Scene cut = FOUR.then(x -> x.cut(PROOF, 1));
        cut.keeps("byte 73", x -> x.alter(PROOF, 41 + 32, 1), -1);
        cut.answers("byte 72", x -> x.alter(PROOF, 41 + 31, 0) < 0 ? 1 : 0, 0);
    }

    static void promise07_noSuchLetterIsNone() {
        for (int letter : NOT_A_LETTER) FOUR.keeps("letter " + letter, x -> x.alter(letter, 0, 1), -1);
        NINE.keeps("no letter at all", x -> x.alter(0, 0, 1), -1);
        FOUR.then(x -> x.clear()).keeps("a letter that went", x -> x.alter(0, 0, 1), -1);
        SIXTY.keeps("letter 60", x -> x.alter(60, 0, 1), -1);
        SIXTY.answers("letter 59", x -> x.alter(59, 0, 3), 2);
    }

    // ---- promise 8: cut

    static void promise08_allHashesStay() {
        FOUR.keeps("cut", x -> x.cut(PROOF, 4), 0);
        FOUR.keeps("cut", x -> x.cut(PATH, 4), 0);
    }

    static void promise08_noHashStays() {
        dueCut(PROOF, 41, 0);
        dueCut(PATH, 13, 0);
    }

    static void promise08_theFirstOnesStay() {
        for (int n = 1; n < 4; n++) {
            dueCut(PROOF, 41, n);
            dueCut(PATH, 13, n);
        }
    }

    private static void dueCut(int letter, int start, int n) {
        Map<String, Integer> changed = new HashMap<>();
        changed.put("letter(" + letter + ", -2)", start + 32 * n);
        for (int k = start + 32 * n; k < BYTES[letter]; k++) changed.put("letter(" + letter + ", " + k + ")", -1);
        FOUR.changes("cut", x -> x.cut(letter, n), 4 - n, changed);
    }

    static void promise08_notSoManyIsNoneDoingNothing() {
        for (int n : new int[] {5, 6, 60, Play.MAX}) {
            FOUR.keeps("the first " + n + " of a proof", x -> x.cut(PROOF, n), -1);
            FOUR.keeps("the first " + n + " of a path", x -> x.cut(PATH, n), -1);
        }
        Scene cut = FOUR.then(x -> x.cut(PROOF, 2));
        cut.keeps("the first 3 of 2", x -> x.cut(PROOF, 3), -1);
        cut.keeps("the first 2 of 2", x -> x.cut(PROOF, 2), 0);
        cut.answers("the first of 2", x -> x.cut(PROOF, 1), 1);
    }

    static void promise08_lessThanNoneIsNoneDoingNothing() {
        for (int n : new int[] {-1, -4, Play.MIN}) {
            for (int letter = 0; letter < 4; letter++) {
                int l = letter;
                FOUR.keeps("the first " + n, x -> x.cut(l, n), -1);
            }
        }
    }

    static void promise08_ofAPathWithoutHashesNoneGoes() {
        FOUR.keeps("none of none", x -> x.cut(BARE_PATH, 0), 0);
        FOUR.keeps("one of none", x -> x.cut(BARE_PATH, 1), -1);
    }

    static void promise08_aHeadIsNoneDoingNothing() {
        for (int n : new int[] {0, 1, -1, Play.MAX}) FOUR.keeps("the first " + n, x -> x.cut(HEAD, n), -1);
    }

    static void promise08_noSuchLetterIsNoneDoingNothing() {
        for (int letter : NOT_A_LETTER) FOUR.keeps("letter " + letter, x -> x.cut(letter, 0), -1);
        NINE.keeps("no letter at all", x -> x.cut(0, 0), -1);
        FOUR.then(x -> x.clear()).keeps("a letter that went", x -> x.cut(PROOF, 0), -1);
    }

    // ---- promise 9: sign

    static void promise09_aSignedHeadStaysAsItIs() {
        FOUR.keeps("sign", x -> Play.bit(x.sign(HEAD)), 1);
    }

    static void promise09_aHeadIsSignedAsItStands() {
        for (int log = 0; log < 4; log++) {
            Watch x = FOUR.made();
            x.alter(HEAD, 0, 1 ^ log);
            x.alter(HEAD, 4, 9 ^ 200);
            x.alter(HEAD, 36, 5);
            byte[] root = Model.part(Play.bytesOf(x, HEAD), 5, 32);
            Checks.due("sign", x.sign(HEAD), true);
            Checks.dueBytes("head", Play.bytesOf(x, HEAD), Play.headBytes(log, 200, root));
        }
    }

    static void promise09_eachByteOfAWrongSignGoes() {
        byte[] want = Play.bytesOf(FOUR.made(), HEAD);
        for (int k = 37; k < 45; k++) {
            Watch x = FOUR.made();
            x.alter(HEAD, k, 255);
            Checks.due("sign", x.sign(HEAD), true);
            Checks.dueBytes("head", Play.bytesOf(x, HEAD), want);
        }
    }

    static void promise09_aLogAboveThreeIsFalseDoingNothing() {
        for (int log : new int[] {4, 5, 127, 128, 255}) {
            Scene scene = FOUR.then(x -> x.alter(HEAD, 0, 1 ^ log));
            scene.keeps("log " + log, x -> Play.bit(x.sign(HEAD)), 0);
        }
    }

    static void promise09_aSizeBelowZeroIsTrue() {
        for (int size : new int[] {-1, Play.MIN}) {
            Watch x = FOUR.made();
            Play.putNumber(x, HEAD, 1, size);
            Checks.due("sign", x.sign(HEAD), true);
            byte[] want = Play.headBytes(1, size, Model.root(Play.numbers(9)));
            Checks.dueBytes("head", Play.bytesOf(x, HEAD), want);
        }
    }

    static void promise09_noHeadIsFalseDoingNothing() {
        for (int letter : new int[] {PROOF, PATH, BARE_PATH}) {
            FOUR.keeps("letter " + letter, x -> Play.bit(x.sign(letter)), 0);
        }
    }

    static void promise09_aProofOfAHeadsLengthIsFalseDoingNothing() {
        Scene scene = FOUR.then(x -> {
            x.cut(PROOF, 0);
            x.cut(PATH, 1);
        });
        scene.answers("a head's length", x -> x.letter(PATH, -2), 45);
        scene.keeps("a proof", x -> Play.bit(x.sign(PROOF)), 0);
        scene.keeps("a path", x -> Play.bit(x.sign(PATH)), 0);
    }

    static void promise09_noSuchLetterIsFalseDoingNothing() {
        for (int letter : NOT_A_LETTER) FOUR.keeps("letter " + letter, x -> Play.bit(x.sign(letter)), 0);
        NINE.keeps("no letter at all", x -> Play.bit(x.sign(0)), 0);
        FOUR.then(x -> x.clear()).keeps("a letter that went", x -> Play.bit(x.sign(HEAD)), 0);
        SIXTY.keeps("letter 60", x -> Play.bit(x.sign(60)), 0);
    }

    // ---- promise 10: clear

    static void promise10_ofNoLettersNoneGoes() {
        NINE.keeps("clear", x -> x.clear(), 0);
        FOUR.then(x -> x.clear()).keeps("again", x -> x.clear(), 0);
    }

    static void promise10_allSixtyGo() {
        SIXTY.answers("clear", x -> x.clear(), 60);
        Scene gone = SIXTY.then(x -> x.clear());
        gone.answers("letters", x -> x.letters(), 0);
        for (int letter : new int[] {0, 1, 59}) gone.answers("letter", x -> x.letter(letter, -1), -1);
    }

    static void promise10_onlyLettersGo() {
        Scene busy = FOUR.then(x -> {
            Play.takeForged(x, 0, 1, 9, 3);
            x.take(0, HEAD);
            x.take(0, PROOF);
            Play.takeForged(x, 0, 1, 1, 3);
            x.lay(0, 1);
            x.take(0, PATH);
            x.alter(HEAD, 44, 1);
            x.take(0, HEAD);
            x.gossip(0, 3);
        });
        Watch x = busy.made();
        Checks.due("letters", x.letters(), 6);
        Checks.due("records", x.holds(0, 2), 2);
        Map<String, Integer> changed = new HashMap<>();
        changed.put("letters()", 0);
        for (int letter = 0; letter < 6; letter++) {
            int bytes = x.letter(letter, -2);
            for (int k = -2; k < bytes; k++) changed.put("letter(" + letter + ", " + k + ")", -1);
        }
        busy.changes("clear", y -> y.clear(), 6, changed);
    }

    static void promise10_numbersBeginAnew() {
        Scene gone = FOUR.then(x -> x.clear());
        gone.answers("head", x -> x.head(1, 0, 9), 0);
        gone.answers("proof", x -> x.proof(1, 0, 3, 9), 0);
        gone.answers("path", x -> x.path(1, 0, 9, 2), 0);
    }

    static void promise10_nothingIsLeftOfALetterThatWent() {
        Watch x = FOUR.made();
        x.alter(0, 20, 255);
        x.clear();
        for (int i = 0; i < 4; i++) x.path(1, 0, 1, 0);
        for (int i = 0; i < 4; i++) {
            Checks.due("kind", x.letter(i, -1), 2);
            Checks.due("bytes", x.letter(i, -2), 13);
            Checks.due("byte 13", x.letter(i, 13), -1);
        }
    }

    static void promise10_thereIsRoomForSixtyAgainAndAgain() {
        Watch x = NINE.made();
        for (int round = 0; round < 8; round++) {
            for (int i = 0; i < 60; i++) Checks.due("head", x.head(1, 0, 9), i);
            Checks.due("clear", x.clear(), 60);
        }
        Checks.due("letters", x.letters(), 0);
    }

    // ---- promise 11: letters

    static void promise11_noneAtFirst() {
        NINE.answers("letters", x -> x.letters(), 0);
    }

    static void promise11_eachKindCounts() {
        FOUR.answers("letters", x -> x.letters(), 4);
        SIXTY.answers("letters", x -> x.letters(), 60);
    }

    static void promise11_aRefusedOneDoesNotCount() {
        SIXTY.then(x -> x.head(1, 0, 0)).answers("letters", x -> x.letters(), 60);
        FOUR.then(x -> x.head(4, 0, 0)).answers("letters", x -> x.letters(), 4);
        FOUR.then(x -> x.proof(1, 0, 0, 9)).answers("letters", x -> x.letters(), 4);
        FOUR.then(x -> x.path(1, 0, 9, 9)).answers("letters", x -> x.letters(), 4);
    }

    static void promise11_oneThatIsTakenStays() {
        FOUR.then(x -> x.take(0, HEAD)).answers("letters", x -> x.letters(), 4);
    }

    static void promise11_noneAfterClear() {
        FOUR.then(x -> x.clear()).answers("letters", x -> x.letters(), 0);
    }

    // ---- promise 12: letter

    static void promise12_minusOneIsTheKind() {
        int[] kinds = {0, 1, 2, 2};
        for (int i = 0; i < 4; i++) {
            int letter = i;
            FOUR.answers("kind", x -> x.letter(letter, -1), kinds[i]);
        }
    }

    static void promise12_minusTwoIsHowManyBytes() {
        for (int i = 0; i < 4; i++) {
            int letter = i;
            FOUR.answers("bytes", x -> x.letter(letter, -2), BYTES[i]);
        }
        FOUR.then(x -> x.cut(PROOF, 0)).answers("bytes without hashes", x -> x.letter(PROOF, -2), 41);
        FOUR.then(x -> x.cut(PATH, 0)).answers("bytes without hashes", x -> x.letter(PATH, -2), 13);
    }

    static void promise12_belowMinusTwoIsNone() {
        for (int letter = 0; letter < 4; letter++) {
            int l = letter;
            for (int k : new int[] {-3, -4, Play.MIN}) FOUR.keeps("byte " + k, x -> x.letter(l, k), -1);
        }
    }

    static void promise12_theFirstAndTheLastByte() {
        Watch x = FOUR.made();
        byte[] head = Play.headBytes(1, 9, Model.root(Play.numbers(9)));
        byte[] hashes = Model.subproof(1, Play.numbers(9), true);
        byte[] path = Model.pathOf(2, Play.numbers(9));
        for (int letter = 0; letter < 4; letter++) Checks.due("log", x.letter(letter, 0), 1);
        Checks.due("the last of a head", x.letter(HEAD, 44), head[44] & 255);
        Checks.due("the last of a proof", x.letter(PROOF, BYTES[PROOF] - 1), hashes[hashes.length - 1] & 255);
        Checks.due("the last of a path", x.letter(PATH, BYTES[PATH] - 1), path[path.length - 1] & 255);
        Checks.due("the last of a path of one leaf", x.letter(BARE_PATH, 12), 0);
    }

    static void promise12_beyondTheLastByteIsNone() {
        for (int letter = 0; letter < 4; letter++) {
            int l = letter;
            for (int k : new int[] {BYTES[letter], BYTES[letter] + 1, Play.MAX}) {
                FOUR.keeps("byte " + k, x -> x.letter(l, k), -1);
            }
        }
        FOUR.then(x -> x.cut(PROOF, 1)).keeps("a byte that was cut", x -> x.letter(PROOF, 41 + 32), -1);
    }

    static void promise12_aByteIsZeroTo255() {
        FOUR.then(x -> x.alter(HEAD, 1, 255)).answers("byte 1", x -> x.letter(HEAD, 1), 255);
        FOUR.then(x -> x.alter(HEAD, 1, 128)).answers("byte 1", x -> x.letter(HEAD, 1), 128);
    }

    static void promise12_noSuchLetterIsNone() {
        for (int letter : NOT_A_LETTER) {
            for (int k : new int[] {-2, -1, 0, 44}) FOUR.keeps("letter " + letter, x -> x.letter(letter, k), -1);
        }
        for (int k : new int[] {-2, -1, 0}) {
            NINE.keeps("no letter at all", x -> x.letter(0, k), -1);
            FOUR.then(x -> x.clear()).keeps("a letter that went", x -> x.letter(0, k), -1);
            SIXTY.keeps("letter 60", x -> x.letter(60, k), -1);
        }
        SIXTY.answers("letter 59", x -> x.letter(59, -1), 0);
    }
}
