/**
 * Poems: lines kept, rhymes, the poem form, judging (promises 23 to 29): each sentence of the document
 * that names a boundary case has a test here, with the sentence above it.
 */
public final class BoundariesOfPoems {
    private static final int NONE = Check.NONE;
    private static final int RANGE = Check.RANGE;
    private static final int HUGE = Check.HUGE;
    private static final int TINY = Check.TINY;
    private static final int[] NO_LINE = {-1, 12, HUGE, TINY};

    private BoundariesOfPoems() {
    }

    public static void main(String[] args) throws IllegalAccessException {
        Check.runAll(BoundariesOfPoems.class);
    }

    private static void due(String what, int got, int due) {
        Check.due(what, got, due);
    }

    private static void rhymes(MetreDesk x, String one, String other, int due) {
        Check.keep(x, 10, one);
        Check.keep(x, 11, other);
        due(one + " / " + other, x.rhyme(10, 11), due);
        due(other + " / " + one, x.rhyme(11, 10), due);
    }

    /** Form 0 takes a line of one syllable for nothing, form 1 a heavy one, a light one for so much. */
    private static void tellForms(MetreDesk x, int price) {
        x.foot(0, 0, 3, 0, 0);
        x.foot(1, 0, 1, 0, 0);
        x.form(0, 0, 1);
        x.form(1, 0, 2);
        x.licence(2, price);
    }

    private static void places(MetreDesk x, int n, int f, int letter, boolean may) {
        for (int i = 0; i < n; i++) {
            due("place " + i, x.place(i, f, letter, NONE, may), i + 1);
        }
    }

    private static void judgedIs(MetreDesk x, int faults, int price, int out, int... lines) {
        due("judge", x.judge(), faults);
        due("faults", x.judged(0), faults);
        due("price", x.judged(1), price);
        due("set left out", x.judged(2), out);
        for (int i = 0; i < 12; i++) {
            due("line of place " + i, x.judged(10 + i), i < lines.length ? lines[i] : NONE);
        }
    }

    // ---- keep(), drop()

    // "RANGE, also without THE LINE"
    static void keepWithoutTheLine(MetreDesk x) {
        for (int k : new int[] {0, 11, -1, 12}) {
            due("keep " + k, x.keep(k), RANGE);
        }
        due("a faulty line", Check.line(x, "b"), NONE);
        due("keep 0", x.keep(0), RANGE);
        due("count", x.count(5), 0);
    }

    // "lines 0 .. 11"; "RANGE"
    static void linesOf0To11(MetreDesk x) {
        Check.line(x, "ab");
        for (int k : NO_LINE) {
            due("keep " + k, x.keep(k), RANGE);
            due("drop " + k, x.drop(k), RANGE);
        }
        due("none came", x.count(5), 0);
        for (int k = 11; k >= 0; k--) {
            due("keep " + k, x.keep(k), 12 - k);
        }
        for (int k = 0; k < 12; k++) {
            due("one that is there " + k, x.keep(k), 12);
        }
        for (int k = 0; k < 12; k++) {
            due("drop " + k, x.drop(k), 11 - k);
        }
    }

    // "NONE: there was none"
    static void dropOfNone(MetreDesk x) {
        due("none", x.drop(0), NONE);
        Check.line(x, "ab");
        x.keep(5);
        due("below", x.drop(4), NONE);
        due("above", x.drop(6), NONE);
        due("it", x.drop(5), 0);
        due("it again", x.drop(5), NONE);
        due("count", x.count(5), 0);
    }

    // "RANGE", "NONE": refused calls leave all as it was
    static void refusedKeepsAndDropsLeaveAll(MetreDesk x) {
        Check.furnish(x);
        String before = Check.state(x);
        for (int k : NO_LINE) {
            due("keep " + k, x.keep(k), RANGE);
            due("drop " + k, x.drop(k), RANGE);
        }
        due("none there", x.drop(1), NONE);
        Check.same("state", Check.state(x), before);
    }

    // "THE LINE becomes line k": told anew it is another one; the line stays THE LINE
    static void aLineKeptAnew(MetreDesk x) {
        Check.keep(x, 0, "bat");
        Check.keep(x, 1, "cat");
        due("full", x.rhyme(0, 1), 3);
        Check.keep(x, 1, "do");
        due("no more", x.rhyme(0, 1), 0);
        due("count", x.count(5), 2);
        due("the line", x.count(4), 1);
        x.keep(0);
        due("both", x.rhyme(0, 1), 3);
    }

    // "so does the POEM": a line stays as it was kept, whatever line() and the language do then
    static void thePoemKeepsItsLines(MetreDesk x) {
        Check.keep(x, 0, "bata");
        Check.keep(x, 1, "cata");
        due("full", x.rhyme(0, 1), 3);
        x.vowel(0, false);
        x.pair(19, 0, 1);
        Check.line(x, "otu");
        due("still", x.rhyme(0, 1), 3);
        due("scheme", x.scheme(1), 0);
        Check.keep(x, 2, "otu");
        x.vowel(20, false);
        x.keep(3);
        due("as it came, not as it was kept", x.rhyme(2, 3), 3);
    }

    // "so does the POEM": its SYLLABLES, marks and SOUNDS, that judge() asks for
    static void thePoemKeepsItsSounds(MetreDesk x) {
        x.licence(0, 4);
        x.foot(0, 0, 33, 0, 0);
        x.form(0, 0, 1);
        x.place(0, 0, NONE, NONE, false);
        Check.keep(x, 0, "aba ob");
        x.vowel(0, false);
        judgedIs(x, 0, 4, 0, 0);
    }

    // ---- rhyme(), scheme()

    // "NONE: one isn't there"
    static void rhymesOfLinesThatAreNotThere(MetreDesk x) {
        due("none is", x.rhyme(0, 0), NONE);
        Check.keep(x, 0, "ab");
        due("itself", x.rhyme(0, 0), 3);
        for (int k : new int[] {1, 11, -1, 12, HUGE, TINY}) {
            due("0 and " + k, x.rhyme(0, k), NONE);
            due(k + " and 0", x.rhyme(k, 0), NONE);
            due(k + " and itself", x.rhyme(k, k), NONE);
        }
        Check.keep(x, 11, "ab");
        due("0 and 11", x.rhyme(0, 11), 3);
        x.drop(0);
        due("dropped", x.rhyme(0, 11), NONE);
    }

    // "from the vowel of its last HEAVY SYLLABLE .. on, through all behind"
    static void endingsFromTheLastHeavyOne(MetreDesk x) {
        rhymes(x, "batona", "catona", 3);
        rhymes(x, "ob na ne", "rob na ne", 3);
        rhymes(x, "ob na ne", "ib na ne", 1);
        rhymes(x, "ob na ne", "ob na re", 2);
        rhymes(x, "ab ob ne", "ib ob ne", 3);
        rhymes(x, "ob ne ob", "ib a tob", 3);
    }

    // "(by its own mark; without one of the last SYLLABLE)"
    static void endingsWithoutAHeavyOne(MetreDesk x) {
        rhymes(x, "na ne", "ro se", 3);
        rhymes(x, "na ne", "na no", 0);
        rhymes(x, "ne", "se", 3);
        Check.word(x, "so*");
        Check.word(x, "no*");
        rhymes(x, "so na", "mi la", 3);
        rhymes(x, "so", "no", 3);
        rhymes(x, "tab so", "sib no", 0);
        rhymes(x, "tab so", "sab no", 2);
    }

    // "from the vowel": the sounds ahead of it in its SYLLABLE are none of the ENDING
    static void endingsBeginWithTheVowel(MetreDesk x) {
        rhymes(x, "strat", "at", 3);
        rhymes(x, "bat", "bas", 2);
        rhymes(x, "bat", "bit", 0);
        x.pair(0, 4, 1);
        rhymes(x, "bae", "stae", 3);
        rhymes(x, "bae", "bat", 0);
        rhymes(x, "bae", "bas e", 0);
    }

    // "from the vowel": SOUNDS ahead of it may be PAIRS
    static void endingsBehindAPairThatIsNoVowel(MetreDesk x) {
        x.pair(1, 0, 2);
        rhymes(x, "bao", "do", 3);
        rhymes(x, "bao", "ado", 3);
        rhymes(x, "bao", "bau", 0);
    }

    // "its SOUNDS .. through all behind": PAIRS among them
    static void endingsThroughPairs(MetreDesk x) {
        x.pair(1, 0, 2);
        rhymes(x, "ab bao", "ab do", 2);
        rhymes(x, "ab bao", "ab bai", 0);
        rhymes(x, "ab bao", "tab bao", 3);
        x.pair(0, 4, 1);
        x.pair(0, 14, 1);
        x.pair(8, 4, 1);
        rhymes(x, "tae", "tao", 0);
        rhymes(x, "tae", "tie", 0);
        rhymes(x, "tae", "te", 0);
        rhymes(x, "tae", "ta", 0);
        rhymes(x, "tae", "dae", 3);
        x.pair(0, 25, 1);
        x.pair(1, 0, 1);
        rhymes(x, "az", "ba", 0);
    }

    // "of a SYLLABLE in which no SOUND is a vowel (any more) from its first SOUND on"
    static void endingsWithoutAVowel(MetreDesk x) {
        Check.word(x, "bru+");
        x.vowel(24, true);
        Check.word(x, "bry+");
        Check.word(x, "ry+");
        Check.word(x, "ob-ry+");
        x.vowel(24, false);
        due("a line", Check.line(x, "bry"), 1);
        rhymes(x, "bry", "bry", 3);
        rhymes(x, "bry", "ry", 2);
        rhymes(x, "obry", "ry", 3);
        rhymes(x, "bry", "bru", 0);
    }

    // "HALF: their vowels alone are the same": all of them, in order, as many
    static void halfRhymes(MetreDesk x) {
        rhymes(x, "bat e", "cas e", 2);
        rhymes(x, "bat e", "cas i", 0);
        rhymes(x, "bat e", "cas e ne", 0);
        rhymes(x, "bat e", "nab", 0);
        rhymes(x, "bat e i", "bas i e", 0);
        rhymes(x, "bats", "bast", 2);
        rhymes(x, "ob tie", "od die", 2);
        rhymes(x, "ob tie", "od tio", 0);
        rhymes(x, "ob tie", "od toe", 0);
        rhymes(x, "ba", "bat", 2);
    }

    // "EYE: the last two letters of their last words are (of a word of one letter that one)"
    static void eyeRhymes(MetreDesk x) {
        rhymes(x, "bat na", "bit na", 1);
        rhymes(x, "bat na", "bit a", 0);
        rhymes(x, "bat a", "bit a", 1);
        rhymes(x, "bat na", "bit ana", 1);
        rhymes(x, "bat ana", "bit ona", 1);
        rhymes(x, "bat ena", "bit era", 0);
        rhymes(x, "bat an", "bit en", 0);
        rhymes(x, "bat e", "bit i", 0);
        rhymes(x, "ban a", "ben na", 0);
    }

    // "the last two letters of their last words": not of the lines
    static void eyeRhymesOfLastWordsAlone(MetreDesk x) {
        rhymes(x, "bot na", "bit un a", 0);
        rhymes(x, "bat un a", "bit on a", 1);
    }

    // "3 FULL, 2 HALF (and not FULL), 1 EYE (and neither), 0"
    static void theBestRhymeIsTold(MetreDesk x) {
        rhymes(x, "bat", "rat", 3);
        rhymes(x, "bast", "bat", 2);
        Check.word(x, "ba+to-");
        Check.word(x, "be+to-");
        rhymes(x, "bato", "beto", 1);
        rhymes(x, "bato", "besu", 0);
    }

    // "NONE" of scheme: one that isn't there
    static void schemeOfLinesThatAreNotThere(MetreDesk x) {
        for (int k : new int[] {0, 11, -1, 12, HUGE, TINY}) {
            due("none is " + k, x.scheme(k), NONE);
        }
        Check.keep(x, 11, "ab");
        due("11", x.scheme(11), 0);
        for (int k : new int[] {0, 10, -1, 12, HUGE, TINY}) {
            due("another " + k, x.scheme(k), NONE);
        }
        x.drop(11);
        due("dropped", x.scheme(11), NONE);
    }

    // "lines get 0, 1, .. in order": twelve others, twelve of one rhyme
    static void schemeOfTwelveLines(MetreDesk x) {
        String[] lines = {"ab", "ac", "ad", "af", "ag", "ob", "oc", "od", "of", "og", "ib", "ic"};
        for (int k = 0; k < 12; k++) {
            Check.keep(x, k, lines[k]);
        }
        for (int k = 0; k < 12; k++) {
            due("each its own " + k, x.scheme(k), k);
        }
        for (int k = 0; k < 12; k++) {
            x.keep(k);
        }
        for (int k = 0; k < 12; k++) {
            due("all one " + k, x.scheme(k), 0);
        }
    }

    // "those of one FULL rhyme the same": HALF and EYE are not
    static void schemeByFullRhymesAlone(MetreDesk x) {
        String[] lines = {"bat", "bas", "cat", "cas", "do", "bat"};
        int[] due = {0, 1, 0, 1, 2, 0};
        for (int k = 0; k < lines.length; k++) {
            Check.keep(x, 2 * k, lines[k]);
        }
        for (int k = 0; k < lines.length; k++) {
            due("line " + 2 * k, x.scheme(2 * k), due[k]);
            due("no line " + (2 * k + 1), x.scheme(2 * k + 1), NONE);
        }
        x.drop(0);
        int[] then = {NONE, 0, 1, 0, 2, 1};
        for (int k = 0; k < lines.length; k++) {
            due("without the first " + 2 * k, x.scheme(2 * k), then[k]);
        }
    }

    // ---- place()

    // "Place i of the POEM FORM (one that is there, or the next one)"; "1 .. 12 places"
    static void places0To11(MetreDesk x) {
        due("count", x.count(6), 0);
        for (int i = 0; i < 12; i++) {
            due("behind the next one", x.place(i + 1, 0, 0, NONE, false), RANGE);
            due("below 0", x.place(-1, 0, 0, NONE, false), RANGE);
            due("the next one", x.place(i, 0, 0, NONE, false), i + 1);
            due("one that is there", x.place(i, 1, 1, NONE, false), i + 1);
            due("the first", x.place(0, 1, 1, NONE, false), i + 1);
        }
        for (int i : new int[] {12, 13, HUGE, TINY, -1}) {
            due("place " + i, x.place(i, 0, 0, NONE, false), RANGE);
        }
        due("count", x.count(6), 12);
    }

    // "a LINE FORM": 0 .. 7, of positions or not yet
    static void placesOfForms0To7(MetreDesk x) {
        for (int f : new int[] {-1, 8, HUGE, TINY}) {
            due("form " + f, x.place(0, f, 0, NONE, false), RANGE);
        }
        due("form 0", x.place(0, 0, 0, NONE, false), 1);
        due("form 7", x.place(1, 7, 0, NONE, false), 2);
    }

    // "a letter (NONE, 0 .. 5)"
    static void placesOfLetters0To5(MetreDesk x) {
        for (int letter : new int[] {-2, 6, HUGE, TINY}) {
            due("letter " + letter, x.place(0, 0, letter, NONE, false), RANGE);
        }
        due("count", x.count(6), 0);
        for (int letter = -1; letter < 6; letter++) {
            due("letter " + letter, x.place(letter + 1, 0, letter, NONE, false), letter + 2);
        }
    }

    // "AGAIN (NONE, or a place below i)"
    static void againOfPlacesBelow(MetreDesk x) {
        due("of itself", x.place(0, 0, 0, 0, false), RANGE);
        due("below NONE", x.place(0, 0, 0, -2, false), RANGE);
        due("none", x.place(0, 0, 0, NONE, false), 1);
        for (int i = 1; i < 12; i++) {
            due("of itself " + i, x.place(i, 0, 0, i, false), RANGE);
            due("of the next one " + i, x.place(i, 0, 0, i + 1, false), RANGE);
            due("below NONE", x.place(i, 0, 0, -2, false), RANGE);
            due("far", x.place(i, 0, 0, HUGE, false), RANGE);
            due("far", x.place(i, 0, 0, TINY, false), RANGE);
            due("of the one ahead " + i, x.place(i, 0, 0, i - 1, false), i + 1);
            due("of the first " + i, x.place(i, 0, 0, 0, false), i + 1);
        }
        due("of one that is there, but not below", x.place(3, 0, 0, 4, false), RANGE);
        due("of itself", x.place(3, 0, 0, 3, false), RANGE);
        due("below", x.place(3, 0, 0, 2, false), 12);
    }

    // "it may be left out (at most 6 such)"; "RANGE (also the seventh that may be)"
    static void sixMayBeLeftOut(MetreDesk x) {
        places(x, 6, 0, 0, true);
        due("the seventh", x.place(6, 0, 0, NONE, true), RANGE);
        due("count", x.count(6), 6);
        due("one that may not", x.place(6, 0, 0, NONE, false), 7);
        due("then it may", x.place(6, 0, 0, NONE, true), RANGE);
        due("one of the six anew", x.place(5, 1, 1, 3, true), 7);
        due("one of the six no more", x.place(2, 0, 0, NONE, false), 7);
        due("then another", x.place(6, 0, 0, NONE, true), 7);
        due("and no more", x.place(2, 0, 0, NONE, true), RANGE);
        due("and no more", x.place(7, 0, 0, NONE, true), RANGE);
    }

    // "RANGE": a refused place leaves all as it was
    static void aRefusedPlaceLeavesAll(MetreDesk x) {
        tellForms(x, 5);
        Check.keep(x, 0, "a");
        Check.keep(x, 1, "a");
        places(x, 6, 1, NONE, true);
        judgedIs(x, 0, 10, 15, NONE, NONE, NONE, NONE, 0, 1);
        due("the seventh", x.place(6, 1, NONE, NONE, true), RANGE);
        due("form", x.place(5, 8, NONE, NONE, true), RANGE);
        due("letter", x.place(5, 0, 6, NONE, false), RANGE);
        due("again", x.place(5, 0, 0, 5, false), RANGE);
        due("place", x.place(7, 0, 0, NONE, false), RANGE);
        due("count", x.count(6), 6);
        judgedIs(x, 0, 10, 15, NONE, NONE, NONE, NONE, 0, 1);
    }

    // "RANGE": a refused seventh leaves a place as it was, in its other parts too
    static void aRefusedSeventhLeavesThePlace(MetreDesk x) {
        tellForms(x, 5);
        Check.keep(x, 0, "a");
        x.place(0, 0, NONE, NONE, false);
        for (int i = 1; i < 7; i++) {
            x.place(i, 0, NONE, NONE, true);
        }
        judgedIs(x, 0, 0, 126, 0);
        due("the seventh", x.place(0, 1, 3, NONE, true), RANGE);
        judgedIs(x, 0, 0, 126, 0);
    }

    // ---- judge(), judged()

    // "NONE without places"
    static void judgeWithoutPlaces(MetreDesk x) {
        due("judge", x.judge(), NONE);
        Check.keep(x, 0, "a");
        due("with a line", x.judge(), NONE);
        for (int what : new int[] {0, 1, 2, 10, 21}) {
            due("judged " + what, x.judged(what), NONE);
        }
    }

    // "NONE ahead of any, or for another what"
    static void judgedOfAnotherWhat(MetreDesk x) {
        tellForms(x, 0);
        places(x, 12, 0, NONE, false);
        for (int what = -1; what < 23; what++) {
            due("ahead of any " + what, x.judged(what), NONE);
        }
        for (int k = 0; k < 12; k++) {
            Check.keep(x, k, "a");
        }
        judgedIs(x, 0, 0, 0, 0, 1, 2, 3, 4, 5, 6, 7, 8, 9, 10, 11);
        for (int what : new int[] {-1, 3, 9, 22, 23, HUGE, TINY, TINY + 10}) {
            due("what " + what, x.judged(what), NONE);
        }
    }

    // "Of the latest judge()": it stays, whatever comes
    static void theLatestJudgeStays(MetreDesk x) {
        tellForms(x, 5);
        Check.keep(x, 3, "a");
        x.place(0, 1, NONE, NONE, false);
        judgedIs(x, 0, 5, 0, 3);
        x.drop(3);
        x.licence(2, -1);
        x.place(0, 0, 0, NONE, true);
        x.place(1, 0, 0, NONE, false);
        due("faults", x.judged(0), 0);
        due("price", x.judged(1), 5);
        due("line", x.judged(10), 3);
        due("line", x.judged(11), NONE);
        judgedIs(x, 1, 0, 1, NONE, NONE);
    }

    // "each place without a line, each line without a place": 12 of each
    static void placesWithoutLinesAndLinesWithoutPlaces(MetreDesk x) {
        tellForms(x, 0);
        x.place(0, 0, NONE, NONE, false);
        judgedIs(x, 1, 0, 0);
        for (int k = 0; k < 12; k++) {
            Check.keep(x, k, "a");
        }
        judgedIs(x, 11, 0, 0, 0);
        for (int i = 1; i < 12; i++) {
            x.place(i, 0, NONE, NONE, false);
        }
        judgedIs(x, 0, 0, 0, 0, 1, 2, 3, 4, 5, 6, 7, 8, 9, 10, 11);
        for (int k = 0; k < 12; k++) {
            x.drop(k);
        }
        judgedIs(x, 12, 0, 0);
    }

    // "the lines that there are are laid on the others in order"
    static void linesAreLaidInOrder(MetreDesk x) {
        tellForms(x, 0);
        Check.keep(x, 11, "a");
        Check.keep(x, 2, "e");
        Check.keep(x, 7, "i");
        places(x, 4, 0, NONE, false);
        judgedIs(x, 1, 0, 0, 2, 7, 11, NONE);
        x.place(1, 0, NONE, NONE, true);
        judgedIs(x, 0, 0, 2, 2, NONE, 7, 11);
    }

    // "a line without a READING in its place's LINE FORM": also of a form that there is none
    static void aLineWithoutAReading(MetreDesk x) {
        tellForms(x, -1);
        Check.keep(x, 0, "a");
        x.place(0, 1, NONE, NONE, false);
        judgedIs(x, 1, 0, 0, 0);
        x.place(0, 7, NONE, NONE, false);
        judgedIs(x, 1, 0, 0, 0);
        x.form(7, 0, 1);
        judgedIs(x, 0, 0, 0, 0);
    }

    // "Price: the sum of the cheapest READINGS": of lines on places, that have one
    static void thePriceOfAPoem(MetreDesk x) {
        tellForms(x, 50);
        for (int k = 0; k < 12; k++) {
            Check.keep(x, k, k == 3 ? "ab ab" : "a");
        }
        places(x, 11, 1, NONE, false);
        judgedIs(x, 2, 500, 0, 0, 1, 2, 3, 4, 5, 6, 7, 8, 9, 10);
        x.foot(2, 0, 3, 0, 0);
        x.form(1, 0, 6);
        judgedIs(x, 2, 0, 0, 0, 1, 2, 3, 4, 5, 6, 7, 8, 9, 10);
    }

    // "a line whose letter an earlier line has, but the first of these isn't of one FULL rhyme with it"
    static void lettersAskForTheFirst(MetreDesk x) {
        tellForms(x, 0);
        String[] lines = {"bat", "bit", "cat", "rit", "bot", "nat"};
        for (int k = 0; k < 6; k++) {
            Check.keep(x, k, lines[k]);
        }
        places(x, 6, 0, 5, false);
        judgedIs(x, 3, 0, 0, 0, 1, 2, 3, 4, 5);
        x.place(0, 0, NONE, NONE, false);
        judgedIs(x, 3, 0, 0, 0, 1, 2, 3, 4, 5);
        x.place(1, 0, 0, NONE, false);
        x.place(3, 0, 0, NONE, false);
        judgedIs(x, 1, 0, 0, 0, 1, 2, 3, 4, 5);
        x.place(4, 0, 4, NONE, false);
        judgedIs(x, 0, 0, 0, 0, 1, 2, 3, 4, 5);
    }

    // "a line whose letter": of places without a letter none; no fault of a HALF rhyme less than of none
    static void placesWithoutALetter(MetreDesk x) {
        tellForms(x, 0);
        Check.keep(x, 0, "bat");
        Check.keep(x, 1, "bit");
        places(x, 2, 0, NONE, false);
        judgedIs(x, 0, 0, 0, 0, 1);
        x.place(0, 0, 0, NONE, false);
        x.place(1, 0, 0, NONE, false);
        judgedIs(x, 1, 0, 0, 0, 1);
        Check.keep(x, 1, "bas");
        judgedIs(x, 1, 0, 0, 0, 1);
        Check.keep(x, 1, "rat");
        judgedIs(x, 0, 0, 0, 0, 1);
    }

    // "an earlier line has": one that lies on a place, not one that is left out
    static void lettersOfPlacesLeftOut(MetreDesk x) {
        tellForms(x, 0);
        x.foot(2, 0, 33, 0, 0);
        x.form(2, 0, 4);
        Check.keep(x, 0, "bat");
        Check.keep(x, 1, "do rit");
        x.place(0, 2, 1, NONE, true);
        x.place(1, 0, 1, NONE, false);
        x.place(2, 2, 1, NONE, false);
        judgedIs(x, 1, 0, 1, NONE, 0, 1);
        Check.keep(x, 1, "do rat");
        judgedIs(x, 0, 0, 1, NONE, 0, 1);
    }

    // "AGAIN: the line of that place isn't letter for letter the same, or there is none"
    static void againIsTheSameLine(MetreDesk x) {
        x.foot(0, 0, 33, 0, 0);
        x.form(0, 0, 1);
        x.place(0, 0, NONE, NONE, false);
        x.place(1, 0, NONE, 0, false);
        String[] seconds = {"ab ob", " ab  ob ", "a bob", "abob", "ab oc", "ac ob", "abb ob", "a ob"};
        int[] due = {0, 0, 1, 1, 1, 1, 1, 1};
        Check.keep(x, 0, "ab ob");
        for (int i = 0; i < seconds.length; i++) {
            Check.keep(x, 1, seconds[i]);
            due("again " + seconds[i], x.judge(), due[i]);
        }
    }

    // "or there is none": that place is left out
    static void againOfAPlaceLeftOut(MetreDesk x) {
        tellForms(x, -1);
        x.place(0, 1, NONE, NONE, true);
        x.place(1, 0, NONE, 0, false);
        Check.keep(x, 0, "a");
        judgedIs(x, 1, 0, 1, NONE, 0);
        x.place(2, 0, NONE, 1, false);
        Check.keep(x, 1, "a");
        judgedIs(x, 1, 0, 1, NONE, 0, 1);
        Check.keep(x, 2, "a");
        judgedIs(x, 1, 0, 0, 0, 1, 2);
    }

    // "AGAIN" of a place without a line: one fault, that it has none
    static void againWithoutALine(MetreDesk x) {
        tellForms(x, 0);
        x.place(0, 0, NONE, NONE, false);
        x.place(1, 0, NONE, 0, false);
        judgedIs(x, 2, 0, 0);
        Check.keep(x, 0, "a");
        judgedIs(x, 1, 0, 0, 0, NONE);
    }

    // faults of one line are counted each
    static void severalFaultsOfALine(MetreDesk x) {
        tellForms(x, -1);
        Check.keep(x, 0, "ab");
        Check.keep(x, 1, "a");
        x.place(0, 0, 2, NONE, false);
        x.place(1, 1, 2, 0, false);
        judgedIs(x, 3, 0, 0, 0, 1);
    }

    // "some of those that may be are left out": none, some, all six of them
    static void sixPlacesLeftOut(MetreDesk x) {
        tellForms(x, 0);
        places(x, 6, 0, NONE, true);
        judgedIs(x, 0, 0, 63);
        Check.keep(x, 0, "a");
        judgedIs(x, 0, 0, 31, NONE, NONE, NONE, NONE, NONE, 0);
        for (int k = 1; k < 6; k++) {
            Check.keep(x, k, "a");
        }
        judgedIs(x, 0, 0, 0, 0, 1, 2, 3, 4, 5);
        Check.keep(x, 6, "a");
        judgedIs(x, 1, 0, 0, 0, 1, 2, 3, 4, 5);
    }

    // "(bit i: place i)": the last six of twelve
    static void theLastSixLeftOut(MetreDesk x) {
        tellForms(x, 0);
        places(x, 6, 0, NONE, false);
        for (int i = 6; i < 12; i++) {
            x.place(i, 0, NONE, NONE, true);
        }
        for (int k = 0; k < 6; k++) {
            Check.keep(x, k, "a");
        }
        judgedIs(x, 0, 0, 4032, 0, 1, 2, 3, 4, 5);
        Check.keep(x, 11, "a");
        judgedIs(x, 0, 0, 1984, 0, 1, 2, 3, 4, 5, NONE, NONE, NONE, NONE, NONE, 11);
    }

    // "laid on the others in order": on a place behind two that are left out amid
    static void placesLeftOutAmid(MetreDesk x) {
        tellForms(x, -1);
        x.foot(2, 0, 33, 0, 0);
        x.form(2, 0, 4);
        x.place(0, 0, NONE, NONE, false);
        x.place(1, 1, NONE, NONE, true);
        x.place(2, 1, NONE, NONE, true);
        x.place(3, 2, NONE, NONE, false);
        Check.keep(x, 0, "a");
        Check.keep(x, 1, "a a");
        judgedIs(x, 0, 0, 6, 0, NONE, NONE, 1);
    }

    // "its place's LINE FORM": each place has its own, 0 to 7
    static void eachPlaceHasItsForm(MetreDesk x) {
        String[] lines = {"ab", "a", "ab ab", "ab a", "a ab", "a a", "ab ab ab", "ab ab a"};
        int[] rows = {1, 2, 11, 12, 21, 22, 111, 112};
        for (int f = 0; f < 8; f++) {
            x.foot(f, 0, rows[f], 0, 0);
            x.form(f, 0, 1 << f);
            Check.keep(x, f, lines[f]);
            x.place(f, f, NONE, NONE, false);
        }
        judgedIs(x, 0, 0, 0, 0, 1, 2, 3, 4, 5, 6, 7);
        x.place(7, 6, NONE, NONE, false);
        judgedIs(x, 1, 0, 0, 0, 1, 2, 3, 4, 5, 6, 7);
    }

    // "those that may be": no other place is
    static void placesThatMayNotBeLeftOut(MetreDesk x) {
        tellForms(x, 0);
        x.place(0, 0, NONE, NONE, false);
        x.place(1, 0, NONE, NONE, true);
        x.place(2, 0, NONE, NONE, false);
        judgedIs(x, 2, 0, 2);
        x.place(1, 0, NONE, NONE, false);
        judgedIs(x, 3, 0, 0);
    }

    // "Fewest faults": ahead of a lesser price
    static void fewestFaultsFirst(MetreDesk x) {
        tellForms(x, 9);
        x.place(0, 1, NONE, NONE, false);
        x.place(1, 0, NONE, NONE, true);
        Check.keep(x, 0, "a");
        Check.keep(x, 1, "a");
        judgedIs(x, 0, 9, 0, 0, 1);
        x.place(0, 1, NONE, NONE, true);
        judgedIs(x, 0, 9, 0, 0, 1);
        x.drop(1);
        judgedIs(x, 0, 0, 1, NONE, 0);
    }

    // "then the least price": ahead of a lesser set
    static void thenTheLeastPrice(MetreDesk x) {
        tellForms(x, 9);
        x.place(0, 0, NONE, NONE, true);
        x.place(1, 1, NONE, NONE, true);
        Check.keep(x, 0, "a");
        judgedIs(x, 0, 0, 2, 0, NONE);
        x.place(0, 1, NONE, NONE, true);
        x.place(1, 0, NONE, NONE, true);
        judgedIs(x, 0, 0, 1, NONE, 0);
    }

    // "then the set left out that is least (bit i: place i)"
    static void thenTheLeastSet(MetreDesk x) {
        tellForms(x, 9);
        places(x, 3, 1, NONE, true);
        Check.keep(x, 0, "a");
        judgedIs(x, 0, 9, 3, NONE, NONE, 0);
        Check.keep(x, 1, "a");
        judgedIs(x, 0, 18, 1, NONE, 0, 1);
        x.place(0, 1, NONE, NONE, false);
        judgedIs(x, 0, 18, 2, 0, NONE, 1);
    }

    // the least price among sets of one and of more places, with licences that have their prices
    static void aDearerSetOfFewerFaults(MetreDesk x) {
        tellForms(x, 9);
        x.place(0, 1, 0, NONE, true);
        x.place(1, 0, 0, NONE, true);
        x.place(2, 1, 0, NONE, false);
        Check.keep(x, 4, "a");
        Check.keep(x, 5, "ta");
        judgedIs(x, 0, 9, 1, NONE, 4, 5);
        Check.keep(x, 5, "te");
        judgedIs(x, 1, 9, 1, NONE, 4, 5);
    }
}
