/**
 * The tape, vowels, pairs, the book, rules, the line (promises 1 to 7, 12 to 14): each sentence of the
 * document that names a boundary case has a test here, with the sentence above it.
 */
public final class BoundariesOfSounds {
    private static final int NONE = Check.NONE;
    private static final int RANGE = Check.RANGE;
    private static final int FULL = Check.FULL;
    private static final int HUGE = Check.HUGE;
    private static final int TINY = Check.TINY;
    private static final int[] NO_LETTER = {-1, 26, HUGE, TINY, 97, -26};
    private static final String LETTERS = "abcdefghijklmnopqrstuvwxyz";

    private BoundariesOfSounds() {
    }

    public static void main(String[] args) throws IllegalAccessException {
        Check.runAll(BoundariesOfSounds.class);
    }

    private static void due(String what, int got, int due) {
        Check.due(what, got, due);
    }

    private static void parted(MetreDesk x, String text, String due) {
        due("syllables of " + text, Check.line(x, text), due.replaceAll("[a-z ]", "").length());
        Check.same("parting of " + text, Check.parted(x), due);
    }

    private static void faulty(MetreDesk x, String text, int sort, int place) {
        due("line " + text, Check.line(x, text), NONE);
        due("fault of " + text, x.fault(0), sort);
        due("place in " + text, x.fault(1), place);
    }

    private static int feedNothing(MetreDesk x) {
        return x.feed(0, 0, 0, 0, 0);
    }

    /** Forty words of one syllable each: ba be bi bo bu ca .. */
    private static String fortieth(int i) {
        return "" + "bcdfghjk".charAt(i / 5) + "aeiou".charAt(i % 5);
    }

    private static void fillBook(MetreDesk x, int words) {
        for (int i = 0; i < words; i++) {
            due("word " + i, Check.word(x, fortieth(i) + "+"), 1);
        }
    }

    // ---- THE TAPE

    // "THE TAPE has at most 240 bytes"; "FULL when there would be more than 240"
    static void theTapeTakes240Bytes(MetreDesk x) {
        for (int n = 20; n <= 240; n += 20) {
            due("feed", feedNothing(x), n);
        }
        due("count", x.count(8), 240);
        due("241st to 260th", feedNothing(x), FULL);
    }

    // "FULL when there would be more than 240": at 221 as well, at 220 not
    static void theTapeIsFullFrom221On(MetreDesk x) {
        for (int n = 20; n <= 240; n += 20) {
            feedNothing(x);
        }
        x.end(221);
        due("221 and 20", feedNothing(x), FULL);
        due("they stay 221", x.count(8), 221);
        x.end(220);
        due("220 and 20", feedNothing(x), 240);
    }

    // "FULL": none of the twenty comes, those that were there stay
    static void aFullTapeStays(MetreDesk x) {
        Check.tape(x, "a".repeat(8) + " ".repeat(212) + "ba bat" + " ".repeat(14));
        due("feed", x.feed(0x7a7a7a7a, 0x7a7a7a7a, 0x7a7a7a7a, 0x7a7a7a7a, 0x7a7a7a7a), FULL);
        due("count", x.count(8), 240);
        due("line", x.line(), 10);
        Check.same("it", Check.parted(x), "a-".repeat(8) + " ba- bat+");
    }

    // "THE TAPE has at most 240 bytes": the 240th is read
    static void the240thByteIsRead(MetreDesk x) {
        faulty(x, "a".repeat(8) + " ".repeat(231) + "#", 1, 239);
        due("without it", Check.line(x, "a".repeat(8) + " ".repeat(231) + "a"), 9);
    }

    // "Twenty bytes come behind THE TAPE, the highest of each int first"
    static void bytesComeHighestFirst(MetreDesk x) {
        due("feed", x.feed(0x61626364, 0x65666768, 0x20696a6b, 0x6c6d6e6f, 0x70712072), 20);
        x.end(18);
        x.line();
        Check.same("they", Check.parted(x), "abc+defgh+ ijklm+nopq+");
    }

    // "the highest of each int first": an int below 0 has a high byte of 128 .. 255
    static void bytesOfIntsBelowZero(MetreDesk x) {
        x.feed(-1, -1, -1, -1, -1);
        due("255", x.line(), NONE);
        due("sort", x.fault(0), 1);
        x.feed(0x61610080, 0, 0, 0, 0);
        x.end(4);
        due("0 and 128", x.line(), NONE);
        due("place", x.fault(1), 2);
        x.feed(0x61e16161, 0, 0, 0, 0);
        x.end(4);
        due("225, that is 97 with the highest bit", x.line(), NONE);
        due("place", x.fault(1), 1);
    }

    // "Twenty bytes come behind THE TAPE": behind what end() left
    static void bytesComeBehindTheEnd(MetreDesk x) {
        Check.tape(x, "bat");
        x.end(2);
        due("feed", x.feed(0x20726f20, 0x20202020, 0x20202020, 0x20202020, 0x20202061), 22);
        due("line", x.line(), 3);
        Check.same("it", Check.parted(x), "ba- ro- a-");
    }

    // "THE TAPE has its first n bytes alone: n"
    static void endOfAllAndOfNone(MetreDesk x) {
        due("none of none", x.end(0), 0);
        feedNothing(x);
        due("all", x.end(20), 20);
        due("count", x.count(8), 20);
        due("none", x.end(0), 0);
        due("count", x.count(8), 0);
        due("the twenty don't come back", x.end(20), NONE);
    }

    // "NONE when it has not so many, or n is below 0"
    static void endOfTooManyOrBelowZero(MetreDesk x) {
        due("one of none", x.end(1), NONE);
        due("below 0 of none", x.end(-1), NONE);
        feedNothing(x);
        x.end(7);
        for (int n : new int[] {8, 20, 240, 241, HUGE, -1, -7, TINY}) {
            due("end " + n, x.end(n), NONE);
            due("the tape stays", x.count(8), 7);
        }
        due("end 6", x.end(6), 6);
        due("7 has gone", x.end(7), NONE);
    }

    // "each call that is told so reads it, and empties it": when it answers a number
    static void aReadTapeIsEmpty(MetreDesk x) {
        due("word", Check.word(x, "ro+"), 1);
        due("behind word", x.count(8), 0);
        due("line", Check.line(x, "ro"), 1);
        due("behind line", x.count(8), 0);
        due("unword", Check.unword(x, "ro"), 0);
        due("behind unword", x.count(8), 0);
    }

    // "reads it, and empties it": when it answers NONE or FULL as well
    static void aTapeReadInVainIsEmpty(MetreDesk x) {
        due("word", Check.word(x, "ro"), NONE);
        due("behind word", x.count(8), 0);
        due("line", Check.line(x, "#"), NONE);
        due("behind line", x.count(8), 0);
        due("unword", Check.unword(x, "ro"), NONE);
        due("behind unword", x.count(8), 0);
        fillBook(x, 40);
        due("full", Check.word(x, "zo+"), FULL);
        due("behind a full one", x.count(8), 0);
    }

    // "each call that is told so": no other call reads the tape
    static void otherCallsLeaveTheTape(MetreDesk x) {
        Check.furnish(x);
        x.end(0);
        feedNothing(x);
        x.vowel(0, true);
        x.pair(1, 1, 0);
        x.foot(9, 0, 1, 0, 0);
        x.form(7, 0, 1);
        x.cut(7, 1);
        x.licence(1, 1);
        x.scan(0);
        x.best(0);
        x.lay(0);
        x.near(0);
        x.tell(0, 0, 0, 0, 0, 0);
        x.check(0);
        x.keep(5);
        x.drop(5);
        x.rhyme(0, 1);
        x.scheme(0);
        x.place(0, 0, 0, -1, false);
        x.judge();
        x.fits(0, 0, 9);
        x.learn(0);
        due("count", x.count(8), 20);
    }

    // "word", "unword", "line" with nothing on THE TAPE
    static void anEmptyTapeIsRead(MetreDesk x) {
        due("word", x.word(), NONE);
        due("unword", x.unword(), NONE);
        due("line", x.line(), NONE);
        due("fault", x.fault(0), 5);
        due("place", x.fault(1), 0);
    }

    // "NONE", "FULL": a refused feed or end leaves all as it was
    static void aRefusedFeedOrEndLeavesAll(MetreDesk x) {
        Check.furnish(x);
        Check.tape(x, "a".repeat(230));
        String before = Check.state(x);
        due("feed", feedNothing(x), FULL);
        due("end 231", x.end(231), NONE);
        due("end -1", x.end(-1), NONE);
        Check.same("state", Check.state(x), before);
    }

    // ---- VOWELS

    // "VOWELS: a, e, i, o, u at first"
    static void fiveVowelsAtFirst(MetreDesk x) {
        due("count", x.count(0), 5);
        for (int i = 0; i < 26; i++) {
            String letter = LETTERS.substring(i, i + 1);
            due("line " + letter, Check.line(x, letter), "aeiou".contains(letter) ? 1 : NONE);
        }
    }

    // "A letter (0 .. 25)"; "RANGE"
    static void vowelsOfLetters0To25(MetreDesk x) {
        for (int letter : NO_LETTER) {
            due("on " + letter, x.vowel(letter, true), RANGE);
            due("off " + letter, x.vowel(letter, false), RANGE);
        }
        due("they stay", x.count(0), 5);
        due("0 off", x.vowel(0, false), 4);
        due("25 on", x.vowel(25, true), 5);
        parted(x, "zaz", "z-az-");
    }

    // "RANGE": refused vowels and pairs leave all as it was
    static void aRefusedVowelOrPairLeavesAll(MetreDesk x) {
        Check.furnish(x);
        String before = Check.state(x);
        due("vowel", x.vowel(-1, true), RANGE);
        due("vowel", x.vowel(26, false), RANGE);
        due("pair", x.pair(26, 4, 1), RANGE);
        due("pair", x.pair(0, -1, 1), RANGE);
        due("pair", x.pair(0, 4, 3), RANGE);
        due("pair", x.pair(0, 4, -1), RANGE);
        Check.same("state", Check.state(x), before);
        parted(x, "yae", "y-ae+");
    }

    // "is a VOWEL, or not: how many there are": told once more it is no other
    static void aVowelToldTwice(MetreDesk x) {
        due("y", x.vowel(24, true), 6);
        due("y again", x.vowel(24, true), 6);
        due("y off", x.vowel(24, false), 5);
        due("y off again", x.vowel(24, false), 5);
        due("u, that is one", x.vowel(20, true), 5);
    }

    // "how many there are": none of them, and all 26
    static void noVowelAndAllVowels(MetreDesk x) {
        for (int i = 0; i < 26; i++) {
            x.vowel(i, false);
        }
        due("none", x.count(0), 0);
        faulty(x, "aeiou", 3, 0);
        for (int i = 0; i < 26; i++) {
            due("letter " + i, x.vowel(i, true), i + 1);
        }
        due("all", x.count(0), 26);
        parted(x, "xyz", "x-y-z-");
    }

    // ---- PAIRS

    // "PAIRS, at most 12, none at first"
    static void noPairAtFirst(MetreDesk x) {
        due("count", x.count(1), 0);
        due("one that goes", x.pair(0, 4, 0), 0);
        parted(x, "aa", "a-a-");
    }

    // "PAIRS, at most 12": the 12th and the 13th; "FULL"
    static void twelvePairs(MetreDesk x) {
        for (int i = 0; i < 12; i++) {
            due("pair " + i, x.pair(1, i, 1 + i % 2), i + 1);
        }
        due("the 13th, a vowel", x.pair(2, 0, 1), FULL);
        due("the 13th, none", x.pair(2, 0, 2), FULL);
        due("count", x.count(1), 12);
        parted(x, "ca", "ca-");
    }

    // "FULL": not for one of the twelve that is told anew, nor for one that goes
    static void twelvePairsToldAnew(MetreDesk x) {
        for (int i = 0; i < 12; i++) {
            x.pair(1, i, 2);
        }
        due("one of them", x.pair(1, 0, 1), 12);
        parted(x, "ba", "ba+");
        due("another one that goes", x.pair(2, 0, 0), 12);
        due("one goes", x.pair(1, 11, 0), 11);
        due("it goes again", x.pair(1, 11, 0), 11);
        due("room for one", x.pair(2, 0, 1), 12);
        due("for one alone", x.pair(2, 1, 1), FULL);
    }

    // "RANGE": letters 0 .. 25, sorts 0 .. 2
    static void pairsOfLetters0To25(MetreDesk x) {
        for (int letter : NO_LETTER) {
            for (int sort = 0; sort < 3; sort++) {
                due("first " + letter, x.pair(letter, 0, sort), RANGE);
                due("second " + letter, x.pair(0, letter, sort), RANGE);
            }
        }
        for (int sort : new int[] {-1, 3, HUGE, TINY}) {
            due("sort " + sort, x.pair(0, 0, sort), RANGE);
        }
        due("none came", x.count(1), 0);
        due("0, 25", x.pair(0, 25, 1), 1);
        due("25, 0", x.pair(25, 0, 1), 2);
        due("25, 25", x.pair(25, 25, 2), 3);
        due("0, 0", x.pair(0, 0, 2), 4);
    }

    // "RANGE; FULL": a wrong number is RANGE among twelve as well
    static void wrongPairsAmongTwelve(MetreDesk x) {
        for (int i = 0; i < 12; i++) {
            x.pair(1, i, 2);
        }
        due("letter", x.pair(26, 0, 1), RANGE);
        due("letter", x.pair(0, -1, 1), RANGE);
        due("sort", x.pair(2, 0, 3), RANGE);
    }

    // "two letters that are one SOUND": in this order
    static void aPairHasAnOrder(MetreDesk x) {
        x.pair(0, 4, 1);
        parted(x, "ae", "ae+");
        parted(x, "ea", "e-a-");
    }

    // "from the left on its SOUNDS are a PAIR, if the two letters there are one, else a letter"
    static void pairsFromTheLeftOn(MetreDesk x) {
        x.pair(0, 0, 1);
        parted(x, "a", "a-");
        parted(x, "aa", "aa+");
        parted(x, "aaa", "aa+a-");
        parted(x, "aaaa", "aa+aa+");
        parted(x, "aaaaa", "aa+aa+a-");
        parted(x, "a aa a", "a- aa+ a-");
        x.pair(0, 4, 1);
        parted(x, "aae", "aa+e-");
    }

    // "a vowel or not": of a PAIR its own sort is asked, not its letters
    static void aPairIsAVowelByItsSort(MetreDesk x) {
        x.pair(0, 4, 2);
        faulty(x, "ae", 3, 0);
        x.pair(1, 2, 1);
        parted(x, "bc", "bc+");
        x.pair(0, 4, 0);
        parted(x, "ae", "a-e-");
        x.pair(1, 2, 0);
        faulty(x, "bc", 3, 0);
    }

    // ---- THE BOOK

    // "A word has 1 .. 16 letters": a word of THE BOOK; "NONE .. more than 16 letters"
    static void bookWordsOf1And16And17Letters(MetreDesk x) {
        due("1", Check.word(x, "a+"), 1);
        due("16", Check.word(x, "bbbbbbba+bbbbbbba-"), 2);
        due("17", Check.word(x, "bbbbbbbba+bbbbbbba-"), NONE);
        due("17 in one", Check.word(x, "bbbbbbbbbbbbbbbba+"), NONE);
        due("16 in one", Check.word(x, "bbbbbbbbbbbbbbba*"), 1);
        due("none", Check.word(x, "+"), NONE);
        due("words", x.count(2), 3);
    }

    // "SYLLABLES": a word of the book has up to 16 of them; a 17th has a 17th letter
    static void bookWordsOf16And17Syllables(MetreDesk x) {
        due("16", Check.word(x, "a-e+".repeat(8)), 16);
        due("17", Check.word(x, "a-e+".repeat(8) + "i*"), NONE);
        due("line", Check.line(x, "ae".repeat(8)), 16);
        Check.same("parting", Check.parted(x), "a-e+".repeat(8));
        due("120 of 240 bytes", Check.word(x, "a-".repeat(120)), NONE);
    }

    // "each with + (HEAVY), - (LIGHT) or * (BOTH) behind": no other sign
    static void marksOfBookWords(MetreDesk x) {
        due("three", Check.word(x, "a+e-i*"), 3);
        Check.line(x, "aei");
        int[] marks = {1, 2, 3};
        for (int i = 0; i < 3; i++) {
            due("mark " + i, x.syllable(i, 1), marks[i]);
        }
        for (char sign : ",.)/ 1`{AZ\u0000\u00ff\u00ab".toCharArray()) {
            due("behind it " + (int) sign, Check.word(x, "o" + sign), NONE);
            due("in it " + (int) sign, Check.word(x, "o" + sign + "+"), NONE);
        }
        due("words", x.count(2), 1);
    }

    // "with + .. behind": the last one too, and nothing behind its mark
    static void eachSyllableHasItsMark(MetreDesk x) {
        due("without", Check.word(x, "ro"), NONE);
        due("the last without", Check.word(x, "ro+ma"), NONE);
        due("a blank behind", Check.word(x, "ro+ "), NONE);
        due("a blank ahead", Check.word(x, " ro+"), NONE);
        due("ahead of it", Check.word(x, "+ro"), NONE);
        due("words", x.count(2), 0);
    }

    // "NONE: .. a SYLLABLE without letters"
    static void aSyllableWithoutLetters(MetreDesk x) {
        for (String text : new String[] {"+", "-", "*", "a++", "+a+", "a+-e+", "a+e+*"}) {
            due(text, Check.word(x, text), NONE);
        }
        due("words", x.count(2), 0);
    }

    // "or with not just one vowel SOUND"
    static void notJustOneVowelSound(MetreDesk x) {
        due("none", Check.word(x, "b+"), NONE);
        due("two", Check.word(x, "ao+"), NONE);
        due("two apart", Check.word(x, "abo+"), NONE);
        due("none in the second", Check.word(x, "ro+m-"), NONE);
        due("two in the second", Check.word(x, "ro+mae-"), NONE);
        due("one each", Check.word(x, "rom+ab-"), 2);
        x.pair(0, 4, 1);
        due("a pair is one", Check.word(x, "mae-"), 1);
        due("a pair and one", Check.word(x, "maee-"), NONE);
        x.pair(0, 4, 2);
        due("a pair that is none", Check.word(x, "mae-"), NONE);
        due("and one", Check.word(x, "maeo-"), 1);
    }

    // "(by its own letters)": a PAIR goes not through two SYLLABLES
    static void vowelSoundsByOwnLetters(MetreDesk x) {
        x.pair(0, 4, 1);
        x.pair(0, 1, 2);
        due("a pair parted", Check.word(x, "a+e-"), 2);
        due("a pair that is no vowel, parted", Check.word(x, "a+ba*"), 2);
        due("not parted", Check.word(x, "ab+a*"), NONE);
    }

    // "THE BOOK has at most 40 words"; "FULL"
    static void theBookHas40Words(MetreDesk x) {
        fillBook(x, 40);
        due("count", x.count(2), 40);
        due("the 41st", Check.word(x, "zo+"), FULL);
        due("count", x.count(2), 40);
        Check.line(x, "zo ba ku");
        due("the 41st is not there", x.syllable(0, 3), 0);
        due("the first is", x.syllable(1, 3), 1);
        due("the 40th is", x.syllable(2, 3), 1);
    }

    // "The same word is told anew": among 40 as well
    static void aWordToldAnewAmong40(MetreDesk x) {
        fillBook(x, 40);
        due("the first", Check.word(x, "ba-"), 1);
        due("the last", Check.word(x, "ku*"), 1);
        due("count", x.count(2), 40);
        parted(x, "ba be ku", "ba- be+ ku*");
    }

    // "The same word": the same letters, whatever its SYLLABLES
    static void aWordToldAnewInOtherSyllables(MetreDesk x) {
        due("two", Check.word(x, "bo+ne-"), 2);
        due("two others", Check.word(x, "bon*e+"), 2);
        due("count", x.count(2), 1);
        parted(x, "bone", "bon*e+");
        x.vowel(4, false);
        due("one", Check.word(x, "bone-"), 1);
        due("count", x.count(2), 1);
        parted(x, "bone", "bone-");
    }

    // "NONE": ahead of FULL
    static void notSoAmong40(MetreDesk x) {
        fillBook(x, 40);
        due("no vowel", Check.word(x, "z+"), NONE);
        due("17 letters", Check.word(x, "bbbbbbbbbbbbbbbba+"), NONE);
        due("no mark", Check.word(x, "zo"), NONE);
        due("nothing", Check.word(x, ""), NONE);
    }

    // "NONE", "FULL": a refused word leaves THE BOOK as it was
    static void aRefusedWordLeavesTheBook(MetreDesk x) {
        fillBook(x, 40);
        due("the same letters, not so", Check.word(x, "ba"), NONE);
        due("a mark too much", Check.word(x, "ba--"), NONE);
        due("full", Check.word(x, "bac-"), FULL);
        x.vowel(0, false);
        due("without its vowel now", Check.word(x, "ba-"), NONE);
        due("count", x.count(2), 40);
        Check.line(x, "ba");
        Check.same("it stays", Check.parted(x), "ba+");
    }

    // "NONE": a refused word, unword or line leaves all but THE TAPE and the FAULT as it was
    static void aRefusedTextLeavesAll(MetreDesk x) {
        Check.furnish(x);
        x.end(0);
        String before = Check.state(x);
        due("word", Check.word(x, "bo"), NONE);
        due("word", Check.word(x, "bobo+"), NONE);
        due("unword", Check.unword(x, "ba"), NONE);
        due("line", Check.line(x, "a #"), NONE);
        Check.same("state", Check.state(x), before);
    }

    // "how many words it has": 39 when one of 40 goes, and one may come
    static void oneOf40Goes(MetreDesk x) {
        fillBook(x, 40);
        due("the first goes", Check.unword(x, "ba"), 39);
        due("the last goes", Check.unword(x, "ku"), 38);
        due("one amid goes", Check.unword(x, "fa"), 37);
        due("others come", Check.word(x, "ab+a+"), 2);
        due("others come", Check.word(x, "zo+"), 1);
        due("others come", Check.word(x, "fab+"), 1);
        due("no more", Check.word(x, "fa+"), FULL);
        Check.line(x, "ba be ku ko fa fe aba zo fab");
        String book = "";
        for (int w = 0, i = 0; x.syllable(i, 0) != NONE; i++) {
            if (x.syllable(i, 0) == w) {
                book += x.syllable(i, 3);
                w++;
            }
        }
        Check.same("those of the book", book, "010101111");
    }

    // "NONE: it isn't there"
    static void aWordThatIsNotThere(MetreDesk x) {
        due("of none", Check.unword(x, "roma"), NONE);
        Check.word(x, "ro+ma-");
        String[] others = {"", "rom", "romaa", "rona", "ro+ma-", "roma ", " roma", "ROMA", "r", "ro\u00edma",
            "bbbbbbbbbbbbbbbba", "a".repeat(240)};
        for (String text : others) {
            due("unword " + text, Check.unword(x, text), NONE);
        }
        due("count", x.count(2), 1);
        due("it goes", Check.unword(x, "roma"), 0);
        due("once", Check.unword(x, "roma"), NONE);
        parted(x, "roma", "ro-ma-");
    }

    // "A word that is not in it is parted by RULES": also one that begins as one of THE BOOK, or is longer
    static void aWordNearOneOfTheBook(MetreDesk x) {
        Check.word(x, "ro+ma+");
        parted(x, "rom roma romaa oma", "rom+ ro+ma+ ro-ma-a- o-ma-");
    }

    // ---- RULES

    // "those ahead of the first, behind the last belong to these"
    static void soundsAheadOfTheFirstAndBehindTheLast(MetreDesk x) {
        parted(x, "a", "a-");
        parted(x, "ba", "ba-");
        parted(x, "ab", "ab+");
        parted(x, "bcda", "bcda-");
        parted(x, "abcd", "abcd+");
        parted(x, "bcdaxyz", "bcdaxyz+");
    }

    // "of the other SOUNDS between two of these the last one begins the next SYLLABLE": 0, 1, 2, 3 of them
    static void soundsBetweenTwoVowels(MetreDesk x) {
        parted(x, "ae", "a-e-");
        parted(x, "abe", "a-be-");
        parted(x, "abce", "ab+ce-");
        parted(x, "abcde", "abc+de-");
        parted(x, "aebicdo", "a-e-bic+do-");
    }

    // "SOUNDS": a PAIR is one of them
    static void pairsBetweenTwoVowels(MetreDesk x) {
        x.pair(1, 2, 2);
        parted(x, "abce", "a-bce-");
        parted(x, "abcde", "abc+de-");
        parted(x, "adbce", "ad+bce-");
        parted(x, "abcbce", "abc+bce-");
        parted(x, "abc", "abc+");
        parted(x, "bca", "bca-");
    }

    // "It is HEAVY if its vowel is a PAIR, or it ends with a SOUND that is no vowel; else LIGHT"
    static void heavyByRules(MetreDesk x) {
        x.pair(0, 4, 1);
        parted(x, "ae", "ae+");
        parted(x, "bae", "bae+");
        parted(x, "aeb", "aeb+");
        parted(x, "aebo", "ae+bo-");
        parted(x, "boae", "bo-ae+");
        parted(x, "aebb", "aebb+");
        x.pair(1, 2, 1);
        parted(x, "bca", "bc+a-");
        parted(x, "abc", "a-bc+");
    }

    // "each vowel SOUND is the middle of a SYLLABLE": 16 of them in a word
    static void aWordOf16Vowels(MetreDesk x) {
        parted(x, "aeioaeioaeioaeio", "a-e-i-o-".repeat(4));
    }

    // ---- THE LINE

    // "A word has 1 .. 16 letters": a word of the line; "2 a word of more than 16 letters (at its first byte)"
    static void lineWordsOf1And16And17Letters(MetreDesk x) {
        parted(x, "a", "a-");
        parted(x, "bbbbbbbbbbbbbbba", "bbbbbbbbbbbbbbba-");
        faulty(x, "bbbbbbbbbbbbbbbba", 2, 0);
        faulty(x, "a bbbbbbbbbbbbbbbba a", 2, 2);
        faulty(x, "bbbbbbbbbbbbbbba  abbbbbbbbbbbbbbbb", 2, 18);
        faulty(x, "a".repeat(240), 2, 0);
    }

    // "THE LINE has 1 .. 12 words"; "4 the 13th word (at its first byte)"
    static void lineOf12And13Words(MetreDesk x) {
        due("12", Check.line(x, "a ".repeat(12)), 12);
        due("words", x.count(3), 12);
        faulty(x, "a ".repeat(12) + "bat", 4, 24);
        faulty(x, "a  ".repeat(12) + "bat o o", 4, 36);
        due("the line stays", x.count(3), 12);
        due("its last", x.syllable(11, 0), 11);
        due("one of 1", Check.line(x, "bat"), 1);
        due("words", x.count(3), 1);
    }

    // "1 .. 12 words" of "1 .. 16 letters": the most letters that a line may have
    static void lineOf12WordsOf16Letters(MetreDesk x) {
        due("line", Check.line(x, "bbbbbbbbbbbbbbat ".repeat(12)), 12);
        due("words", x.count(3), 12);
        due("the last one's letters", x.syllable(11, 2), 16);
        due("the last letter", x.syllable(11, 25), 't');
        due("and three syllables each", Check.line(x, "obbbbbbabbbbabbb ".repeat(12)), 36);
        due("the last letter", x.syllable(35, 10 + x.syllable(35, 2) - 1), 'b');
    }

    // "40 SYLLABLES at most"; "4 .. the first by which there are more than 40 SYLLABLES (at its first byte)"
    static void lineOf40And41Syllables(MetreDesk x) {
        String half = "aeioaeioaeioaeio ";
        due("40", Check.line(x, half + half + "aeioaeio"), 40);
        due("count", x.count(4), 40);
        due("the 40th", x.syllable(39, 10), 'o');
        due("a 41st", x.syllable(40, 0), NONE);
        faulty(x, half + half + "aeioaeioa", 4, 34);
        faulty(x, half + half + "aeioaeio a", 4, 43);
        faulty(x, half + half + " baeioaeio o", 4, 45);
        faulty(x, half + half + half, 4, 34);
        due("the line stays", x.count(4), 40);
    }

    // "40 SYLLABLES at most": with words of THE BOOK
    static void lineOf40And41SyllablesByTheBook(MetreDesk x) {
        Check.word(x, "a+".repeat(16));
        Check.word(x, "e*e*e*e*e*e*e*e*");
        Check.word(x, "i-i-i-i-i-i-i-i-i-");
        String sixteen = "a".repeat(16) + " ";
        due("40", Check.line(x, sixteen + sixteen + "eeeeeeee"), 40);
        faulty(x, sixteen + sixteen + "iiiiiiiii", 4, 34);
        faulty(x, sixteen + sixteen + "eeeeeeee o", 4, 43);
        Check.unword(x, "iiiiiiiii");
        faulty(x, sixteen + sixteen + "iiiiiiiii", 4, 34);
    }

    // "words of letters, with blanks (32) between": more than one, ahead and behind as well
    static void blanksBetweenWords(MetreDesk x) {
        parted(x, " a", "a-");
        parted(x, "a ", "a-");
        parted(x, "  a   be  ", "a- be-");
        parted(x, " ".repeat(239) + "a", "a-");
        for (char sign : "\t\n\u0000\u00a0!\u001f".toCharArray()) {
            faulty(x, "a" + sign + "a", 1, 1);
        }
    }

    // "Letters are a .. z"; "1 a byte that is neither (at it)"
    static void lettersAreAToZ(MetreDesk x) {
        faulty(x, "`", 1, 0);
        faulty(x, "a`", 1, 1);
        faulty(x, "a {", 1, 2);
        faulty(x, "Ab", 1, 0);
        faulty(x, "aZ", 1, 1);
        faulty(x, "a\u00e1", 1, 1);
        faulty(x, "a\u00ff", 1, 1);
        parted(x, "az", "az+");
        parted(x, "za", "za-");
    }

    // "3 one without a vowel (likewise)"
    static void aWordWithoutAVowel(MetreDesk x) {
        faulty(x, "b", 3, 0);
        faulty(x, "a b", 3, 2);
        faulty(x, "  bcd a", 3, 2);
        faulty(x, "bbbbbbbbbbbbbbbb", 3, 0);
        x.pair(0, 4, 2);
        faulty(x, "o bae", 3, 2);
    }

    // "3": not a word of THE BOOK, that is parted by its own SYLLABLES
    static void aBookWordWithoutAVowelAnyMore(MetreDesk x) {
        Check.word(x, "ba*");
        x.vowel(0, false);
        due("line", Check.line(x, "ba"), 1);
        due("fault", x.fault(0), 0);
        faulty(x, "bba", 3, 0);
    }

    // "5 no word (the text's length)"
    static void noWord(MetreDesk x) {
        faulty(x, "", 5, 0);
        faulty(x, " ", 5, 1);
        faulty(x, " ".repeat(20), 5, 20);
        faulty(x, " ".repeat(240), 5, 240);
    }

    // "NONE with a FAULT (the line stays)"; "none at first"
    static void aFaultyLineLeavesTheLine(MetreDesk x) {
        faulty(x, "#", 1, 0);
        due("none at first", x.count(3), NONE);
        due("none at first", x.count(4), NONE);
        Check.line(x, "ab abe");
        String[] texts = {"o#", "bbbbbbbbbbbbbbbba", "o b", "a ".repeat(13), "", "o ".repeat(12) + "o"};
        for (String text : texts) {
            due("line " + text, Check.line(x, text), NONE);
            Check.same("the line", Check.parted(x), "ab+ a-be-");
            due("words", x.count(3), 2);
            due("syllables", x.count(4), 3);
        }
    }

    // of several FAULTS of a text the one whose place comes first from the left
    static void theFirstOfSeveralFaults(MetreDesk x) {
        faulty(x, "b #", 3, 0);
        faulty(x, "# b", 1, 0);
        faulty(x, "b#", 3, 0);
        faulty(x, "a# bbbbbbbbbbbbbbbba b", 1, 1);
        faulty(x, "bbbbbbbbbbbbbbbba b#", 2, 0);
        faulty(x, "a ".repeat(12) + "a #", 4, 24);
        faulty(x, "a ".repeat(12) + "# a", 1, 24);
        faulty(x, "b " + "a ".repeat(13), 3, 0);
        faulty(x, "bbbbbbbbbbbbbbbbb", 2, 0);
    }

    // ---- fault()

    // "0: its FAULT (0: without; ahead of any, too), 1: its place (NONE)"
    static void noFaultAheadOfAnyLine(MetreDesk x) {
        due("fault", x.fault(0), 0);
        due("place", x.fault(1), NONE);
        Check.word(x, "#");
        due("behind a word", x.fault(0), 0);
    }

    // "Of the latest line()": one that is well has none; no other call has a FAULT
    static void theFaultOfTheLatestLine(MetreDesk x) {
        faulty(x, "a #", 1, 2);
        Check.word(x, "b+");
        Check.unword(x, "b");
        due("behind other calls", x.fault(0), 1);
        due("its place", x.fault(1), 2);
        faulty(x, "b", 3, 0);
        Check.line(x, "a");
        due("without", x.fault(0), 0);
        due("its place", x.fault(1), NONE);
    }

    // "NONE for another what"
    static void faultOfAnotherWhat(MetreDesk x) {
        for (int what : new int[] {-1, 2, 3, HUGE, TINY}) {
            due("ahead of any", x.fault(what), NONE);
        }
        faulty(x, "#", 1, 0);
        for (int what : new int[] {-1, 2, 3, HUGE, TINY}) {
            due("what " + what, x.fault(what), NONE);
        }
    }

    // ---- syllable()

    // "NONE when there is none such": ahead of THE LINE
    static void syllablesAheadOfTheLine(MetreDesk x) {
        for (int i : new int[] {0, -1, 1, 40, HUGE, TINY}) {
            for (int what : new int[] {0, 1, 2, 3, 10, -1}) {
                due("syllable " + i + " " + what, x.syllable(i, what), NONE);
            }
        }
    }

    // "SYLLABLES .. numbered from 0 on"; "NONE when there is none such"
    static void syllablesNextToTheLine(MetreDesk x) {
        Check.line(x, "ab ae");
        for (int i : new int[] {-1, 3, 4, 40, HUGE, TINY}) {
            for (int what : new int[] {0, 1, 2, 3, 10}) {
                due("syllable " + i + " " + what, x.syllable(i, what), NONE);
            }
        }
        due("first", x.syllable(0, 10), 'a');
        due("last", x.syllable(2, 10), 'e');
        due("its word (from 0)", x.syllable(0, 0), 0);
        due("its word", x.syllable(2, 0), 1);
    }

    // "10 and on: its letters. NONE when there is none such"
    static void lettersOfSyllables(MetreDesk x) {
        Check.line(x, "abcde bcdefghijklmnpqr");
        due("how many", x.syllable(0, 2), 3);
        due("first", x.syllable(0, 10), 'a');
        due("last", x.syllable(0, 12), 'c');
        due("behind the last, though the next syllable has one", x.syllable(0, 13), NONE);
        due("one of the next", x.syllable(1, 10), 'd');
        due("a line of one word of 16", Check.line(x, "bcdefghjklmnpqrs"), 1);
        due("how many", x.syllable(0, 2), 16);
        due("the 16th", x.syllable(0, 25), 's');
        due("the 17th", x.syllable(0, 26), NONE);
        for (int what : new int[] {-1, 4, 9, HUGE, TINY, TINY + 9, TINY + 10}) {
            due("what " + what, x.syllable(0, what), NONE);
        }
    }

    // "3: 1 if its word is of THE BOOK, else 0"
    static void whetherOfTheBook(MetreDesk x) {
        Check.word(x, "a+");
        Check.word(x, "bo-a-");
        Check.line(x, "a boa bob");
        int[] due = {1, 1, 1, 0, NONE};
        for (int i = 0; i < due.length; i++) {
            due("syllable " + i, x.syllable(i, 3), due[i]);
        }
    }

    // "(It keeps its SYLLABLES, their marks and SOUNDS, as they were when it came)"
    static void theLineKeepsItsSyllables(MetreDesk x) {
        Check.word(x, "bo+a*");
        Check.line(x, "boa bat");
        Check.word(x, "bo-a-");
        x.vowel(0, false);
        x.pair(0, 19, 1);
        Check.unword(x, "boa");
        Check.same("the line", Check.parted(x), "bo+a* bat+");
        due("of the book, as it was", x.syllable(0, 3), 1);
        due("count", x.count(4), 3);
    }

    // "as they were when it came": its SOUNDS, that LOST asks for
    static void theLineKeepsItsSounds(MetreDesk x) {
        x.foot(0, 0, 33, 0, 0);
        x.form(0, 0, 1);
        x.licence(0, 1);
        Check.line(x, "aba ab");
        due("lost", x.scan(0), 1);
        x.vowel(0, false);
        x.pair(0, 1, 2);
        due("still", x.scan(0), 1);
        Check.line(x, "iba ibi ob");
        due("no vowel now", x.scan(0), 0);
    }
}
