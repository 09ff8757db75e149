/**
 * Words that fit a gap, learnt prices, counts (promises 30 to 33, 1): each sentence of the document that
 * names a boundary case has a test here, with the sentence above it.
 */
public final class BoundariesOfGaps {
    private static final int NONE = Check.NONE;
    private static final int RANGE = Check.RANGE;
    private static final int HUGE = Check.HUGE;
    private static final int TINY = Check.TINY;

    private BoundariesOfGaps() {
    }

    public static void main(String[] args) throws IllegalAccessException {
        Check.runAll(BoundariesOfGaps.class);
    }

    private static void due(String what, int got, int due) {
        Check.due(what, got, due);
    }

    /** Foot 0 alone makes form 0, in as many positions. */
    private static void formOf(MetreDesk x, int positions, int sort, int row, int a, int b) {
        x.foot(0, sort, row, a, b);
        for (int i = 0; i < positions; i++) {
            x.form(0, i, 1);
        }
    }

    private static String found(MetreDesk x, int n) {
        StringBuilder all = new StringBuilder();
        for (int i = 0; i < n; i++) {
            for (int j = 0; j < x.fit(i, 1); j++) {
                all.append((char) x.fit(i, 10 + j));
            }
            all.append(x.fit(i, 0)).append(' ');
        }
        return all.toString();
    }

    private static void fitting(MetreDesk x, int w, int price, int due, String words) {
        due("fits " + w + " " + price, x.fits(0, w, price), due);
        Check.same("words for " + w, found(x, due), words);
        due("one more", x.fit(due, 0), NONE);
    }

    // ---- fits(), fit()

    // "RANGE: as scan()": without THE LINE, without such a form
    static void fitsWithoutLineOrForm(MetreDesk x) {
        Check.word(x, "bo+");
        formOf(x, 1, 0, 1, 0, 0);
        due("no line", x.fits(0, 0, 50), RANGE);
        Check.line(x, "ab");
        for (int f : new int[] {-1, 1, 7, 8, HUGE, TINY}) {
            due("form " + f, x.fits(f, 0, 50), RANGE);
        }
        due("there are", x.fits(0, 0, 50), 1);
    }

    // "or no such word"
    static void fitsOfNoSuchWord(MetreDesk x) {
        Check.word(x, "bo+");
        formOf(x, 1, 0, 333, 0, 0);
        Check.line(x, "ab a ab");
        for (int w : new int[] {-1, 3, 4, 11, 12, HUGE, TINY}) {
            due("word " + w, x.fits(0, w, 50), RANGE);
        }
        for (int w = 0; w < 3; w++) {
            due("word " + w, x.fits(0, w, 50), 1);
        }
        Check.line(x, "aba");
        due("a second of one", x.fits(0, 1, 50), RANGE);
        x.form(1, 0, 1);
        Check.line(x, "a a a a a a a a a a a a");
        due("the 12th", x.fits(0, 11, 50), 0);
        due("the 13th", x.fits(0, 12, 50), RANGE);
    }

    // "RANGE": a refused call leaves those that were found, and all else
    static void refusedFitsLeaveAll(MetreDesk x) {
        Check.furnish(x);
        String before = Check.state(x);
        due("form", x.fits(5, 0, 50), RANGE);
        due("form", x.fits(8, 0, 50), RANGE);
        due("form", x.fits(-1, 0, 50), RANGE);
        due("word", x.fits(0, -1, 50), RANGE);
        due("word", x.fits(0, 4, 50), RANGE);
        Check.same("state", Check.state(x), before);
    }

    // "at no more than a price": just it, one less, below 0, the least and the greatest int
    static void fitsAtNoMoreThanAPrice(MetreDesk x) {
        formOf(x, 1, 0, 1, 0, 0);
        x.licence(2, 50);
        Check.word(x, "ho+");
        Check.word(x, "li-");
        Check.line(x, "o");
        fitting(x, 0, 49, 1, "ho1 ");
        fitting(x, 0, 50, 2, "ho1 li1 ");
        fitting(x, 0, 0, 1, "ho1 ");
        fitting(x, 0, -1, 0, "");
        fitting(x, 0, HUGE, 2, "ho1 li1 ");
        fitting(x, 0, TINY, 0, "");
        x.licence(2, -1);
        fitting(x, 0, HUGE, 1, "ho1 ");
    }

    // "so that it has a READING": the whole line's price, the others' licences in it
    static void fitsByTheWholeLinesPrice(MetreDesk x) {
        formOf(x, 1, 0, 11, 0, 0);
        x.licence(2, 10);
        Check.word(x, "ho+");
        Check.word(x, "li-");
        Check.line(x, "ab a");
        fitting(x, 0, 9, 0, "");
        fitting(x, 0, 10, 1, "ho1 ");
        fitting(x, 0, 20, 2, "ho1 li1 ");
        fitting(x, 1, 0, 1, "ho1 ");
    }

    // "How many words of THE BOOK": none are there
    static void fitsOfAnEmptyBook(MetreDesk x) {
        formOf(x, 1, 0, 3, 0, 0);
        Check.line(x, "ab");
        fitting(x, 0, 50, 0, "");
        Check.word(x, "ba+");
        fitting(x, 0, 50, 1, "ba1 ");
        Check.unword(x, "ba");
        fitting(x, 0, 50, 0, "");
    }

    // "How many words of THE BOOK": all forty, "by letters"
    static void fitsOfFortyWords(MetreDesk x) {
        formOf(x, 1, 0, 3, 0, 0);
        String consonants = "zbydxfwg";
        for (int i = 0; i < 40; i++) {
            Check.word(x, "" + consonants.charAt(i % 8) + "uoiea".charAt(i / 8) + "+");
        }
        Check.line(x, "ab");
        due("all", x.fits(0, 0, 0), 40);
        String all = "";
        for (char c : "bdfgwxyz".toCharArray()) {
            for (char v : "aeiou".toCharArray()) {
                all += "" + c + v + "1 ";
            }
        }
        Check.same("by letters", found(x, 40), all);
        due("a 41st", x.fit(40, 0), NONE);
        due("the 40th", x.fit(39, 0), 1);
    }

    // "The i-th of these, by letters": a word ahead of one that goes on behind it
    static void foundWordsByLetters(MetreDesk x) {
        formOf(x, 1, 0, 3, 0, 0);
        for (String word : new String[] {"bob+", "bo+", "b-", "a+", "zo+", "ab+", "bobb+", "boa+"}) {
            Check.word(x, word);
        }
        Check.line(x, "e");
        fitting(x, 0, 0, 6, "a1 ab1 bo1 bob1 bobb1 zo1 ");
    }

    // "(a line of more than 40 SYLLABLES has none)"
    static void fitsOf40And41Syllables(MetreDesk x) {
        x.foot(0, 4, 3, 0, 3);
        for (int i = 0; i < 8; i++) {
            x.form(0, i, 1);
        }
        Check.word(x, "a*".repeat(16));
        Check.word(x, "e*".repeat(8));
        Check.word(x, "i*".repeat(7));
        Check.word(x, "o*".repeat(9));
        Check.line(x, "a".repeat(16) + " i " + "a".repeat(16));
        x.licence(2, 0);
        fitting(x, 1, 0, 2, "eeeeeeee8 iiiiiii7 ");
        due("the line stays", x.count(4), 33);
    }

    // "may stand in place of word w": the first, one amid, the last; longer and shorter ones
    static void fitsOfTheFirstAndTheLast(MetreDesk x) {
        formOf(x, 1, 0, 121, 0, 0);
        Check.word(x, "ho+");
        Check.word(x, "li-");
        Check.word(x, "ho+li-");
        Check.word(x, "li-ho+");
        Check.word(x, "ho+li-ho+");
        Check.line(x, "ab a ob");
        fitting(x, 0, 0, 1, "ho1 ");
        fitting(x, 1, 0, 1, "li1 ");
        fitting(x, 2, 0, 1, "ho1 ");
        Check.line(x, "e ob");
        fitting(x, 0, 0, 1, "holi2 ");
        Check.line(x, "ob e");
        fitting(x, 1, 0, 1, "liho2 ");
        Check.line(x, "ebebebebeb");
        fitting(x, 0, 0, 1, "holiho3 ");
    }

    // "in place of word w": a word that LOST is asked of, ahead and behind
    static void fitsWithLostOnes(MetreDesk x) {
        formOf(x, 1, 0, 33, 0, 0);
        x.licence(0, 6);
        Check.word(x, "ob+");
        Check.word(x, "ho+");
        Check.word(x, "da-do-");
        Check.line(x, "aba e");
        fitting(x, 1, 6, 1, "ob1 ");
        fitting(x, 1, 5, 0, "");
        Check.line(x, "e ob");
        fitting(x, 0, 6, 3, "dado2 ho1 ob1 ");
        fitting(x, 0, 5, 2, "ho1 ob1 ");
    }

    // "NONE when there is none such": ahead of any fits(), below 0, behind the last
    static void fitOfNoneSuch(MetreDesk x) {
        Check.word(x, "ba+");
        for (int i : new int[] {0, -1, 1, HUGE, TINY}) {
            for (int what : new int[] {0, 1, 10}) {
                due("ahead of any", x.fit(i, what), NONE);
            }
        }
        formOf(x, 1, 0, 3, 0, 0);
        Check.line(x, "e");
        due("one", x.fits(0, 0, 0), 1);
        for (int i : new int[] {-1, 1, 40, HUGE, TINY}) {
            for (int what : new int[] {0, 1, 10}) {
                due("beside", x.fit(i, what), NONE);
            }
        }
    }

    // "the SYLLABLES' number, what 0; letters, 1; 10 and on: its letters"
    static void fitOfAnotherWhat(MetreDesk x) {
        formOf(x, 4, 4, 3, 0, 3);
        Check.word(x, "ba*" + "a*".repeat(14));
        Check.line(x, "e");
        due("one", x.fits(0, 0, 0), 1);
        due("syllables", x.fit(0, 0), 15);
        due("letters", x.fit(0, 1), 16);
        due("the first", x.fit(0, 10), 'b');
        due("the 16th", x.fit(0, 25), 'a');
        due("the 17th", x.fit(0, 26), NONE);
        for (int what : new int[] {-1, 2, 3, 9, 27, HUGE, TINY, TINY + 10}) {
            due("what " + what, x.fit(0, what), NONE);
        }
    }

    // "The i-th of these": they stay, whatever comes, until fits() finds others
    static void foundWordsStay(MetreDesk x) {
        formOf(x, 1, 0, 3, 0, 0);
        Check.word(x, "ba+");
        Check.word(x, "bob+");
        Check.line(x, "e");
        due("two", x.fits(0, 0, 0), 2);
        Check.unword(x, "ba");
        Check.word(x, "bab+");
        Check.line(x, "e e");
        due("refused", x.fits(0, 2, 0), RANGE);
        Check.same("still", found(x, 2), "ba1 bob1 ");
        due("none", x.fits(0, 0, 0), 0);
        due("then", x.fit(0, 0), NONE);
    }

    // ---- learn()

    // "RANGE: no such form"
    static void learnWithoutSuchAForm(MetreDesk x) {
        formOf(x, 1, 0, 3, 0, 0);
        Check.keep(x, 0, "ab");
        for (int f : new int[] {-1, 1, 7, 8, HUGE, TINY}) {
            due("form " + f, x.learn(f), RANGE);
        }
        due("form 0", x.learn(0), 1);
    }

    // "NONE: none has (nothing changes)": no line, none with a READING
    static void learnFromNone(MetreDesk x) {
        formOf(x, 1, 0, 11, 0, 0);
        for (int l = 0; l < 5; l++) {
            x.licence(l, l == 2 ? -1 : 7 * l);
        }
        Check.line(x, "ab ab");
        due("a line, no poem", x.learn(0), NONE);
        Check.keep(x, 0, "a a");
        Check.keep(x, 5, "ob a");
        due("none with a reading", x.learn(0), NONE);
        for (int l = 0; l < 5; l++) {
            due("nothing changes", x.count(10 + l), l == 2 ? -1 : 7 * l);
        }
    }

    // "RANGE", "NONE": refused calls leave all as it was
    static void refusedLearningLeavesAll(MetreDesk x) {
        Check.furnish(x);
        String before = Check.state(x);
        due("form", x.learn(5), RANGE);
        due("form", x.learn(8), RANGE);
        due("form", x.learn(-1), RANGE);
        x.form(6, 0, 1 << 9);
        due("none", x.learn(6), NONE);
        Check.same("state", Check.state(x), before);
    }

    // "each LICENCE that is let": one at -1 stays, one at 0 gets its price
    static void learnLeavesWhatIsNotLet(MetreDesk x) {
        formOf(x, 1, 0, 3, 0, 0);
        x.licence(1, 0);
        x.licence(3, 50);
        Check.keep(x, 0, "ab");
        due("learn", x.learn(0), 1);
        int[] due = {-1, 50, -1, 50, -1};
        for (int l = 0; l < 5; l++) {
            due("licence " + l, x.count(10 + l), due[l]);
        }
    }

    // "but not below 1": all STEPS use it, and all but one of 49, of 50
    static void learnNotBelow1(MetreDesk x) {
        x.foot(0, 0, 1111, 0, 0);
        for (int i = 0; i < 8; i++) {
            x.form(0, i, 1);
        }
        x.form(1, 0, 1);
        x.licence(2, 9);
        Check.keep(x, 0, "aeio");
        due("learn", x.learn(1), 1);
        due("4 of 4", x.count(12), 1);
        Check.word(x, "u+");
        Check.keep(x, 0, "aeio aeio aeio aeio aeio aeio aeio aei u");
        due("learn", x.learn(0), 1);
        due("31 of 32", x.count(12), 50 - 48);
        Check.keep(x, 1, "aeio aeio aeio aeio aeio aeio aeio aeio");
        due("learn", x.learn(0), 2);
        due("63 of 64", x.count(12), 50 - 49);
        x.drop(0);
        due("learn", x.learn(0), 1);
        due("32 of 32", x.count(12), 1);
    }

    // "50 less the whole part of 50 times (u / s)": none of many, the least part that counts
    static void learnTheWholePart(MetreDesk x) {
        x.foot(0, 0, 1111, 0, 0);
        x.foot(1, 0, 1, 0, 0);
        x.form(0, 0, 3);
        x.licence(2, 9);
        Check.keep(x, 0, "ab");
        due("learn", x.learn(0), 1);
        due("0 of 1", x.count(12), 50);
        x.foot(1, 0, 11, 0, 0);
        Check.keep(x, 0, "ab a");
        due("learn", x.learn(0), 1);
        due("1 of 2", x.count(12), 25);
        x.foot(1, 0, 111, 0, 0);
        Check.keep(x, 0, "ab a ab");
        due("learn", x.learn(0), 1);
        due("1 of 3: 16.6", x.count(12), 34);
        Check.keep(x, 0, "ab a a");
        due("learn", x.learn(0), 1);
        due("2 of 3: 33.3", x.count(12), 17);
    }

    // "as reals of 32 bits": 29 of 50 are 29 whole, of 64 bits they would be 28
    static void learnByRealsOf32Bits(MetreDesk x) {
        x.foot(0, 0, 1111, 0, 0);
        x.foot(1, 0, 1, 0, 0);
        for (int i = 0; i < 7; i++) {
            x.form(0, i, i < 6 ? 1 : 2);
        }
        x.licence(2, 9);
        Check.word(x, "e+".repeat(16));
        Check.word(x, "i+".repeat(5));
        Check.keep(x, 0, "a".repeat(16) + " " + "a".repeat(9));
        Check.keep(x, 1, "e".repeat(16) + " iiiii aaaa");
        due("learn", x.learn(0), 2);
        due("29 of 50", x.count(12), 50 - 29);
    }

    // "of the cheapest READINGS (the first ones)"
    static void learnFromTheFirstOfTheCheapest(MetreDesk x) {
        x.foot(0, 0, 2, 0, 0);
        x.foot(1, 0, 1, 0, 0);
        x.form(0, 0, 3);
        x.licence(2, 0);
        Check.keep(x, 0, "a");
        due("learn", x.learn(0), 1);
        due("as it is, for nothing too", x.count(12), 50);
        x.foot(0, 0, 11, 0, 0);
        x.foot(1, 0, 1, 0, 0);
        x.licence(1, 4);
        x.licence(2, 2);
        Check.keep(x, 0, "ia");
        due("learn", x.learn(0), 1);
        due("two struck for 4: the lesser way is the first", x.count(12), 1);
        due("melted none", x.count(11), 50);
    }

    // "(the first ones)": as it is ahead of LOST, for the same price
    static void learnFromTheFirstWithoutALostOne(MetreDesk x) {
        formOf(x, 1, 4, 1, 1, 2);
        x.licence(0, 0);
        Check.keep(x, 0, "obba a");
        due("two ways", x.scan(0), 2);
        due("learn", x.learn(0), 1);
        due("lost none", x.count(10), 50);
    }

    // "by a LINE FORM": by the one that is asked for
    static void learnAndFitByEachForm(MetreDesk x) {
        x.foot(0, 0, 12, 0, 0);
        x.foot(1, 0, 11, 0, 0);
        x.form(0, 0, 1);
        x.form(5, 0, 2);
        x.licence(2, 9);
        Check.word(x, "ho+");
        Check.word(x, "li-");
        Check.keep(x, 0, "ab a");
        due("fits by 0", x.fits(0, 1, 0), 1);
        due("li", x.fit(0, 10), 'l');
        due("fits by 5", x.fits(5, 1, 0), 1);
        due("ho", x.fit(0, 10), 'h');
        due("learn by 0", x.learn(0), 1);
        due("struck none", x.count(12), 50);
        due("learn by 5", x.learn(5), 1);
        due("struck one of two", x.count(12), 25);
        due("learn by 0", x.learn(0), 1);
        due("struck none", x.count(12), 50);
    }

    // "how many lines have a READING": STEPS of the others are not counted; twelve of them
    static void learnFromTwelveLines(MetreDesk x) {
        formOf(x, 1, 0, 12, 0, 0);
        x.licence(2, 5);
        for (int k = 0; k < 12; k++) {
            Check.keep(x, k, k == 4 ? "a a" : k == 7 ? "a ab" : "ab a");
        }
        due("eleven", x.learn(0), 11);
        due("1 of 22", x.count(12), 50 - 2);
        Check.keep(x, 7, "ab a");
        due("twelve", x.learn(0), 12);
        due("1 of 24", x.count(12), 50 - 2);
    }

    // "u STEPS use a LICENCE and s are all": each of the five by its own steps
    static void learnEachLicence(MetreDesk x) {
        formOf(x, 1, 0, 2111, 0, 0);
        for (int l = 0; l < 5; l++) {
            x.licence(l, 1);
        }
        String[] lines = {"ab a mia obba e", "e a a a", "e a a a", "e ob ob obbe e", "e mia mia ob", "e ob ob ob e",
            "e ob ob ob e"};
        for (int k = 0; k < lines.length; k++) {
            Check.keep(x, k, lines[k]);
        }
        due("learn", x.learn(0), 7);
        int[] uses = {2, 3, 7, 1, 4};
        for (int l = 0; l < 5; l++) {
            due("licence " + l + ", " + uses[l] + " of 34", x.count(10 + l), 50 - 50 * uses[l] / 34);
        }
    }

    // ---- count()

    // "NONE for others"
    static void countOfOthers(MetreDesk x) {
        for (int what : new int[] {-1, 9, 15, 16, HUGE, TINY, TINY + 10}) {
            due("count " + what, x.count(what), NONE);
        }
        x.licence(4, 0);
        due("the last licence", x.count(14), 0);
        due("one behind", x.count(15), NONE);
    }

    // "3: words of THE LINE (NONE without), 4: its SYLLABLES (NONE)"
    static void countWithoutALine(MetreDesk x) {
        due("words", x.count(3), NONE);
        due("syllables", x.count(4), NONE);
        Check.line(x, "b");
        due("words", x.count(3), NONE);
        due("syllables", x.count(4), NONE);
        Check.line(x, "aba");
        due("words", x.count(3), 1);
        due("syllables", x.count(4), 2);
        Check.line(x, "");
        due("words", x.count(3), 1);
    }

    // each at its most: "26", "12", "40", "12", "40", "12", "12", "40", "240", "50"
    static void countsAtTheirMost(MetreDesk x) {
        for (int i = 0; i < 12; i++) {
            x.pair(25, i, 2);
        }
        for (int i = 0; i < 40; i++) {
            Check.word(x, "" + "bcdfghjk".charAt(i / 5) + "aeiou".charAt(i % 5) + "+");
        }
        for (int i = 0; i < 26; i++) {
            x.vowel(i, true);
        }
        due("line", Check.line(x, "aeioaeioaeioaeio aeioaeioaeioae a a a a a a a a a a"), 40);
        for (int i = 0; i < 12; i++) {
            x.keep(i);
            x.place(i, 0, NONE, NONE, false);
        }
        for (int i = 0; i < 40; i++) {
            x.tell(0, 0, 0, 0, 0, 0);
            x.feed(0, 0, 0, 0, 0);
        }
        for (int l = 0; l < 5; l++) {
            x.licence(l, 50);
        }
        int[] due = {26, 12, 40, 12, 40, 12, 12, 40, 240, NONE, 50, 50, 50, 50, 50, NONE};
        for (int what = 0; what < due.length; what++) {
            due("count " + what, x.count(what), due[what]);
        }
    }

    // "A new object: As at first": another object has nothing of the first one
    static void aNewObjectIsAsAtFirst(MetreDesk x) {
        Check.furnish(x);
        x.judge();
        MetreDesk other = new MetreDesk();
        int[] due = {5, 0, 0, NONE, NONE, 0, 0, 0, 0, NONE, NONE, NONE, NONE, NONE, NONE, NONE};
        for (int what = 0; what < due.length; what++) {
            due("count " + what, other.count(what), due[what]);
        }
        due("fault", other.fault(0), 0);
        due("judge", other.judge(), NONE);
        due("judged", other.judged(0), NONE);
        due("reading", other.reading(0, 0), NONE);
        due("fit", other.fit(0, 0), NONE);
        Check.line(other, "ab");
        for (int f = 0; f < 8; f++) {
            due("scan " + f, other.scan(f), RANGE);
            due("cut " + f, other.cut(f, 0), 0);
        }
        due("form", other.form(0, 0, 4095), 1);
        due("no foot", other.near(0), NONE);
        due("what the first one has", x.count(0), 6);
    }
}
