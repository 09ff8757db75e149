/**
 * Readings counted, priced, laid out; near, told steps (promises 15 to 22, III): each sentence of the
 * document that names a boundary case has a test here, with the sentence above it.
 */
public final class BoundariesOfReadings {
    private static final int NONE = Check.NONE;
    private static final int RANGE = Check.RANGE;
    private static final int FULL = Check.FULL;
    private static final int HUGE = Check.HUGE;
    private static final int TINY = Check.TINY;
    private static final int[] NO_FORM = {-1, 8, HUGE, TINY, 1, 7};

    private BoundariesOfReadings() {
    }

    public static void main(String[] args) throws IllegalAccessException {
        Check.runAll(BoundariesOfReadings.class);
    }

    private static void due(String what, int got, int due) {
        Check.due(what, got, due);
    }

    /** Foot 0 alone makes form 0, in as many positions. */
    private static void formOf(MetreDesk x, int positions, int sort, int row, int a, int b) {
        x.foot(0, sort, row, a, b);
        for (int i = 0; i < positions; i++) {
            x.form(0, i, 1);
        }
    }

    private static void readings(MetreDesk x, String... due) {
        due("lay", x.lay(0), due.length);
        for (int r = 0; r < due.length; r++) {
            Check.same("reading " + r, Check.reading(x, r), due[r]);
        }
        due("one more", x.reading(due.length, 0), NONE);
    }

    private static int ask(MetreDesk x, int call, int f) {
        switch (call) {
            case 0:
                return x.scan(f);
            case 1:
                return x.best(f);
            case 2:
                return x.lay(f);
            case 3:
                return x.near(f);
            default:
                return x.check(f);
        }
    }

    // ---- RANGE of them all

    // "RANGE: no THE LINE, no such form": each of scan, best, lay, near, check
    static void withoutTheLine(MetreDesk x) {
        formOf(x, 1, 0, 1, 0, 0);
        for (int call = 0; call < 5; call++) {
            for (int f : new int[] {0, 1, -1, 8}) {
                due("call " + call + " of " + f, ask(x, call, f), RANGE);
            }
        }
        due("a faulty one", Check.line(x, "b"), NONE);
        for (int call = 0; call < 5; call++) {
            due("call " + call, ask(x, call, 0), RANGE);
        }
    }

    // "RANGE: .. no such form"
    static void withoutSuchAForm(MetreDesk x) {
        formOf(x, 1, 0, 1, 0, 0);
        Check.line(x, "ab");
        for (int call = 0; call < 5; call++) {
            for (int f : NO_FORM) {
                due("call " + call + " of " + f, ask(x, call, f), RANGE);
            }
        }
        x.form(7, 0, 1);
        for (int call = 0; call < 5; call++) {
            due("call " + call + " of 7", ask(x, call, 7), call == 0 || call == 2 ? 1 : 0);
        }
    }

    // "RANGE": a refused call leaves all as it was
    static void refusedCallsLeaveAll(MetreDesk x) {
        Check.furnish(x);
        String before = Check.state(x);
        for (int call = 0; call < 5; call++) {
            for (int f : NO_FORM) {
                if (f != 7) {
                    due("call " + call + " of " + f, ask(x, call, f), RANGE);
                }
            }
        }
        Check.same("state", Check.state(x), before);
    }

    // "by a LINE FORM": by the one that is asked for, whichever was asked for ahead
    static void eachFormByItself(MetreDesk x) {
        x.foot(0, 0, 12, 0, 0);
        x.foot(1, 1, 14, 0, 0);
        x.foot(2, 0, 1, 0, 0);
        x.form(0, 0, 1);
        x.form(3, 0, 2);
        x.form(7, 0, 4);
        x.form(7, 1, 4);
        x.cut(7, 1);
        x.licence(2, 4);
        Check.line(x, "ab a");
        int[] forms = {0, 3, 7, 3, 0};
        int[] prices = {0, 4, 4, 4, 0};
        String[] first = {"0: 000001 100012", "4: 000101 110111", "4: 000201 111201", "4: 000101 110111",
            "0: 000001 100012"};
        int[] near = {0, 1, 1, 1, 0};
        for (int i = 0; i < forms.length; i++) {
            due("scan " + forms[i], x.scan(forms[i]), 1);
            due("best " + forms[i], x.best(forms[i]), prices[i]);
            due("near " + forms[i], x.near(forms[i]), near[i]);
            due("lay " + forms[i], x.lay(forms[i]), 1);
            Check.same("reading by " + forms[i], Check.reading(x, 0), first[i]);
            x.tell(0, 0, 0, x.step(0, 0, 3), 0, 1);
            x.tell(1, i % 4 == 0 ? 0 : 1, forms[i] == 7 ? 1 : 0, x.step(0, 1, 3), forms[i] == 7 ? 0 : 1,
                i % 4 == 0 ? 2 : 1);
            due("check " + forms[i], x.check(forms[i]), NONE);
        }
        Check.line(x, "abba");
        due("the cut of 7", x.scan(7), 0);
        due("near by its cut", x.near(7), 3);
        due("none of 3", x.scan(3), 1);
    }

    // ---- scan(), best()

    // "How many READINGS": none, one
    static void noReadingAndOne(MetreDesk x) {
        formOf(x, 1, 0, 1, 0, 0);
        Check.line(x, "a");
        due("scan", x.scan(0), 0);
        due("best", x.best(0), NONE);
        due("lay", x.lay(0), 0);
        Check.line(x, "ab");
        due("scan", x.scan(0), 1);
        due("best", x.best(0), 0);
        due("lay", x.lay(0), 1);
    }

    /** Eight positions, 10 to the 6th times a times b choices of feet, and ten ways to part the line. */
    private static void manyReadings(MetreDesk x, int a, int b) {
        Check.word(x, "ho+");
        Check.word(x, "bo*");
        for (int k = 0; k < 12; k++) {
            x.foot(k, 4, 1, 0, 3);
        }
        x.form(0, 0, (1 << a) - 1);
        x.form(0, 1, (1 << b) - 1);
        for (int i = 2; i < 8; i++) {
            x.form(0, i, 1023);
        }
        Check.line(x, "ho ho ho ho ho bo bo bo bo bo");
    }

    // "(1000000000 of so many or more)": just so many
    static void justAThousandMillions(MetreDesk x) {
        manyReadings(x, 10, 10);
        due("10 to the 9th", x.scan(0), 1000000000);
    }

    // "of so many or more": fewer are told as they are
    static void lessThanAThousandMillions(MetreDesk x) {
        manyReadings(x, 11, 9);
        due("990 millions", x.scan(0), 990000000);
        due("lay", x.lay(0), FULL);
    }

    // "of so many or more": more
    static void moreThanAThousandMillions(MetreDesk x) {
        manyReadings(x, 11, 10);
        due("1100 millions", x.scan(0), 1000000000);
    }

    // "of so many or more": more than an int or a long can hold
    static void farMoreThanAThousandMillions(MetreDesk x) {
        for (int k = 0; k < 12; k++) {
            x.foot(k, 4, 3, 0, 3);
        }
        for (int i = 0; i < 8; i++) {
            x.form(0, i, 4095);
        }
        Check.word(x, "a*".repeat(16));
        Check.word(x, "e*".repeat(8));
        Check.line(x, "a".repeat(16) + " " + "a".repeat(16) + " " + "e".repeat(8));
        due("40 syllables", x.count(4), 40);
        due("scan", x.scan(0), 1000000000);
        due("best", x.best(0), 0);
        due("lay", x.lay(0), FULL);
        due("near", x.near(0), 0);
    }

    // "The price of the cheapest READING": a great one is told whole
    static void aGreatPrice(MetreDesk x) {
        formOf(x, 8, 0, 1111, 0, 0);
        x.licence(2, 50);
        x.licence(4, 50);
        Check.line(x, "a".repeat(16) + " " + "a".repeat(16));
        due("32 of 50", x.best(0), 1600);
        due("lay", x.lay(0), 1);
        due("its price", x.reading(0, 0), 1600);
        Check.line(x, "a".repeat(16) + " " + "a".repeat(16) + " o");
        due("33 of 50", x.best(0), 1650);
    }

    // "the cheapest": by the sum, not by how many
    static void theCheapestIsOfTheLeastSum(MetreDesk x) {
        x.foot(0, 0, 11, 0, 0);
        x.foot(1, 0, 1, 0, 0);
        x.form(0, 0, 3);
        x.licence(1, 11);
        x.licence(2, 5);
        Check.line(x, "ia");
        readings(x, "10: 010001 110011", "11: 030101");
        due("two of 5", x.best(0), 10);
        x.licence(1, 9);
        due("one of 9", x.best(0), 9);
        x.licence(1, 10);
        due("as much", x.best(0), 10);
        readings(x, "10: 010001 110011", "10: 030101");
    }

    // ---- lay(), reading(), step()

    /** Seven feet that part six syllables by ten ways, and one by seven, five that take one. */
    private static void readingsByFeet(MetreDesk x, int sixes, int ones) {
        for (int k = 0; k < 12; k++) {
            x.foot(k, k < 7 ? 4 : 0, 3, 0, k < 6 ? 3 : k == 6 ? 2 : 0);
        }
        Check.word(x, "ba*ba*ba*ba*ba*ba*");
        x.form(0, 0, sixes);
        x.form(0, 1, ones << 7);
        Check.line(x, "babababababa ab");
    }

    // "FULL when there are more than 200": 200 are laid out
    static void twoHundredReadings(MetreDesk x) {
        readingsByFeet(x, 31, 15);
        due("scan", x.scan(0), 200);
        due("lay", x.lay(0), 200);
        Check.same("the first", Check.reading(x, 0), "0: 000001 100002 200002 300002 400011 500021 601701");
        due("the last has 7 steps", x.reading(199, 1), 7);
        due("its last step's foot", x.step(199, 6, 3), 10);
        due("its first step's foot", x.step(199, 0, 3), 4);
        due("behind the last", x.reading(200, 1), NONE);
        due("behind the last", x.step(200, 0, 0), NONE);
    }

    // "FULL when there are more than 200 (none is then)": 201
    static void twoHundredAndOneReadings(MetreDesk x) {
        readingsByFeet(x, 31, 15);
        due("200", x.lay(0), 200);
        x.form(0, 0, 127);
        x.form(0, 1, 7 << 7);
        due("scan", x.scan(0), 201);
        due("lay", x.lay(0), FULL);
        for (int r : new int[] {0, 1, 199, 200}) {
            due("none is then", x.reading(r, 0), NONE);
            due("none is then", x.reading(r, 1), NONE);
            due("none is then", x.step(r, 0, 0), NONE);
        }
    }

    // "how many": none are laid out when there are none
    static void layingOutNone(MetreDesk x) {
        formOf(x, 1, 0, 1, 0, 0);
        Check.line(x, "ab");
        due("one", x.lay(0), 1);
        Check.line(x, "a");
        due("none", x.lay(0), 0);
        due("price", x.reading(0, 0), NONE);
        due("steps", x.reading(0, 1), NONE);
        due("step", x.step(0, 0, 0), NONE);
    }

    // "NONE when there is none such": ahead of any lay()
    static void readingsAheadOfAnyLay(MetreDesk x) {
        formOf(x, 1, 0, 1, 0, 0);
        Check.line(x, "ab");
        x.scan(0);
        x.best(0);
        x.check(0);
        for (int r : new int[] {0, -1, 1, HUGE, TINY}) {
            due("price", x.reading(r, 0), NONE);
            due("steps", x.reading(r, 1), NONE);
            due("step", x.step(r, 0, 0), NONE);
        }
    }

    // "Of READING r .. NONE when there is none such"
    static void readingsNextToTheLaidOnes(MetreDesk x) {
        formOf(x, 1, 1, 44, 0, 0);
        Check.word(x, "bo*");
        Check.line(x, "bo bo bo");
        readings(x, "0: 000001 100012 200012", "0: 000002 100002 200011");
        for (int r : new int[] {-1, 2, 3, 200, HUGE, TINY}) {
            due("price of " + r, x.reading(r, 0), NONE);
            due("steps of " + r, x.reading(r, 1), NONE);
            due("step of " + r, x.step(r, 0, 0), NONE);
        }
        for (int what : new int[] {-1, 2, 10, HUGE, TINY}) {
            due("what " + what, x.reading(0, what), NONE);
        }
    }

    // "Of STEP i of it .. NONE when there is none such"
    static void stepsNextToTheReading(MetreDesk x) {
        formOf(x, 1, 1, 44, 0, 0);
        Check.word(x, "bo*");
        Check.line(x, "bo bo bo");
        x.lay(0);
        for (int i : new int[] {-1, 3, 4, 40, HUGE, TINY}) {
            for (int r = 0; r < 2; r++) {
                for (int what = 0; what < 6; what++) {
                    due("step " + r + " " + i + " " + what, x.step(r, i, what), NONE);
                }
            }
        }
        for (int what : new int[] {-1, 6, 10, HUGE, TINY}) {
            due("what " + what, x.step(0, 0, what), NONE);
            due("what " + what, x.step(1, 2, what), NONE);
        }
    }

    // "READING r that was laid out latest": by another line, form, price it stays
    static void laidOutReadingsStay(MetreDesk x) {
        formOf(x, 1, 0, 1, 0, 0);
        x.licence(2, 5);
        Check.line(x, "a");
        readings(x, "5: 010001");
        x.licence(2, 9);
        x.foot(0, 0, 2, 0, 0);
        x.form(0, 0, 2);
        Check.line(x, "ab ab");
        x.scan(0);
        Check.line(x, "b");
        due("refused", x.lay(1), RANGE);
        Check.same("still", Check.reading(x, 0), "5: 010001");
        x.form(0, 0, 1);
        due("none", x.lay(0), 0);
        due("then", x.reading(0, 0), NONE);
    }

    // "how many STEPS": up to 40
    static void aReadingOf40Steps(MetreDesk x) {
        formOf(x, 8, 4, 2, 0, 3);
        Check.word(x, "a+a+a-a-a-");
        Check.line(x, "aaaaa ".repeat(8));
        due("syllables", x.count(4), 40);
        due("lay", x.lay(0), 1);
        due("steps", x.reading(0, 1), 40);
        int[] due = {39, 0, 7, 0, 1, 2};
        for (int what = 0; what < 6; what++) {
            due("the 40th's " + what, x.step(0, 39, what), due[what]);
        }
        due("a 41st", x.step(0, 40, 0), NONE);
    }

    // "Order of READINGS: by price (the sum)": ahead of all else
    static void orderByPrice(MetreDesk x) {
        x.foot(0, 0, 1, 0, 0);
        x.foot(1, 0, 2, 0, 0);
        x.form(0, 0, 3);
        x.licence(3, 1);
        Check.line(x, "ab");
        readings(x, "0: 000001", "1: 020102");
        x.foot(0, 0, 2, 0, 0);
        x.foot(1, 0, 1, 0, 0);
        readings(x, "0: 000101", "1: 020002");
    }

    // "Order of READINGS": where each is found behind one that it is ahead of
    static void orderOfFourFoundTheOtherWayRound(MetreDesk x) {
        int[] rows = {11, 13, 31, 33};
        for (int k = 0; k < 4; k++) {
            x.foot(k, 0, rows[k], 0, 0);
        }
        x.form(0, 0, 15);
        x.licence(2, 5);
        Check.line(x, "a a");
        readings(x, "0: 000302 100312", "5: 000202 110211", "5: 010101 100112", "10: 010001 110011");
    }

    // "then by the first STEPS that differ: the lesser way": ahead of a lesser foot
    static void orderByWay(MetreDesk x) {
        x.foot(0, 0, 1, 0, 0);
        x.foot(1, 0, 2, 0, 0);
        x.form(0, 0, 3);
        x.licence(2, 0);
        Check.line(x, "a");
        readings(x, "0: 000102", "0: 010001");
    }

    // "the lesser way": LOST (4) and EXTRA (5) behind the others, though they have no position
    static void orderOfLostAndExtra(MetreDesk x) {
        x.licence(0, 0);
        x.licence(2, 0);
        x.licence(4, 0);
        formOf(x, 1, 0, 33, 0, 0);
        Check.line(x, "aba a");
        readings(x, "0: 000002 100012 25....", "0: 000002 14.... 200012");
        formOf(x, 1, 0, 11, 0, 0);
        readings(x, "0: 010001 110011 25....", "0: 010001 14.... 210011");
        formOf(x, 1, 4, 1, 0, 1);
        Check.line(x, "ab a");
        readings(x, "0: 000001 100002", "0: 000001 15....");
    }

    // "position": ahead of a lesser foot
    static void orderByPosition(MetreDesk x) {
        x.foot(0, 4, 1, 0, 1);
        x.foot(5, 4, 1, 0, 1);
        x.form(0, 0, 32);
        x.form(0, 1, 1);
        Check.word(x, "bo*");
        Check.line(x, "bo bo bo");
        readings(x, "0: 000501 100502 201001", "0: 000501 101001 201002");
    }

    // "foot"
    static void orderByFoot(MetreDesk x) {
        x.foot(0, 0, 2, 0, 0);
        x.foot(1, 0, 1, 0, 0);
        x.foot(11, 0, 3, 0, 0);
        x.form(0, 0, 3 | 1 << 11);
        Check.word(x, "bo*");
        Check.line(x, "bo");
        readings(x, "0: 000002", "0: 000101", "0: 0001101");
    }

    // "place": ahead of a lesser mark
    static void orderByPlace(MetreDesk x) {
        formOf(x, 1, 4, 2, 0, 1);
        Check.word(x, "bo*");
        Check.line(x, "bo bo bo");
        readings(x, "0: 000001 100002 200011", "0: 000001 100011 200012");
    }

    // "mark"
    static void orderByMark(MetreDesk x) {
        formOf(x, 1, 1, 44, 0, 0);
        Check.word(x, "bo*");
        Check.line(x, "bo bo bo");
        readings(x, "0: 000001 100012 200012", "0: 000002 100002 200011");
    }

    // "the first STEPS that differ": not the last
    static void orderByTheFirstThatDiffer(MetreDesk x) {
        x.foot(0, 0, 3, 0, 0);
        x.foot(1, 0, 3, 0, 0);
        x.form(0, 0, 3);
        x.form(0, 1, 3);
        Check.line(x, "a a");
        readings(x, "0: 000002 101002", "0: 000002 101102", "0: 000102 101002", "0: 000102 101102");
    }

    // ---- near()

    // "the least number of changes": none
    static void nearNothing(MetreDesk x) {
        formOf(x, 1, 0, 12, 0, 0);
        Check.word(x, "bo*");
        Check.line(x, "ab a");
        due("as it is", x.near(0), 0);
        Check.line(x, "bo bo");
        due("both", x.near(0), 0);
    }

    // "a SYLLABLE taken for the other mark (not BOTH)"
    static void nearByTheOtherMark(MetreDesk x) {
        formOf(x, 1, 0, 12, 0, 0);
        Check.line(x, "a a");
        due("light for heavy", x.near(0), 1);
        Check.line(x, "ab ab");
        due("heavy for light", x.near(0), 1);
        x.foot(0, 0, 1212, 0, 0);
        Check.line(x, "a ab a ab");
        due("out and in rather than four", x.near(0), 2);
        Check.line(x, "a a a a");
        due("two", x.near(0), 2);
        x.foot(0, 0, 33, 0, 0);
        due("two too many, each as it is", x.near(0), 2);
    }

    // "left out": at any place
    static void nearByLeavingOut(MetreDesk x) {
        formOf(x, 1, 0, 12, 0, 0);
        for (String text : new String[] {"a ab a", "ab ab a", "ab a a", "ab a ab"}) {
            Check.line(x, text);
            due(text, x.near(0), 1);
        }
        x.foot(0, 0, 3, 0, 0);
        Check.line(x, "aeioaeioaeioaeio aeioaeioaeioaeio aeioaeio");
        due("39 of 40", x.near(0), 39);
    }

    // "or put in (at any place, of any mark ..)"
    static void nearByPuttingIn(MetreDesk x) {
        formOf(x, 1, 0, 121, 0, 0);
        for (String text : new String[] {"a ab", "ab ab", "ab a", "abba"}) {
            Check.line(x, text);
            due(text, x.near(0), 1);
        }
        x.foot(0, 0, 1212, 0, 0);
        Check.line(x, "ab");
        due("three", x.near(0), 3);
    }

    // "put in": more than a line may have, as many as a form asks for
    static void nearByPuttingIn95(MetreDesk x) {
        formOf(x, 8, 4, 3, 3, 3);
        Check.line(x, "ab");
        due("one of 96", x.near(0), 95);
        Check.line(x, "a");
        due("one of 96", x.near(0), 95);
    }

    // "with no LICENCES": they are let, and yet
    static void nearWithoutLicences(MetreDesk x) {
        for (int l = 0; l < 5; l++) {
            x.licence(l, 0);
        }
        formOf(x, 1, 0, 11, 0, 0);
        String[] texts = {"ab abe ob", "ab ia", "ab a", "ab ab o"};
        int[] due = {2, 2, 1, 1};
        for (int i = 0; i < texts.length; i++) {
            Check.line(x, texts[i]);
            due(texts[i], x.near(0), due[i]);
        }
        formOf(x, 1, 0, 2, 0, 0);
        Check.line(x, "ab");
        due("not turned", x.near(0), 1);
    }

    // "(.. put in .. no word ends behind it)"
    static void nearPutsInWithoutAWordsEnd(MetreDesk x) {
        formOf(x, 2, 0, 3, 0, 0);
        Check.line(x, "ab");
        due("no cut", x.near(0), 1);
        x.cut(0, 1);
        due("put in behind", x.near(0), 1);
        x.cut(0, 2);
        due("put in ahead", x.near(0), 1);
        x.cut(0, 3);
        due("neither", x.near(0), NONE);
        Check.line(x, "ab ab");
        due("none put in", x.near(0), 0);
    }

    // "a word whose last SYLLABLE is left out ends behind none"
    static void nearLeavesOutAWordsLast(MetreDesk x) {
        x.foot(0, 0, 1, 0, 0);
        x.foot(1, 0, 2, 0, 0);
        x.form(0, 0, 1);
        x.form(0, 1, 2);
        Check.line(x, "abbe e");
        due("without a cut its last is left out", x.near(0), 1);
        x.cut(0, 1);
        due("its first is left out, its last the other mark", x.near(0), 2);
        Check.line(x, "ab be e");
        due("a word of one", x.near(0), 1);
    }

    // "left out": the word behind another one, that ends as it did
    static void nearLeavesOutAWholeWord(MetreDesk x) {
        formOf(x, 2, 0, 3, 0, 0);
        x.cut(0, 3);
        Check.line(x, "a be a");
        due("the middle one", x.near(0), 1);
        Check.line(x, "a bebe a");
        due("two of it", x.near(0), 2);
        Check.line(x, "a beb");
        due("none", x.near(0), 0);
    }

    // "a CUT behind the last position is asked, too"
    static void nearAsksTheCutBehindTheLast(MetreDesk x) {
        formOf(x, 1, 0, 1, 0, 0);
        Check.line(x, "abba");
        due("not told: the last is left out", x.near(0), 1);
        x.cut(0, 1);
        due("told: the first is, the last has the other mark", x.near(0), 2);
        Check.line(x, "ab");
        due("it ends there", x.near(0), 0);
        x.cut(0, 254);
        Check.line(x, "abba");
        due("others are nothing to it", x.near(0), 1);
    }

    // the same of a SPLIT foot's CUT, of two LIGHT ones the second
    static void nearAsksASplitFootsCut(MetreDesk x) {
        formOf(x, 1, 3, 33, 1, 0);
        Check.line(x, "abab");
        due("one in, one out", x.near(0), 2);
        Check.line(x, "ab ab");
        due("it ends there", x.near(0), 0);
        Check.line(x, "ab");
        due("put in behind", x.near(0), 1);
        formOf(x, 1, 3, 41, 1, 0);
        Check.line(x, "a aab");
        due("behind the first of two", x.near(0), 2);
        Check.line(x, "aa ab");
        due("behind the second", x.near(0), 0);
    }

    // "NONE if no changes make one"
    static void nearWithoutAWay(MetreDesk x) {
        x.form(0, 0, 1);
        Check.line(x, "ab");
        due("no foot", x.near(0), NONE);
        x.foot(0, 2, 1, 0, 0);
        due("a closing one at the last", x.near(0), 0);
        x.form(0, 1, 2);
        due("then not, and no other foot", x.near(0), NONE);
        x.foot(1, 0, 1, 0, 0);
        due("no foot for the first", x.near(0), NONE);
        x.form(0, 0, 3);
        due("one for each", x.near(0), 1);
    }

    // "the last as any mark": a CLOSING foot's last, digits 3 ask no change
    static void nearOfAnyMark(MetreDesk x) {
        formOf(x, 1, 2, 12, 0, 0);
        Check.line(x, "ab ab");
        due("closing", x.near(0), 0);
        Check.line(x, "a ab");
        due("closing", x.near(0), 1);
        formOf(x, 1, 0, 33, 0, 0);
        Check.line(x, "a ab");
        due("either", x.near(0), 0);
        formOf(x, 1, 1, 4, 0, 0);
        Check.line(x, "a");
        due("one heavy", x.near(0), 1);
        Check.line(x, "a a");
        due("two light", x.near(0), 0);
        Check.line(x, "a ab");
        due("two light", x.near(0), 1);
    }

    // ---- tell(), check()

    private static void tellSteps(MetreDesk x, int... steps) {
        for (int at = 0; at + 5 < steps.length; at += 6) {
            x.tell(steps[at], steps[at + 1], steps[at + 2], steps[at + 3], steps[at + 4], steps[at + 5]);
        }
    }

    // "One more STEP of THE ROW: how many; FULL (41st)"
    static void theRowHas40Steps(MetreDesk x) {
        due("count", x.count(7), 0);
        for (int i = 1; i <= 40; i++) {
            due("tell", x.tell(i, -i, HUGE, TINY, 0, 9), i);
        }
        due("the 41st", x.tell(0, 0, 0, 0, 0, 1), FULL);
        due("count", x.count(7), 40);
        formOf(x, 1, 0, 1, 0, 0);
        Check.line(x, "ab");
        due("check", x.check(0), 0);
        due("room again", x.tell(0, 0, 0, 0, 0, 1), 1);
    }

    private static void tellReadingOf40(MetreDesk x, int n, int wrongPart) {
        for (int i = 0; i < n; i++) {
            int inFoot = i % 5;
            int[] s = {i, 0, i / 5, 0, inFoot == 0 ? 0 : 1, inFoot < 2 ? 1 : 2};
            if (i == n - 1 && wrongPart >= 0) {
                s[wrongPart]++;
            }
            due("tell", x.tell(s[0], s[1], s[2], s[3], s[4], s[5]), i + 1);
        }
    }

    // "NONE if it is a READING": of 40 STEPS; "FULL (41st)" leaves it so
    static void aRowOf40StepsIsAReading(MetreDesk x) {
        formOf(x, 8, 4, 2, 0, 3);
        Check.word(x, "a+a+a-a-a-");
        Check.line(x, "aaaaa ".repeat(8));
        tellReadingOf40(x, 40, -1);
        due("41st", x.tell(0, 0, 0, 0, 0, 0), FULL);
        due("all", x.check(0), NONE);
        tellReadingOf40(x, 39, -1);
        due("but the last", x.check(0), 39);
        for (int part = 0; part < 6; part++) {
            tellReadingOf40(x, 40, part);
            due("the last is wrong in " + part, x.check(0), 39);
        }
    }

    // "the first STEP with which no READING begins as THE ROW does"
    static void theFirstWrongStep(MetreDesk x) {
        formOf(x, 1, 0, 121, 0, 0);
        Check.line(x, "ab a ab");
        int[] row = {0, 0, 0, 0, 0, 1, 1, 0, 0, 0, 1, 2, 2, 0, 0, 0, 2, 1};
        for (int i = 0; i < 18; i++) {
            for (int by : new int[] {1, -1, TINY}) {
                row[i] += by;
                tellSteps(x, row);
                due("number " + i + " by " + by, x.check(0), i / 6);
                row[i] -= by;
            }
        }
        tellSteps(x, row);
        due("none is wrong", x.check(0), NONE);
    }

    // "the first STEP with which no READING begins": the others may be well
    static void aWrongStepAheadOfGoodOnes(MetreDesk x) {
        formOf(x, 1, 0, 12, 0, 0);
        Check.line(x, "ab a");
        tellSteps(x, 1, 0, 0, 0, 1, 2);
        due("the second alone", x.check(0), 0);
        tellSteps(x, 9, 0, 0, 0, 0, 1, 1, 0, 0, 0, 1, 2);
        due("the first wrong", x.check(0), 0);
        tellSteps(x, 0, 0, 0, 0, 0, 1, 0, 0, 0, 0, 0, 1);
        due("the first twice", x.check(0), 1);
    }

    // "how many it has, if it is only the beginning of some"
    static void theBeginningOfSome(MetreDesk x) {
        formOf(x, 1, 1, 44, 0, 0);
        Check.word(x, "bo*");
        Check.line(x, "bo bo bo");
        tellSteps(x, 0, 0, 0, 0, 0, 1);
        due("of the first", x.check(0), 1);
        tellSteps(x, 0, 0, 0, 0, 0, 2);
        due("of the second", x.check(0), 1);
        tellSteps(x, 0, 0, 0, 0, 0, 2, 1, 0, 0, 0, 0, 2);
        due("of the second", x.check(0), 2);
        tellSteps(x, 0, 0, 0, 0, 0, 1, 1, 0, 0, 0, 0, 2);
        due("of neither", x.check(0), 1);
        tellSteps(x, 0, 0, 0, 0, 0, 1, 1, 0, 0, 0, 1, 1);
        due("a step from which there is no way on", x.check(0), 1);
    }

    // "a READING": THE ROW has one STEP more than it
    static void aRowLongerThanAReading(MetreDesk x) {
        formOf(x, 1, 0, 12, 0, 0);
        Check.line(x, "ab a");
        tellSteps(x, 0, 0, 0, 0, 0, 1, 1, 0, 0, 0, 1, 2, 2, 0, 0, 0, 2, 1);
        due("the third", x.check(0), 2);
        tellSteps(x, 0, 0, 0, 0, 0, 1, 1, 0, 0, 0, 1, 2, 1, 0, 0, 0, 1, 2);
        due("the second twice", x.check(0), 2);
    }

    // "(0 of an empty one, always)": with a reading, without one
    static void anEmptyRow(MetreDesk x) {
        formOf(x, 1, 0, 12, 0, 0);
        Check.line(x, "ab a");
        due("with a reading", x.check(0), 0);
        Check.line(x, "ab");
        due("without", x.check(0), 0);
        x.form(1, 0, 2);
        due("without a foot", x.check(1), 0);
    }

    // "the first STEP with which no READING begins": there is no READING
    static void aRowWithoutAReading(MetreDesk x) {
        formOf(x, 1, 0, 12, 0, 0);
        Check.line(x, "ab ab");
        tellSteps(x, 0, 0, 0, 0, 0, 1);
        due("the first", x.check(0), 0);
    }

    // "THE ROW (empty then)": whatever is answered
    static void theRowIsEmptyThen(MetreDesk x) {
        formOf(x, 1, 0, 12, 0, 0);
        Check.line(x, "ab a");
        tellSteps(x, 0, 0, 0, 0, 0, 1, 1, 0, 0, 0, 1, 2);
        due("a reading", x.check(0), NONE);
        due("count", x.count(7), 0);
        tellSteps(x, 0, 0, 0, 0, 0, 1);
        due("a beginning", x.check(0), 1);
        due("count", x.count(7), 0);
        tellSteps(x, 7, 7, 7, 7, 7, 7);
        due("neither", x.check(0), 0);
        due("count", x.count(7), 0);
        due("empty", x.check(0), 0);
        due("the next is the first", x.tell(0, 0, 0, 0, 0, 1), 1);
    }

    // "RANGE": a refused check leaves THE ROW
    static void aRefusedCheckLeavesTheRow(MetreDesk x) {
        tellSteps(x, 0, 0, 0, 0, 0, 1, 1, 0, 0, 0, 1, 2);
        due("no line", x.check(0), RANGE);
        due("count", x.count(7), 2);
        Check.line(x, "ab a");
        due("no form", x.check(0), RANGE);
        due("count", x.count(7), 2);
        formOf(x, 1, 0, 12, 0, 0);
        due("form 8", x.check(8), RANGE);
        due("it is held", x.check(0), NONE);
    }

    // "LOST and EXTRA have NONE for the last four": told so, and no other way
    static void toldLostAndExtraSteps(MetreDesk x) {
        formOf(x, 1, 0, 3, 0, 0);
        x.licence(0, 1);
        x.licence(4, 1);
        Check.line(x, "aba a");
        int[] row = {0, 0, 0, 0, 0, 2, 1, 4, NONE, NONE, NONE, NONE, 2, 5, NONE, NONE, NONE, NONE};
        tellSteps(x, row);
        due("a reading", x.check(0), NONE);
        for (int i = 8; i < 18; i += i == 11 ? 3 : 1) {
            row[i]++;
            tellSteps(x, row);
            due("number " + i, x.check(0), i / 6);
            row[i]--;
        }
    }

    // "held against THE LINE": steps of each way
    static void toldStepsOfEachWay(MetreDesk x) {
        for (int l = 1; l < 4; l++) {
            x.licence(l, 1);
        }
        formOf(x, 1, 0, 211, 0, 0);
        Check.line(x, "ab a mia");
        tellSteps(x, 0, 2, 0, 0, 0, 2, 1, 1, 0, 0, 1, 1, 2, 3, 0, 0, 2, 1);
        due("turned, struck, melted", x.check(0), NONE);
        tellSteps(x, 0, 2, 0, 0, 0, 2, 1, 1, 0, 0, 1, 1, 2, 1, 0, 0, 2, 1);
        due("struck in place of melted", x.check(0), 2);
        tellSteps(x, 0, 0, 0, 0, 0, 2);
        due("as it is in place of turned", x.check(0), 0);
    }
}
