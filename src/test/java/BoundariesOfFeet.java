/**
 * Feet, line forms, cuts, licences, steps (promises 8 to 11, II of the terms): each sentence of the
 * document that names a boundary case has a test here, with the sentence above it.
 */
public final class BoundariesOfFeet {
    private static final int NONE = Check.NONE;
    private static final int RANGE = Check.RANGE;
    private static final int HUGE = Check.HUGE;
    private static final int TINY = Check.TINY;

    private BoundariesOfFeet() {
    }

    public static void main(String[] args) throws IllegalAccessException {
        Check.runAll(BoundariesOfFeet.class);
    }

    private static void due(String what, int got, int due) {
        Check.due(what, got, due);
    }

    private static void noFoot(MetreDesk x, int k, int sort, int row, int a, int b) {
        due("foot " + k + " " + sort + " " + row + " " + a + " " + b, x.foot(k, sort, row, a, b), RANGE);
    }

    /** Foot 0 alone makes form 0, in as many positions. */
    private static void formOf(MetreDesk x, int positions, int sort, int row, int a, int b) {
        x.foot(0, sort, row, a, b);
        for (int i = 0; i < positions; i++) {
            x.form(0, i, 1);
        }
    }

    /** Words of the book: ho heavy, li light, bo both. */
    private static void tellWords(MetreDesk x) {
        Check.word(x, "ho+");
        Check.word(x, "li-");
        Check.word(x, "bo*");
    }

    private static void readings(MetreDesk x, String text, String... due) {
        Check.line(x, text);
        due("lay of " + text, x.lay(0), due.length);
        for (int r = 0; r < due.length; r++) {
            Check.same("reading " + r + " of " + text, Check.reading(x, r), due[r]);
        }
    }

    // ---- foot()

    // "FEET 0 .. 11 (none at first)"
    static void noFeetAtFirst(MetreDesk x) {
        due("form", x.form(0, 0, 4095), 1);
        Check.line(x, "ab");
        due("scan", x.scan(0), 0);
        due("best", x.best(0), NONE);
        due("near", x.near(0), NONE);
        due("lay", x.lay(0), 0);
    }

    // "FEET 0 .. 11"; "RANGE"
    static void feet0To11(MetreDesk x) {
        for (int k : new int[] {-1, 12, HUGE, TINY}) {
            noFoot(x, k, 0, 1, 0, 0);
            noFoot(x, k, 4, 1, 0, 0);
        }
        x.form(0, 0, 1);
        x.form(1, 0, 1 << 11);
        x.form(2, 0, 1 << 10);
        Check.line(x, "ab");
        due("foot 0", x.foot(0, 0, 1, 0, 0), 1);
        due("by foot 0", x.scan(0), 1);
        due("not by foot 11", x.scan(1), 0);
        due("foot 11", x.foot(11, 0, 1, 0, 0), 1);
        due("by foot 11", x.scan(1), 1);
        due("not by foot 10", x.scan(2), 0);
    }

    // "Sorts: 0 PLAIN, 1 OPEN, 2 CLOSING, 3 SPLIT", "4 FREE"; "RANGE"
    static void sorts0To4(MetreDesk x) {
        for (int sort : new int[] {-1, 5, HUGE, TINY}) {
            noFoot(x, 0, sort, 1, 0, 0);
            noFoot(x, 0, sort, 12, 1, 0);
        }
        due("plain", x.foot(0, 0, 12, 0, 0), 2);
        due("open", x.foot(0, 1, 12, 0, 0), 2);
        due("closing", x.foot(0, 2, 12, 0, 0), 2);
        due("split", x.foot(0, 3, 12, 1, 0), 2);
        due("free", x.foot(0, 4, 2, 0, 0), 2);
    }

    // "a row of 1 .. 4 places, told as digits from the left"
    static void rowsOf1To4Places(MetreDesk x) {
        int[] rows = {1, 12, 123, 1231};
        for (int sort = 0; sort < 3; sort++) {
            for (int i = 0; i < 4; i++) {
                due("sort " + sort + " of " + rows[i], x.foot(0, sort, rows[i], 0, 0), i + 1);
            }
            noFoot(x, 0, sort, 11111, 0, 0);
            noFoot(x, 0, sort, 33333, 0, 0);
            noFoot(x, 0, sort, 0, 0, 0);
        }
        due("split of four", x.foot(0, 3, 1231, 3, 0), 4);
        noFoot(x, 0, 3, 11111, 1, 0);
        noFoot(x, 0, 3, 11111, 4, 0);
    }

    // "told as digits": 1, 2, 3, and 4 "(not of PLAIN)"; no other one
    static void digits1To4(MetreDesk x) {
        for (int sort = 0; sort < 4; sort++) {
            int cut = sort == 3 ? 1 : 0;
            for (int digit = 0; digit < 10; digit++) {
                boolean may = digit >= 1 && digit <= (sort == 0 ? 3 : 4);
                due("sort " + sort + " last " + digit, x.foot(0, sort, 10 + digit, cut, 0), may ? 2 : RANGE);
                due("sort " + sort + " amid " + digit, x.foot(0, sort, 101 + 10 * digit, cut, 0), may ? 3 : RANGE);
                if (digit > 0) {
                    due("sort " + sort + " first " + digit, x.foot(0, sort, 10 * digit + 1, cut, 0), may ? 2 : RANGE);
                }
            }
        }
        due("four of four", x.foot(0, 1, 4444, 0, 0), 4);
        due("four of three", x.foot(0, 0, 3333, 0, 0), 4);
        noFoot(x, 0, 0, 3334, 0, 0);
        noFoot(x, 0, 0, 4333, 0, 0);
    }

    // "RANGE": rows below 0 and the greatest int
    static void rowsFarOff(MetreDesk x) {
        for (int sort = 0; sort < 5; sort++) {
            for (int row : new int[] {-1, -12, -1234, HUGE, TINY, 1111111111}) {
                noFoot(x, 0, sort, row, sort == 3 ? 1 : 0, 0);
            }
        }
    }

    // "so many strikes (1 .. 3)"
    static void strikes1To3(MetreDesk x) {
        for (int strikes = 1; strikes <= 3; strikes++) {
            due("strikes", x.foot(0, 4, strikes, 0, 0), strikes);
        }
        for (int strikes : new int[] {0, 4, 11, 12, 111, -1, HUGE, TINY}) {
            noFoot(x, 0, 4, strikes, 0, 0);
        }
    }

    // "x .. y LIGHT ones behind (0 .. 3; y not below x)"
    static void lightOnes0To3(MetreDesk x) {
        for (int least = -1; least <= 4; least++) {
            for (int most = -1; most <= 4; most++) {
                boolean may = least >= 0 && most <= 3 && most >= least;
                due("free " + least + " .. " + most, x.foot(0, 4, 2, least, most), may ? 2 : RANGE);
            }
        }
        noFoot(x, 0, 4, 2, 0, HUGE);
        noFoot(x, 0, 4, 2, TINY, 0);
        noFoot(x, 0, 4, 2, HUGE, HUGE);
        noFoot(x, 0, 4, 2, TINY, TINY);
    }

    // "SPLIT: its CUT is behind place x, from 1 on"; "behind one of its places but the last"
    static void cutsBehindAPlaceButTheLast(MetreDesk x) {
        for (int places = 1; places <= 4; places++) {
            int row = 1111 % (int) Math.pow(10, places);
            for (int cut = -1; cut <= 5; cut++) {
                boolean may = cut >= 1 && cut < places;
                due("split of " + places + " behind " + cut, x.foot(0, 3, row, cut, 0), may ? places : RANGE);
            }
        }
        noFoot(x, 0, 3, 12, HUGE, 0);
        noFoot(x, 0, 3, 12, TINY, 0);
    }

    // "others 0": a number that the sort has no use for is 0, else RANGE
    static void othersAre0(MetreDesk x) {
        for (int sort = 0; sort < 3; sort++) {
            for (int other : new int[] {-1, 1, 2, HUGE, TINY}) {
                noFoot(x, 0, sort, 12, other, 0);
                noFoot(x, 0, sort, 12, 0, other);
                noFoot(x, 0, sort, 12, other, other);
            }
        }
        for (int other : new int[] {-1, 1, 2, HUGE, TINY}) {
            noFoot(x, 0, 3, 12, 1, other);
        }
    }

    // "RANGE": a refused foot leaves the one that was there
    static void aRefusedFootLeavesAll(MetreDesk x) {
        Check.furnish(x);
        String before = Check.state(x);
        noFoot(x, 0, 0, 4, 0, 0);
        noFoot(x, 0, 5, 1, 0, 0);
        noFoot(x, 0, 0, 1, 1, 0);
        noFoot(x, 1, 3, 1, 1, 0);
        noFoot(x, 11, 4, 1, 2, 1);
        noFoot(x, 12, 0, 1, 0, 0);
        noFoot(x, -1, 0, 1, 0, 0);
        Check.same("state", Check.state(x), before);
    }

    // "FOOT k is of a sort": told anew it is another one, at once
    static void aFootToldAnew(MetreDesk x) {
        formOf(x, 1, 0, 11, 0, 0);
        Check.line(x, "ab a a");
        due("two", x.scan(0), 0);
        due("free", x.foot(0, 4, 1, 2, 2), 1);
        due("then", x.scan(0), 1);
        due("open", x.foot(0, 1, 14, 0, 0), 2);
        due("then", x.scan(0), 1);
        due("split", x.foot(0, 3, 122, 2, 0), 3);
        due("then", x.scan(0), 1);
        due("plain", x.foot(0, 0, 12, 0, 0), 2);
        due("then", x.scan(0), 0);
    }

    // ---- form()

    // "A LINE FORM (0 .. 7, none at first)"
    static void noFormsAtFirst(MetreDesk x) {
        x.foot(0, 0, 3, 0, 0);
        Check.line(x, "a");
        for (int f = 0; f < 8; f++) {
            due("scan " + f, x.scan(f), RANGE);
            due("the second position", x.form(f, 1, 1), RANGE);
            due("still none", x.scan(f), RANGE);
            due("the first", x.form(f, 0, 1), 1);
            due("scan " + f, x.scan(f), 1);
        }
    }

    // "RANGE: no such f"
    static void forms0To7(MetreDesk x) {
        for (int f : new int[] {-1, 8, HUGE, TINY}) {
            due("form " + f, x.form(f, 0, 1), RANGE);
        }
        due("0", x.form(0, 0, 1), 1);
        due("7", x.form(7, 0, 1), 1);
    }

    // "i (one that is there, or the next one, 0 .. 7)"; "1 .. 8 positions"
    static void positions0To7(MetreDesk x) {
        for (int i = 0; i < 8; i++) {
            due("behind the next one", x.form(2, i + 1, 1), RANGE);
            due("below 0", x.form(2, -1, 1), RANGE);
            due("the next one", x.form(2, i, 1), i + 1);
            due("one that is there", x.form(2, i, 2), i + 1);
            due("the first", x.form(2, 0, 2), i + 1);
        }
        for (int i : new int[] {8, 9, HUGE, TINY, -1}) {
            due("position " + i, x.form(2, i, 1), RANGE);
        }
        due("the last one there", x.form(2, 7, 1), 8);
        due("another form has none", x.form(1, 1, 1), RANGE);
    }

    // "1 .. 8 positions": a line of eight feet
    static void aFormOfEightPositions(MetreDesk x) {
        formOf(x, 8, 0, 12, 0, 0);
        due("a ninth", x.form(0, 8, 1), RANGE);
        Check.word(x, "ha+la-ha+la-");
        Check.line(x, "halahala halahala halahala halahala");
        due("eight feet", x.scan(0), 1);
        x.lay(0);
        due("the last step's position", x.step(0, 15, 2), 7);
        Check.line(x, "halahala halahala halahala ab a");
        due("seven", x.scan(0), 0);
    }

    // "has a set of FEET (1 .. 4095)"
    static void setsOf1To4095(MetreDesk x) {
        for (int set : new int[] {0, -1, 4096, 4097, HUGE, TINY}) {
            due("set " + set, x.form(0, 0, set), RANGE);
        }
        Check.line(x, "a");
        due("no form came", x.scan(0), RANGE);
        due("1", x.form(0, 0, 1), 1);
        due("4095", x.form(0, 1, 4095), 2);
        due("a wrong one of one that is there", x.form(0, 1, 4096), RANGE);
    }

    // "RANGE": a refused position leaves the form as it was
    static void aRefusedPositionLeavesAll(MetreDesk x) {
        Check.furnish(x);
        String before = Check.state(x);
        due("set", x.form(0, 0, 0), RANGE);
        due("set", x.form(0, 1, 4096), RANGE);
        due("set of the next", x.form(0, 2, 0), RANGE);
        due("position", x.form(0, 3, 1), RANGE);
        due("position", x.form(7, -1, 4095), RANGE);
        due("form", x.form(8, 0, 1), RANGE);
        due("form", x.form(-1, 0, 1), RANGE);
        Check.same("state", Check.state(x), before);
        due("how many still", x.form(0, 1, 3), 2);
    }

    // "bits 0 .. 11; a foot that there is none is none"
    static void setsWithFeetThatThereAreNone(MetreDesk x) {
        x.foot(3, 0, 1, 0, 0);
        x.form(0, 0, 4095 - 8);
        Check.line(x, "ab");
        due("all but it", x.scan(0), 0);
        due("near", x.near(0), NONE);
        x.form(0, 0, 4095);
        due("with it", x.scan(0), 1);
        x.form(0, 0, 8);
        due("it alone", x.scan(0), 1);
    }

    // "CLOSING ones in the last position alone"
    static void closingFeetStandInTheLastPosition(MetreDesk x) {
        formOf(x, 1, 2, 1, 0, 0);
        Check.line(x, "ab");
        due("the last is the first", x.scan(0), 1);
        x.form(0, 1, 1);
        Check.line(x, "ab ab");
        due("the first of two", x.scan(0), 0);
        due("near", x.near(0), NONE);
        x.foot(1, 0, 1, 0, 0);
        x.form(0, 0, 2);
        due("the last of two", x.scan(0), 1);
        x.form(0, 2, 2);
        Check.line(x, "ab ab ab");
        due("the second of three", x.scan(0), 0);
        due("near", x.near(0), NONE);
    }

    // ---- cut()

    // "(0 .. 255): what it had; RANGE"
    static void cutsOf0To255(MetreDesk x) {
        for (int f = 0; f < 8; f++) {
            due("at first", x.cut(f, 255), 0);
        }
        for (int set : new int[] {-1, 256, 257, HUGE, TINY}) {
            due("set " + set, x.cut(0, set), RANGE);
        }
        for (int f : new int[] {-1, 8, HUGE, TINY}) {
            due("form " + f, x.cut(f, 0), RANGE);
        }
        due("what it had", x.cut(0, 0), 255);
        due("what it had", x.cut(0, 1), 0);
        due("what it had", x.cut(0, 128), 1);
        due("what it had", x.cut(0, 128), 128);
        due("the others", x.cut(7, 3), 255);
    }

    // "cut": the form may have no position yet
    static void cutsAheadOfTheForm(MetreDesk x) {
        due("cut", x.cut(0, 1), 0);
        Check.line(x, "ab ab");
        due("it is none yet", x.scan(0), RANGE);
        formOf(x, 2, 0, 3, 0, 0);
        due("a word ends there", x.scan(0), 1);
        Check.line(x, "abab");
        due("none ends there", x.scan(0), 0);
    }

    // "RANGE": a refused cut leaves those that were
    static void aRefusedCutLeavesAll(MetreDesk x) {
        Check.furnish(x);
        String before = Check.state(x);
        due("set", x.cut(0, 256), RANGE);
        due("set", x.cut(0, -1), RANGE);
        due("form", x.cut(8, 0), RANGE);
        due("form", x.cut(-1, 0), RANGE);
        Check.same("state", Check.state(x), before);
    }

    // "a CUT behind some of them (bit i: position i)"
    static void aCutBehindPosition0And7(MetreDesk x) {
        formOf(x, 8, 0, 3, 0, 0);
        Check.line(x, "ab ababababababab");
        due("eight", x.count(4), 8);
        for (int i = 0; i < 8; i++) {
            x.cut(0, 1 << i);
            due("cut " + i, x.scan(0), i == 0 || i == 7 ? 1 : 0);
        }
        Check.line(x, "abababababab abab");
        for (int i = 0; i < 8; i++) {
            x.cut(0, 1 << i);
            due("cut " + i, x.scan(0), i == 5 || i == 7 ? 1 : 0);
        }
    }

    // "bit i: position i": bits of positions that there are none ask nothing
    static void cutsBehindNoPosition(MetreDesk x) {
        formOf(x, 2, 0, 3, 0, 0);
        Check.line(x, "abab");
        x.cut(0, 254);
        due("all but the first", x.scan(0), 1);
        x.cut(0, 255);
        due("the first", x.scan(0), 0);
    }

    // "(behind the last one it need not be told)": a word ends there anyhow
    static void aCutBehindTheLastPosition(MetreDesk x) {
        formOf(x, 2, 0, 3, 0, 0);
        Check.line(x, "abab");
        due("not told", x.scan(0), 1);
        x.cut(0, 2);
        due("told", x.scan(0), 1);
    }

    // "a word ends there": also ahead of an EXTRA one, where it is told
    static void aCutAheadOfAnExtraOne(MetreDesk x) {
        formOf(x, 1, 0, 1, 0, 0);
        x.licence(4, 0);
        Check.line(x, "abba");
        due("not told", x.scan(0), 1);
        x.cut(0, 1);
        due("no word ends there", x.scan(0), 0);
        Check.line(x, "ab a");
        due("one does", x.scan(0), 1);
    }

    // "A word ends behind a STEP whose last SYLLABLE is its word's last, or its last but a LOST one"
    static void aWordEndsBehindItsLastButALostOne(MetreDesk x) {
        formOf(x, 2, 0, 3, 0, 0);
        x.cut(0, 1);
        x.licence(0, 4);
        readings(x, "aba ob", "4: 000002 14.... 201001");
        readings(x, "ab ob", "0: 000001 101001");
        readings(x, "abob");
        x.foot(1, 0, 33, 0, 0);
        x.form(0, 0, 2);
        readings(x, "ababa ob", "4: 000102 100112 24.... 301001");
        x.form(0, 0, 1);
        readings(x, "ababa ob");
    }

    // the same, of a LOST one in place of the word's end by MELTED
    static void aWordEndsBehindAMeltedOne(MetreDesk x) {
        formOf(x, 2, 0, 1, 0, 0);
        x.cut(0, 1);
        x.licence(1, 6);
        readings(x, "mia ab", "6: 030001 201001");
        readings(x, "miab ab", "6: 030001 201001");
        readings(x, "miabab");
        x.licence(0, 1);
        readings(x, "miaba ab", "7: 030001 24.... 301001");
    }

    // "A CUT is asked of the STEP that fills the place (of two LIGHT ones the second) or the position"
    static void aCutOfAPlaceOfTwoLightOnes(MetreDesk x) {
        formOf(x, 1, 3, 41, 1, 0);
        readings(x, "a a ab", "0: 000002 100002 200011");
        readings(x, "aa ab", "0: 000002 100002 200011");
        readings(x, "a aab");
        readings(x, "aaab");
        readings(x, "ab ab", "0: 000001 100011");
        readings(x, "abab");
    }

    // the same of a position, whose last place two LIGHT ones fill
    static void aCutOfAPositionOfTwoLightOnes(MetreDesk x) {
        formOf(x, 2, 1, 14, 0, 0);
        x.cut(0, 1);
        Check.line(x, "ab a a ab ab");
        due("both end words", x.scan(0), 1);
        Check.line(x, "ab aa ab ab");
        due("the second", x.scan(0), 1);
        Check.line(x, "ab a aab ab");
        due("the first", x.scan(0), 0);
    }

    // "a FREE foot ends behind any LIGHT one that its last strike may have last": a CUT is asked there
    static void aCutOfAFreeFoot(MetreDesk x) {
        formOf(x, 2, 4, 1, 0, 3);
        x.cut(0, 1);
        tellWords(x);
        Check.word(x, "ho+li-");
        Check.word(x, "li-bo*");
        Check.word(x, "bo*bo*");
        readings(x, "ho bobo bo", "0: 000001 100002 200002 301001", "0: 000001 101001 201002 301002");
        readings(x, "ho libo ho", "0: 000001 100002 200002 301001");
        readings(x, "holi ho", "0: 000001 100002 201001");
        readings(x, "ho libo li");
        x.cut(0, 0);
        readings(x, "ho libo li", "0: 000001 100002 201001 301002");
    }

    // ---- licence()

    // "A LICENCE (0 .. 4) has a price -1 .. 50: what it had; RANGE"
    static void pricesOfMinus1To50(MetreDesk x) {
        for (int l = 0; l < 5; l++) {
            due("not let at first", x.licence(l, 0), -1);
            for (int price : new int[] {-2, 51, 100, HUGE, TINY}) {
                due("price " + price, x.licence(l, price), RANGE);
            }
            due("0", x.licence(l, 50), 0);
            due("50", x.licence(l, -1), 50);
            due("-1", x.licence(l, -1), -1);
        }
        for (int l : new int[] {-1, 5, HUGE, TINY}) {
            due("licence " + l, x.licence(l, 0), RANGE);
        }
    }

    // "RANGE": a refused price leaves the one that was
    static void aRefusedPriceLeavesAll(MetreDesk x) {
        Check.furnish(x);
        String before = Check.state(x);
        for (int l = -1; l < 6; l++) {
            due("price 51", x.licence(l, 51), RANGE);
            due("price -2", x.licence(l, -2), RANGE);
        }
        due("licence 5", x.licence(5, 1), RANGE);
        due("licence -1", x.licence(-1, 1), RANGE);
        Check.same("state", Check.state(x), before);
    }

    // "or not let (-1, at first)": a price of 0 lets it, -1 lets it no more
    static void aPriceOf0IsLet(MetreDesk x) {
        formOf(x, 1, 0, 1, 0, 0);
        Check.line(x, "a");
        due("not let", x.best(0), NONE);
        x.licence(2, 0);
        due("let for nothing", x.best(0), 0);
        x.licence(2, 50);
        due("let for 50", x.best(0), 50);
        x.licence(2, -1);
        due("no more", x.best(0), NONE);
    }

    // each of the other licences at a price of 0 and of -1
    static void eachLicenceLetForNothing(MetreDesk x) {
        String[] texts = {"aba ob", "mia ob", "a ob", "ab ob", "ob ob a"};
        for (int l = 0; l < 5; l++) {
            formOf(x, 1, 0, l == 3 ? 21 : 11, 0, 0);
            Check.line(x, texts[l]);
            x.licence(2, l == 0 || l == 2 ? 0 : -1);
            if (l != 2) {
                due("not let " + l, x.scan(0), 0);
            }
            x.licence(l, 0);
            due("let " + l, x.scan(0), 1);
            due("for nothing", x.best(0), 0);
            x.licence(l, 50);
            due("for 50", x.best(0), 50);
            x.licence(l, -1);
            due("no more " + l, x.scan(0), 0);
        }
    }

    // ---- marks and digits

    // "1 takes a HEAVY one", "BOTH: as either"
    static void digit1(MetreDesk x) {
        tellWords(x);
        formOf(x, 1, 0, 1, 0, 0);
        readings(x, "ho", "0: 000001");
        readings(x, "li");
        readings(x, "bo", "0: 000001");
    }

    // "2 a LIGHT one"
    static void digit2(MetreDesk x) {
        tellWords(x);
        formOf(x, 1, 0, 2, 0, 0);
        readings(x, "ho");
        readings(x, "li", "0: 000002");
        readings(x, "bo", "0: 000002");
    }

    // "3 either"; "where the digit is 3 .. as HEAVY, if it may be, and by no other way than 0 and 3"
    static void digit3(MetreDesk x) {
        tellWords(x);
        formOf(x, 1, 0, 3, 0, 0);
        for (int l = 1; l < 4; l++) {
            x.licence(l, 0);
        }
        readings(x, "ho", "0: 000001");
        readings(x, "li", "0: 000002");
        readings(x, "bo", "0: 000001");
        readings(x, "mia", "0: 030001");
    }

    // "4 (not of PLAIN) one HEAVY or two LIGHT ones"
    static void digit4(MetreDesk x) {
        tellWords(x);
        formOf(x, 1, 1, 4, 0, 0);
        readings(x, "ho", "0: 000001");
        readings(x, "li");
        readings(x, "bo", "0: 000001");
        readings(x, "li li", "0: 000002 100002");
        readings(x, "bo bo", "0: 000002 100002");
        readings(x, "ho li");
        readings(x, "li ho");
        readings(x, "li li li");
        x.licence(3, 5);
        x.licence(2, 4);
        readings(x, "li", "4: 010001");
        readings(x, "ho li", "5: 020002 100002");
        readings(x, "li ho");
    }

    // "The last place of a CLOSING one takes one of any mark, whatever its digit"
    static void theLastPlaceOfAClosingOne(MetreDesk x) {
        tellWords(x);
        for (int digit = 1; digit <= 4; digit++) {
            formOf(x, 1, 2, 10 + digit, 0, 0);
            readings(x, "ho ho", "0: 000001 100011");
            readings(x, "ho li", "0: 000001 100012");
            readings(x, "ho bo", "0: 000001 100011");
            readings(x, "ho li li");
            readings(x, "li ho");
        }
    }

    // "takes one of any mark": by no other way than 0 and 3
    static void theLastPlaceOfAClosingOneAndLicences(MetreDesk x) {
        tellWords(x);
        formOf(x, 1, 2, 2, 0, 0);
        for (int l = 1; l < 4; l++) {
            x.licence(l, 0);
        }
        readings(x, "ho", "0: 000001");
        readings(x, "li", "0: 000002");
        readings(x, "bo", "0: 000001");
        readings(x, "mia", "0: 030001");
    }

    // "The last place of a CLOSING one" alone; of an OPEN one not
    static void otherPlacesOfAClosingOne(MetreDesk x) {
        tellWords(x);
        formOf(x, 1, 2, 42, 0, 0);
        readings(x, "li li ho", "0: 000002 100002 200011");
        readings(x, "ho ho", "0: 000001 100011");
        readings(x, "li ho");
        formOf(x, 1, 1, 42, 0, 0);
        readings(x, "ho ho");
        readings(x, "li li ho");
    }

    // "A SPLIT one has a CUT behind one of its places but the last: a word ends there"
    static void aSplitFootHasOneCut(MetreDesk x) {
        String[] texts = {"ab ababab", "abab abab", "ababab ab"};
        for (int cut = 1; cut <= 3; cut++) {
            formOf(x, 1, 3, 3333, cut, 0);
            for (int i = 0; i < 3; i++) {
                Check.line(x, texts[i]);
                due("behind " + cut + " of " + texts[i], x.scan(0), i + 1 == cut ? 1 : 0);
            }
            Check.line(x, "ab ab ab ab");
            due("behind all", x.scan(0), 1);
        }
    }

    // "each a HEAVY one and x .. y LIGHT ones behind": one below x, x, y, one above y
    static void lightOnesOfAStrike(MetreDesk x) {
        for (int least = 0; least <= 3; least++) {
            for (int most = least; most <= 3; most++) {
                formOf(x, 1, 4, 1, least, most);
                for (int light = 0; light <= 4; light++) {
                    Check.line(x, "ab" + " a".repeat(light));
                    boolean may = light >= least && light <= most;
                    due(light + " of " + least + " .. " + most, x.scan(0), may ? 1 : 0);
                }
            }
        }
    }

    // "so many strikes": no fewer, no more; light ones behind each
    static void strikesOfAFreeFoot(MetreDesk x) {
        for (int strikes = 1; strikes <= 3; strikes++) {
            formOf(x, 1, 4, strikes, 1, 2);
            for (int n = 1; n <= 4; n++) {
                Check.line(x, "ab a ".repeat(n));
                due(n + " of " + strikes, x.scan(0), n == strikes ? 1 : 0);
            }
        }
        readings(x, "ab a ab a a ab a", "0: 000001 100002 200011 300012 400012 500021 600022");
        readings(x, "ab a ab ab a");
        readings(x, "a ab a ab a ab a");
    }

    // "A position filled by two LIGHT ones, or a FREE foot's LIGHT ones: one STEP each"
    static void oneStepForEachLightOne(MetreDesk x) {
        formOf(x, 1, 1, 4, 0, 0);
        Check.line(x, "a a");
        x.lay(0);
        due("steps", x.reading(0, 1), 2);
        formOf(x, 1, 4, 1, 3, 3);
        Check.line(x, "ab a a a");
        x.lay(0);
        due("steps", x.reading(0, 1), 4);
    }

    // ---- licences

    // "0 LOST: a word's last SYLLABLE, that ends with a vowel, ahead of a word that begins with one"
    static void lostBetweenVowels(MetreDesk x) {
        formOf(x, 1, 0, 33, 0, 0);
        x.licence(0, 3);
        readings(x, "aba ob", "3: 000002 14.... 200011");
        readings(x, "abab ob");
        readings(x, "aba bob");
        readings(x, "abab bob");
        readings(x, "ob aba");
        x.pair(14, 1, 2);
        readings(x, "aba obo");
        x.pair(1, 2, 1);
        readings(x, "aba bc", "3: 000002 14.... 200011");
    }

    // "that ends with a vowel": a PAIR, by its sort
    static void lostWithAPairAtItsEnd(MetreDesk x) {
        formOf(x, 1, 0, 33, 0, 0);
        x.licence(0, 3);
        x.pair(1, 0, 1);
        readings(x, "oba ob", "3: 000002 14.... 200011");
        x.pair(1, 2, 1);
        readings(x, "obbc ob", "3: 000002 14.... 200011");
        x.pair(0, 4, 2);
        Check.line(x, "oboae ob");
        Check.same("parted", Check.parted(x), "o-boae+ ob+");
        due("ends with a pair that is none", x.scan(0), 0);
    }

    // "SOUNDS of a SYLLABLE are those of its own letters": so a word begins with its first SYLLABLE's
    static void lostAheadOfAPairThatTheBookParts(MetreDesk x) {
        formOf(x, 1, 0, 333, 0, 0);
        x.licence(0, 3);
        x.pair(0, 1, 2);
        Check.word(x, "a-bo-");
        readings(x, "ada abo", "3: 000002 14.... 200012 300022");
        Check.unword(x, "abo");
        readings(x, "ada abo", "0: 000002 100012 200022");
    }

    // "is left out": whatever its mark
    static void lostOfAnyMark(MetreDesk x) {
        formOf(x, 1, 0, 33, 0, 0);
        x.licence(0, 3);
        Check.word(x, "da-de+");
        Check.word(x, "da-di*");
        Check.word(x, "da-do-");
        readings(x, "dade ob", "3: 000002 14.... 200011");
        readings(x, "dadi ob", "3: 000002 14.... 200011");
        readings(x, "dado ob", "3: 000002 14.... 200011");
    }

    // "(not the word's only one, nor one behind a LOST one)"
    static void lostIsNotTheOnlyOne(MetreDesk x) {
        formOf(x, 1, 0, 33, 0, 0);
        x.licence(0, 3);
        readings(x, "o ab ab");
        readings(x, "ab o ab");
        readings(x, "aba o ob");
        readings(x, "aba obo ob");
        x.foot(0, 0, 333, 0, 0);
        readings(x, "aba o ob", "3: 000002 14.... 200012 300021");
        readings(x, "aba obo ob", "6: 000002 14.... 200012 34.... 400021");
    }

    // "A READING is .. from the line's first SYLLABLE on": a LOST one amid a place of two LIGHT ones
    static void lostAmidAPlace(MetreDesk x) {
        formOf(x, 1, 1, 4, 0, 0);
        x.licence(0, 3);
        readings(x, "aba a", "3: 000002 14.... 200002");
        formOf(x, 1, 4, 1, 2, 2);
        readings(x, "obba aba ab");
        readings(x, "obba ada a", "6: 000001 14.... 200002 34.... 400002");
    }

    // "1 MELTED: a SYLLABLE that ends with its vowel and the next one of the word that begins with its vowel"
    static void meltedWithinAWord(MetreDesk x) {
        formOf(x, 1, 0, 1, 0, 0);
        x.licence(1, 8);
        readings(x, "mia", "8: 030001");
        readings(x, "mias", "8: 030001");
        readings(x, "mi a");
        readings(x, "mita");
        readings(x, "a a");
        formOf(x, 1, 0, 11, 0, 0);
        readings(x, "ambia", "8: 000001 130011");
        readings(x, "amb ia", "8: 000001 130011");
        readings(x, "ambi a");
    }

    // "are one HEAVY one": whatever their marks
    static void meltedOfAnyMarks(MetreDesk x) {
        formOf(x, 1, 0, 1, 0, 0);
        x.licence(1, 8);
        Check.word(x, "da+e*");
        Check.word(x, "da-i+");
        Check.word(x, "da*o-");
        readings(x, "dae", "8: 030001");
        readings(x, "dai", "8: 030001");
        readings(x, "dao", "8: 030001");
        x.foot(0, 0, 2, 0, 0);
        readings(x, "dae");
        readings(x, "dao");
    }

    // "the next one of the word": of three vowels the first two or the last two, never all
    static void meltedOfThreeVowels(MetreDesk x) {
        formOf(x, 1, 0, 33, 0, 0);
        x.licence(1, 8);
        readings(x, "aio", "8: 000002 130011", "8: 030001 200012");
        x.foot(0, 0, 3, 0, 0);
        readings(x, "aio");
        readings(x, "io", "8: 030001");
        x.foot(0, 0, 33, 0, 0);
        readings(x, "aioe", "16: 030001 230011");
    }

    // "SOUNDS of a SYLLABLE are those of its own letters": a PAIR parted by the book is none
    static void meltedAcrossAPairThatTheBookParts(MetreDesk x) {
        formOf(x, 1, 0, 1, 0, 0);
        x.licence(1, 8);
        x.pair(0, 4, 1);
        Check.word(x, "ta-e-");
        readings(x, "tae", "8: 030001");
        Check.unword(x, "tae");
        readings(x, "tae", "0: 000001");
    }

    // "ends with its vowel", "begins with its vowel": PAIRS too
    static void meltedWithPairs(MetreDesk x) {
        formOf(x, 1, 0, 1, 0, 0);
        x.licence(1, 8);
        x.pair(0, 4, 1);
        readings(x, "aeo", "8: 030001");
        readings(x, "oae", "8: 030001");
        x.pair(0, 4, 2);
        Check.word(x, "aeo-i-");
        readings(x, "aeoi", "8: 030001");
        Check.word(x, "i-aeo-");
        readings(x, "iaeo");
        Check.word(x, "oae-i-");
        readings(x, "oaei");
    }

    // "the next one of the word", and the last of it LOST behind
    static void lostBehindMelted(MetreDesk x) {
        formOf(x, 1, 0, 11, 0, 0);
        x.licence(0, 3);
        x.licence(1, 8);
        readings(x, "aio ob", "11: 030001 24.... 300011");
        readings(x, "io ob", "8: 030001 200011");
    }

    // "2 STRUCK: a LIGHT one is HEAVY": where HEAVY must be alone; not of one that is BOTH
    static void struckWhereHeavyMustBe(MetreDesk x) {
        tellWords(x);
        x.licence(2, 5);
        formOf(x, 1, 0, 1, 0, 0);
        readings(x, "li", "5: 010001");
        readings(x, "bo", "0: 000001");
        readings(x, "ho", "0: 000001");
        formOf(x, 1, 0, 2, 0, 0);
        readings(x, "li", "0: 000002");
        readings(x, "ho");
        formOf(x, 1, 4, 1, 1, 1);
        readings(x, "li li", "5: 010001 100002");
        formOf(x, 1, 1, 4, 0, 0);
        readings(x, "li", "5: 010001");
    }

    // "2 STRUCK": at any place of the line, the last too
    static void struckAnywhere(MetreDesk x) {
        x.licence(2, 5);
        formOf(x, 1, 0, 111, 0, 0);
        readings(x, "a ab a", "10: 010001 100011 210021");
    }

    // "3 TURNED: the line's first SYLLABLE, HEAVY, is LIGHT": no other one
    static void turnedIsTheFirstAlone(MetreDesk x) {
        tellWords(x);
        x.licence(3, 5);
        formOf(x, 1, 0, 2, 0, 0);
        readings(x, "ho", "5: 020002");
        readings(x, "bo", "0: 000002");
        readings(x, "li", "0: 000002");
        formOf(x, 1, 0, 22, 0, 0);
        readings(x, "ho ho");
        readings(x, "li ho");
        readings(x, "ho li", "5: 020002 100012");
        formOf(x, 1, 1, 4, 0, 0);
        readings(x, "ho li", "5: 020002 100002");
        formOf(x, 1, 0, 3, 0, 0);
        readings(x, "ho", "0: 000001");
    }

    // "4 EXTRA: the line's last SYLLABLE, LIGHT or BOTH"
    static void extraIsTheLastAlone(MetreDesk x) {
        tellWords(x);
        x.licence(4, 5);
        formOf(x, 1, 0, 1, 0, 0);
        readings(x, "ho li", "5: 000001 15....");
        readings(x, "ho bo", "5: 000001 15....");
        readings(x, "ho ho");
        readings(x, "ho li li");
        readings(x, "ho", "0: 000001");
    }

    // "(not if the line has no other one)"
    static void extraIsNotTheOnlyOne(MetreDesk x) {
        tellWords(x);
        x.licence(4, 5);
        formOf(x, 1, 0, 1, 0, 0);
        readings(x, "li");
        formOf(x, 1, 0, 2, 0, 0);
        readings(x, "li", "0: 000002");
        readings(x, "li li", "5: 000002 15....");
    }

    // "stands behind the last foot": all positions are filled ahead of it
    static void extraIsBehindTheLastFoot(MetreDesk x) {
        tellWords(x);
        x.licence(4, 5);
        formOf(x, 2, 0, 1, 0, 0);
        readings(x, "ho li");
        readings(x, "ho ho li", "5: 000001 101001 25....");
        formOf(x, 2, 4, 1, 0, 1);
        readings(x, "ho ho li", "0: 000001 101001 201002", "5: 000001 101001 25....");
    }

    // "4 EXTRA .. the line's last": behind a LOST one as well
    static void extraBehindALostOne(MetreDesk x) {
        x.licence(0, 3);
        x.licence(4, 5);
        formOf(x, 1, 0, 3, 0, 0);
        readings(x, "aba a", "8: 000002 14.... 25....");
        readings(x, "aba ba");
    }

    // "A READING .. from the line's first SYLLABLE on to the last, that fill the positions": no fewer, no more
    static void aReadingFillsAllPositions(MetreDesk x) {
        formOf(x, 2, 0, 12, 0, 0);
        readings(x, "ab a ab");
        readings(x, "ab a ab a ab");
        readings(x, "ab a");
        readings(x, "ab a ab a", "0: 000001 100012 201001 301012");
        formOf(x, 3, 0, 12, 0, 0);
        readings(x, "ab a ab a");
    }

    // "LOST and EXTRA have NONE for the last four"
    static void lostAndExtraHaveNoPlace(MetreDesk x) {
        x.licence(0, 3);
        x.licence(4, 5);
        formOf(x, 1, 0, 3, 0, 0);
        Check.line(x, "aba a");
        due("lay", x.lay(0), 1);
        for (int i = 1; i <= 2; i++) {
            due("syllable", x.step(0, i, 0), i);
            due("way", x.step(0, i, 1), 3 + i);
            for (int what = 2; what < 6; what++) {
                due("step " + i + " " + what, x.step(0, i, what), NONE);
            }
        }
    }

    // "STEP: .. position, foot, place (from 0; of a FREE one which strike)": the greatest of each
    static void theGreatestNumbersOfAStep(MetreDesk x) {
        x.foot(11, 0, 3333, 0, 0);
        x.foot(10, 4, 3, 0, 0);
        for (int i = 0; i < 8; i++) {
            x.form(0, i, 1 << (i == 6 ? 10 : 11));
        }
        x.licence(2, 0);
        Check.line(x, "aeioaeioaeioaeio aeioaeioaeio aeo");
        due("31 syllables", x.count(4), 31);
        due("lay", x.lay(0), 1);
        int[][] due = {{23, 5, 11, 3, 2}, {24, 6, 10, 0, 1}, {26, 6, 10, 2, 1}, {30, 7, 11, 3, 2}};
        for (int[] d : due) {
            due("position", x.step(0, d[0], 2), d[1]);
            due("foot", x.step(0, d[0], 3), d[2]);
            due("place", x.step(0, d[0], 4), d[3]);
            due("mark", x.step(0, d[0], 5), d[4]);
        }
    }

    // "MELTED (with the next one)": the step behind it is of the one after that
    static void theStepBehindAMeltedOne(MetreDesk x) {
        x.licence(1, 0);
        formOf(x, 1, 0, 13, 0, 0);
        Check.line(x, "mia bat");
        due("lay", x.lay(0), 1);
        due("steps", x.reading(0, 1), 2);
        due("first", x.step(0, 0, 0), 0);
        due("way", x.step(0, 0, 1), 3);
        due("second", x.step(0, 1, 0), 2);
    }
}
