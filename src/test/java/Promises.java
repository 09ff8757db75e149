/** Each promise of the document: ordinary calls, the edges that it names, wrong numbers. */
public final class Promises {
    private static final int NONE = -1;
    private static final int RANGE = -2;
    private static final int FULL = -3;
    private static final int HUGE = Integer.MAX_VALUE;
    private static final int TINY = Integer.MIN_VALUE;

    private static MetreDesk x;

    private Promises() {
    }

    public static void main(String[] args) {
        newObject();
        feedAndEnd();
        vowel();
        pair();
        word();
        unword();
        foot();
        form();
        cutAndLicence();
        line();
        lineFaults();
        firstFault();
        syllable();
        rules();
        keptAsItCame();
        scan();
        marksAndDigits();
        freeFeet();
        cutsOfForms();
        splitFeet();
        lost();
        melted();
        struckAndTurned();
        extra();
        best();
        layAndOrder();
        layTooMany();
        near();
        nearCuts();
        tell();
        check();
        keepAndDrop();
        rhyme();
        rhymeAcrossWords();
        scheme();
        place();
        judge();
        judgeFaults();
        judgeAgain();
        judgeAgainOtherwise();
        judgeLeavesOut();
        fits();
        fitsTooLong();
        learn();
        count();
        Check.finish("Promises");
    }

    private static void due(String what, int got, int due) {
        Check.due(what, got, due);
    }

    private static void fresh() {
        x = new MetreDesk();
    }

    private static int line(String text) {
        return Check.line(x, text);
    }

    private static int word(String text) {
        return Check.word(x, text);
    }

    private static void parted(String text, String due) {
        line(text);
        Check.same("parting of " + text, Check.parted(x), due);
    }

    private static void readingsOf(int f, String... due) {
        due("lay", x.lay(f), due.length);
        for (int r = 0; r < due.length; r++) {
            Check.same("reading " + r, Check.reading(x, r), due[r]);
        }
        due("one more reading", x.reading(due.length, 0), NONE);
        due("scan", x.scan(f), due.length);
    }

    // promise 1
    private static void newObject() {
        fresh();
        int[] due = {5, 0, 0, NONE, NONE, 0, 0, 0, 0, NONE, -1, -1, -1, -1, -1, NONE};
        for (int what = 0; what < due.length; what++) {
            due("count " + what, x.count(what), due[what]);
        }
        due("scan", x.scan(0), RANGE);
        due("fault", x.fault(0), 0);
        due("fault's place", x.fault(1), NONE);
        due("reading", x.reading(0, 0), NONE);
        due("step", x.step(0, 0, 0), NONE);
        due("judged", x.judged(0), NONE);
        due("fit", x.fit(0, 0), NONE);
        due("keep", x.keep(0), RANGE);
        due("rhyme", x.rhyme(0, 0), NONE);
        due("learn", x.learn(0), RANGE);
        due("syllable", x.syllable(0, 0), NONE);
    }

    // promises 2, 3
    private static void feedAndEnd() {
        fresh();
        due("end of none", x.end(0), 0);
        due("end of too many", x.end(1), NONE);
        for (int n = 20; n <= 240; n += 20) {
            due("feed", x.feed(0x61626364, 0x20202020, 0x20202020, 0x20202020, 0x206f6120), n);
        }
        due("feed too much", x.feed(0, 0, 0, 0, 0), FULL);
        due("tape after it", x.count(8), 240);
        due("end below 0", x.end(-1), NONE);
        due("end beyond", x.end(241), NONE);
        due("end all", x.end(240), 240);
        due("end 221", x.end(221), 221);
        due("feed too much by one", x.feed(0, 0, 0, 0, 0), FULL);
        due("end 220", x.end(220), 220);
        due("feed fits", x.feed(0, 0, 0, 0, 0), 240);
        due("end 20", x.end(20), 20);
        due("end 21 has gone", x.end(21), NONE);
        due("line", x.line(), 3);
        due("first letter", x.syllable(0, 10), 'a');
        due("last letter", x.syllable(2, 10), 'a');
        due("tape is read", x.count(8), 0);
        Check.tape(x, "\u00ffa");
        due("a high byte", x.line(), NONE);
        due("its fault", x.fault(0), 1);
    }

    // promise 4
    private static void vowel() {
        fresh();
        due("y on", x.vowel(24, true), 6);
        due("y on again", x.vowel(24, true), 6);
        due("z on", x.vowel(25, true), 7);
        due("a off", x.vowel(0, false), 6);
        due("a off again", x.vowel(0, false), 6);
        due("below", x.vowel(-1, true), RANGE);
        due("beyond", x.vowel(26, false), RANGE);
        due("tiny", x.vowel(TINY, false), RANGE);
        due("count", x.count(0), 6);
        parted("yby", "y-by-");
        due("no vowel now", line("bat"), NONE);
        due("fault", x.fault(0), 3);
    }

    // promise 5
    private static void pair() {
        fresh();
        due("ae", x.pair(0, 4, 1), 1);
        due("ae again", x.pair(0, 4, 2), 1);
        due("none of ab", x.pair(0, 1, 0), 1);
        due("ae off", x.pair(0, 4, 0), 0);
        due("a below", x.pair(-1, 0, 1), RANGE);
        due("a beyond", x.pair(26, 0, 1), RANGE);
        due("b below", x.pair(0, -1, 1), RANGE);
        due("b beyond", x.pair(0, 26, 1), RANGE);
        due("sort below", x.pair(0, 0, -1), RANGE);
        due("sort beyond", x.pair(0, 0, 3), RANGE);
        for (int i = 0; i < 12; i++) {
            due("pair " + i, x.pair(25, 25 - i, 1 + i % 2), i + 1);
        }
        due("the 13th", x.pair(0, 4, 1), FULL);
        due("a 13th that goes", x.pair(0, 4, 0), 12);
        due("one of the 12", x.pair(25, 25, 2), 12);
        due("out of range rather than full", x.pair(0, 4, 3), RANGE);
        due("one goes", x.pair(25, 25, 0), 11);
        due("room again", x.pair(0, 4, 1), 12);
        due("count", x.count(1), 12);
    }

    // promise 6
    private static void word() {
        fresh();
        due("two", word("ro+ma*"), 2);
        due("tape is read", x.count(8), 0);
        due("told anew", word("rom-a+"), 2);
        due("count", x.count(2), 1);
        parted("roma", "rom-a+");
        due("nothing", word(""), NONE);
        due("no mark at the end", word("ro+ma"), NONE);
        due("no letters", word("+"), NONE);
        due("no letters in one", word("ro++"), NONE);
        due("no vowel", word("r+"), NONE);
        due("two vowels", word("roa+"), NONE);
        due("a capital", word("Ro+"), NONE);
        due("a blank", word("ro+ "), NONE);
        due("16 letters", word("abcdefgh+ijklmn*pq-"), NONE);
        due("17 letters", word("bbbbbbba+bbbbbbba*a-"), NONE);
        due("just 16 letters", word("bbbbbbba+bbbbbbba*"), 2);
        due("16 syllables", word("a-e-i-o-u-a-e-i-o-u-a-e-i-o-u-a-"), 16);
        x.pair(0, 4, 1);
        due("a pair is one vowel", word("ae+"), 1);
        x.pair(0, 4, 2);
        due("a pair that is none", word("aeo+"), 1);
        x.pair(0, 4, 0);
        due("by its own letters", word("a+e-"), 2);
        due("words", x.count(2), 5);
        fresh();
        String consonants = "bcdfghjklmnpqrstvwxz";
        for (int i = 0; i < 40; i++) {
            due("word " + i, word(consonants.charAt(i / 2) + (i % 2 == 0 ? "o+" : "u+")), 1);
        }
        due("forty", x.count(2), 40);
        due("the 41st", word("zzo+"), FULL);
        due("tape is read", x.count(8), 0);
        due("not so, rather than full", word("zz+"), NONE);
        due("one of forty", word("bo-"), 1);
        due("still forty", x.count(2), 40);
        parted("bo zo zzo", "bo- zo+ zzo-");
    }

    // promise 7
    private static void unword() {
        fresh();
        word("ro+ma*");
        word("a+");
        due("not there", Check.unword(x, "rom"), NONE);
        due("tape is read", x.count(8), 0);
        due("longer", Check.unword(x, "romaa"), NONE);
        due("with marks", Check.unword(x, "ro+ma*"), NONE);
        due("nothing", Check.unword(x, ""), NONE);
        due("it goes", Check.unword(x, "roma"), 1);
        due("it has gone", Check.unword(x, "roma"), NONE);
        parted("roma a", "ro-ma- a+");
        due("the last goes", Check.unword(x, "a"), 0);
    }

    // promise 8
    private static void foot() {
        fresh();
        due("four places", x.foot(0, 0, 1233, 0, 0), 4);
        due("one place", x.foot(11, 0, 3, 0, 0), 1);
        due("open", x.foot(1, 1, 4444, 0, 0), 4);
        due("closing", x.foot(1, 2, 14, 0, 0), 2);
        due("split", x.foot(1, 3, 144, 2, 0), 3);
        due("free", x.foot(1, 4, 3, 0, 3), 3);
        due("free without light ones", x.foot(1, 4, 1, 0, 0), 1);
        int[][] wrong = {{-1, 0, 1, 0, 0}, {12, 0, 1, 0, 0}, {0, -1, 1, 0, 0}, {0, 5, 1, 0, 0}, {0, 0, 0, 0, 0},
            {0, 0, -12, 0, 0}, {0, 0, 4, 0, 0}, {0, 0, 15, 0, 0}, {0, 1, 102, 0, 0}, {0, 1, 11111, 0, 0},
            {0, 0, HUGE, 0, 0}, {0, 0, 12, 1, 0}, {0, 1, 12, 0, 1}, {0, 2, 12, -1, 0}, {0, 3, 12, 0, 0},
            {0, 3, 12, 2, 0}, {0, 3, 1, 1, 0}, {0, 3, 12, 1, 1}, {0, 4, 0, 0, 0}, {0, 4, 4, 0, 0}, {0, 4, 1, -1, 0},
            {0, 4, 1, 0, 4}, {0, 4, 1, 2, 1}, {0, 4, 1, 4, 4}, {0, 3, 12, TINY, 0}, {0, 1, 1235, 0, 0}};
        for (int[] w : wrong) {
            due("foot " + java.util.Arrays.toString(w), x.foot(w[0], w[1], w[2], w[3], w[4]), RANGE);
        }
        x.form(0, 0, 1);
        line("ab a a a");
        due("foot 0 stands", x.scan(0), 1);
        x.foot(0, 0, 1, 0, 0);
        due("told anew", x.scan(0), 0);
    }

    // promise 9
    private static void form() {
        fresh();
        due("not the first", x.form(0, 1, 1), RANGE);
        due("first", x.form(0, 0, 1), 1);
        due("anew", x.form(0, 0, 4095), 1);
        due("set 0", x.form(0, 1, 0), RANGE);
        due("set beyond", x.form(0, 1, 4096), RANGE);
        due("set below", x.form(0, 1, -1), RANGE);
        due("i below", x.form(0, -1, 1), RANGE);
        due("i beyond", x.form(0, 2, 1), RANGE);
        due("f below", x.form(-1, 0, 1), RANGE);
        due("f beyond", x.form(8, 0, 1), RANGE);
        for (int i = 1; i < 8; i++) {
            due("position " + i, x.form(0, i, 1), i + 1);
        }
        due("the ninth", x.form(0, 8, 1), RANGE);
        due("one that is there", x.form(0, 3, 2), 8);
        due("form 7", x.form(7, 0, 1), 1);
    }

    // promises 10, 11
    private static void cutAndLicence() {
        fresh();
        x.form(1, 0, 1);
        due("cut", x.cut(1, 255), 0);
        due("cut anew", x.cut(1, 3), 255);
        due("cut below", x.cut(1, -1), RANGE);
        due("cut beyond", x.cut(1, 256), RANGE);
        due("cut of none", x.cut(8, 0), RANGE);
        due("cut of none", x.cut(-1, 0), RANGE);
        due("cut stays", x.cut(1, 0), 3);
        due("licence", x.licence(0, 50), -1);
        due("licence", x.licence(0, 0), 50);
        due("not let", x.licence(0, -1), 0);
        due("price beyond", x.licence(0, 51), RANGE);
        due("price below", x.licence(0, -2), RANGE);
        due("licence below", x.licence(-1, 1), RANGE);
        due("licence beyond", x.licence(5, 1), RANGE);
        due("licence 4", x.licence(4, 7), -1);
        due("licence stays", x.count(14), 7);
    }

    // promise 12
    private static void line() {
        fresh();
        due("syllables", line("arma virumque cano"), 2 + 4 + 2);
        Check.same("virumque", Check.parted(x), "ar+ma- vi-rum+qu-e- ca-no-");
        due("tape is read", x.count(8), 0);
        due("words", x.count(3), 3);
        due("blanks ahead, between, behind", line("  a   ab "), 2);
        due("twelve words", line("a a a a a a a a a a a a"), 12);
        due("forty syllables", line("aeioaeioaeioaeio aeioaeioaeioaeio aeioaeio"), 40);
        due("16 letters", line("bbbbbbbbbbbbbbba"), 1);
    }

    // promises 12, 13
    private static void lineFaults() {
        fresh();
        line("ab a");
        String[] texts = {"ab c#d", "ab ce#d", "ab A", "a bbbbbbbbbbbbbbbba", "a bcd a",
            "a a a a a a a a a a a a ba", "aeioaeioaeioaeio aeioaeioaeioaeio aeioaeioa a", "", "   ", "b+", "ba+",
            " a\u00e1"};
        int[] sorts = {3, 1, 1, 2, 3, 4, 4, 5, 5, 3, 1, 1};
        int[] places = {3, 5, 3, 2, 2, 24, 34, 0, 3, 0, 2, 2};
        for (int i = 0; i < texts.length; i++) {
            due("line " + texts[i], line(texts[i]), NONE);
            due("fault of " + texts[i], x.fault(0), sorts[i]);
            due("place of " + texts[i], x.fault(1), places[i]);
            due("tape is read", x.count(8), 0);
        }
        due("another what", x.fault(2), NONE);
        due("another what", x.fault(-1), NONE);
        Check.same("the line stays", Check.parted(x), "ab+ a-");
        line("a");
        due("no fault", x.fault(0), 0);
        due("no place", x.fault(1), NONE);
    }

    // promises 12, 13: of several faults the one whose place comes first from the left
    private static void firstFault() {
        fresh();
        due("twenty bytes", x.feed(1927065427, 0, 0, 0, 0), 20);
        due("line", x.line(), NONE);
        due("a word without a vowel ahead of a bad byte", x.fault(0), 3);
        due("its place", x.fault(1), 0);
        String twelve = "a a a a a a a a a a a a ";
        String many = "aeioaeioaeioaeio aeioaeioaeioaeio aeioaeioa";
        String[] texts = {"#r", "a#r", "bc#", "a bc\u0000d", "abbbbbbbbbbbbbbbb#", "abbbbbbbbbbbbbbb#",
            "a# abbbbbbbbbbbbbbbb", "bc abbbbbbbbbbbbbbbb", "abbbbbbbbbbbbbbbb bc", twelve + "ba#", twelve + "#ba",
            many + "#", "bc " + many, "a # bc", "#", "a##"};
        int[] sorts = {1, 1, 3, 3, 2, 1, 1, 3, 2, 4, 1, 4, 3, 1, 1, 1};
        int[] places = {0, 1, 0, 2, 0, 16, 1, 0, 0, 24, 24, 34, 0, 2, 0, 1};
        for (int i = 0; i < texts.length; i++) {
            due("line " + texts[i], line(texts[i]), NONE);
            due("first fault of " + texts[i], x.fault(0), sorts[i]);
            due("first place of " + texts[i], x.fault(1), places[i]);
        }
        due("there is no line yet", x.count(3), NONE);
        word("ro+ma*");
        due("a word of the book, then a bad byte", line("roma#"), NONE);
        due("its fault", x.fault(0), 1);
        due("its place", x.fault(1), 4);
    }

    // promise 14
    private static void syllable() {
        fresh();
        word("ro+ma*");
        line("a roma bat");
        int[][] due = {{0, 2, 1, 0, NONE, 'a', NONE}, {1, 1, 2, 1, NONE, 'r', 'o'}, {1, 3, 2, 1, NONE, 'm', 'a'},
            {2, 1, 3, 0, NONE, 'b', 'a'}};
        int[] whats = {0, 1, 2, 3, 4, 10, 11};
        for (int i = 0; i < due.length; i++) {
            for (int w = 0; w < whats.length; w++) {
                due("syllable " + i + " " + whats[w], x.syllable(i, whats[w]), due[i][w]);
            }
        }
        due("third letter", x.syllable(3, 12), 't');
        due("fourth letter", x.syllable(3, 13), NONE);
        for (int what : new int[] {-1, 5, 9, HUGE, TINY}) {
            due("what " + what, x.syllable(0, what), NONE);
        }
        due("i below", x.syllable(-1, 0), NONE);
        due("i beyond", x.syllable(4, 0), NONE);
    }

    // I. SOUNDS
    private static void rules() {
        fresh();
        parted("a", "a-");
        parted("strata", "stra-ta-");
        parted("astra", "ast+ra-");
        parted("aia", "a-i-a-");
        parted("rosts", "rosts+");
        parted("abcda", "abc+da-");
        x.pair(0, 4, 1);
        parted("rosae", "ro-sae+");
        parted("aea", "ae+a-");
        parted("aaea", "a-ae+a-");
        x.pair(16, 20, 2);
        parted("aqua", "a-qua-");
        x.pair(2, 7, 2);
        parted("ache", "a-che-");
        parted("achtha", "acht+ha-");
        x.pair(18, 18, 2);
        parted("asssa", "ass+sa-");
        parted("assa", "a-ssa-");
        x.pair(0, 4, 2);
        due("a pair that is no vowel", line("bae"), NONE);
        parted("aeo", "aeo-");
    }

    // I. SOUNDS: the line stays as it came, and so do the lines of the poem
    private static void keptAsItCame() {
        fresh();
        x.licence(0, 0);
        x.foot(0, 0, 333, 0, 0);
        x.form(0, 0, 1);
        word("ce+bo-");
        line("cebo ita");
        x.vowel(8, false);
        x.vowel(14, false);
        Check.unword(x, "cebo");
        line("#");
        Check.same("the line", Check.parted(x), "ce+bo- i-ta-");
        due("is of the book still", x.syllable(0, 3), 1);
        due("its sounds", x.scan(0), 1);
        due("the letters have none", line("ti"), NONE);
        fresh();
        Check.keep(x, 0, "bota");
        x.vowel(0, false);
        Check.keep(x, 1, "bota");
        Check.same("parted now", Check.parted(x), "bota+");
        x.vowel(0, true);
        due("the poem's sounds", x.rhyme(0, 1), 1);
        Check.keep(x, 1, "bota");
        due("kept anew", x.rhyme(0, 1), 3);
        fresh();
        x.vowel(24, true);
        word("ba+by-");
        word("by+");
        x.vowel(24, false);
        due("a syllable without a vowel any more", line("baby"), 2);
        Check.same("by the book", Check.parted(x), "ba+by-");
        x.keep(0);
        due("a word of the book without a vowel any more", line("by"), 1);
        x.keep(1);
        Check.keep(x, 2, "obyt");
        due("from its first sound on", x.rhyme(1, 1), 3);
        due("eye alone", x.rhyme(0, 1), 1);
        due("none", x.rhyme(1, 2), 0);
    }

    // promise 15
    private static void scan() {
        fresh();
        x.foot(0, 0, 12, 0, 0);
        x.foot(1, 1, 14, 0, 0);
        x.form(0, 0, 1);
        due("no line", x.scan(0), RANGE);
        line("ab a");
        due("one", x.scan(0), 1);
        due("no form", x.scan(1), RANGE);
        due("below", x.scan(-1), RANGE);
        due("beyond", x.scan(8), RANGE);
        x.form(0, 0, 6);
        due("a foot that there is none", x.scan(0), 0);
        line("ab a e");
        due("two light ones", x.scan(0), 1);
        due("heavy", x.form(0, 0, 4), 1);
        due("none", x.scan(0), 0);
        fresh();
        for (int l = 0; l < 5; l++) {
            x.licence(l, 1);
        }
        for (int k = 0; k < 12; k++) {
            x.foot(k, 4, 3, 0, 3);
        }
        for (int i = 0; i < 7; i++) {
            x.form(0, i, 4095);
        }
        line("aeioaeioaeio aeioaeioaeio aeioaeioaeio");
        due("so many or more", x.scan(0), 1000000000);
        for (int k = 0; k < 12; k++) {
            x.foot(k, 0, 3333, 0, 0);
        }
        line("aeioaeioaeio aeioaeioaeio aeio");
        x.licence(0, -1);
        x.licence(1, -1);
        x.licence(4, -1);
        due("12 to the 7th", x.scan(0), 35831808);
    }

    // II. FEET
    private static void marksAndDigits() {
        fresh();
        word("bo*");
        x.foot(0, 0, 1, 0, 0);
        x.foot(1, 0, 2, 0, 0);
        x.foot(2, 0, 3, 0, 0);
        x.foot(3, 1, 4, 0, 0);
        x.foot(4, 2, 1, 0, 0);
        x.foot(5, 2, 4, 0, 0);
        x.form(0, 0, 63);
        line("ab");
        readingsOf(0, "0: 000001", "0: 000201", "0: 000301", "0: 000401", "0: 000501");
        line("a");
        readingsOf(0, "0: 000102", "0: 000202", "0: 000402", "0: 000502");
        line("bo");
        readingsOf(0, "0: 000001", "0: 000102", "0: 000201", "0: 000301", "0: 000401", "0: 000501");
        line("bo bo");
        readingsOf(0, "0: 000302 100302");
        x.form(0, 1, 63);
        line("bo a");
        readingsOf(0, "0: 000001 101102", "0: 000001 101202", "0: 000001 101402", "0: 000001 101502",
            "0: 000102 101102", "0: 000102 101202", "0: 000102 101402", "0: 000102 101502",
            "0: 000201 101102", "0: 000201 101202", "0: 000201 101402", "0: 000201 101502",
            "0: 000301 101102", "0: 000301 101202", "0: 000301 101402", "0: 000301 101502");
        x.form(1, 0, 48);
        x.form(1, 1, 1);
        line("ab ab");
        due("closing ones in the last position alone", x.scan(1), 0);
        x.form(1, 0, 1);
        x.form(1, 1, 48);
        due("closing ones there", x.scan(1), 2);
        x.form(1, 2, 1);
        due("which is no more the last", x.near(1), NONE);
    }

    // II. FEET: FREE
    private static void freeFeet() {
        fresh();
        x.foot(0, 4, 2, 1, 2);
        x.form(0, 0, 1);
        line("ab a ab a");
        readingsOf(0, "0: 000001 100002 200011 300012");
        line("ab a a ab a a");
        readingsOf(0, "0: 000001 100002 200002 300011 400012 500012");
        line("ab a a a ab a");
        due("three light ones", x.scan(0), 0);
        line("ab ab a");
        due("too few", x.scan(0), 0);
        line("a ab a");
        due("ahead of the strike", x.scan(0), 0);
        x.foot(0, 4, 1, 0, 3);
        x.form(0, 1, 1);
        word("bo*");
        line("ab bo bo bo ab");
        due("ends behind any", x.scan(0), 1);
        line("ab bo bo bo");
        readingsOf(0, "0: 000001 100002 200002 301001", "0: 000001 100002 201001 301002",
            "0: 000001 101001 201002 301002");
        x.cut(0, 1);
        word("co*bo*");
        line("ab cobo bo");
        readingsOf(0, "0: 000001 100002 200002 301001", "0: 000001 101001 201002 301002");
    }

    // II: cuts of a form
    private static void cutsOfForms() {
        fresh();
        x.foot(0, 0, 33, 0, 0);
        x.form(0, 0, 1);
        x.form(0, 1, 1);
        line("aba bab a");
        x.cut(0, 1);
        due("a word ends there", x.scan(0), 1);
        line("aba baba");
        due("here too", x.scan(0), 1);
        line("a baba a");
        due("none ends there", x.scan(0), 0);
        x.cut(0, 2);
        due("behind the last one", x.scan(0), 1);
        x.cut(0, 252);
        due("behind none that is there", x.scan(0), 1);
        x.cut(0, 3);
        x.licence(0, 5);
        line("abaa ob o");
        due("its last but a lost one", x.scan(0), 1);
        readingsOf(0, "5: 000002 100012 24.... 301001 401012");
        x.licence(4, 2);
        x.cut(0, 2);
        line("ab ab ab abe");
        due("extra in a word", x.scan(0), 0);
        line("ab ab ab ab e");
        due("extra behind a word", x.scan(0), 1);
        x.cut(0, 0);
        line("ab ab ab abe");
        due("no cut is asked", x.scan(0), 1);
    }

    // II. FEET: SPLIT
    private static void splitFeet() {
        fresh();
        x.foot(0, 3, 343, 2, 0);
        x.form(0, 0, 1);
        line("ab abab");
        due("a word ends behind place 1", x.scan(0), 0);
        line("abab ab");
        due("behind place 2", x.scan(0), 1);
        line("ab a a ab");
        readingsOf(0, "0: 000001 100012 200012 300021");
        line("abaa ab");
        due("behind the second of two", x.scan(0), 1);
        line("aba aab");
        due("behind the first of two", x.scan(0), 0);
        x.foot(0, 3, 333, 2, 0);
        line("ababa ab");
        due("no word ends behind place 2", x.scan(0), 0);
        x.licence(0, 1);
        readingsOf(0, "1: 000002 100012 24.... 300021");
        x.foot(0, 3, 333, 1, 0);
        due("but behind place 2 alone", x.scan(0), 0);
    }

    // licence 0
    private static void lost() {
        fresh();
        x.foot(0, 0, 33, 0, 0);
        x.form(0, 0, 1);
        line("aba ab");
        due("not let", x.scan(0), 0);
        x.licence(0, 9);
        readingsOf(0, "9: 000002 14.... 200011");
        line("aba ba");
        due("ahead of no vowel", x.scan(0), 0);
        line("abab ab");
        due("ending with no vowel", x.scan(0), 0);
        line("ba a ab");
        due("the only one", x.scan(0), 0);
        line("ab aba");
        due("the line's last", x.scan(0), 0);
        line("aba eba ab");
        x.foot(0, 0, 333, 0, 0);
        readingsOf(0, "18: 000002 14.... 200012 34.... 400021");
        x.pair(0, 1, 2);
        line("aba eba eb");
        due("by sounds", x.scan(0), 1);
        line("eba eba abo");
        Check.same("parted", Check.parted(x), "e-ba- e-ba- abo-");
        due("ahead of a pair that is no vowel", x.scan(0), 0);
    }

    // licence 1
    private static void melted() {
        fresh();
        x.foot(0, 0, 11, 0, 0);
        x.form(0, 0, 1);
        line("mia ab");
        due("not let", x.scan(0), 0);
        x.licence(1, 9);
        readingsOf(0, "9: 030001 200011");
        line("ab mia");
        readingsOf(0, "9: 000001 130011");
        line("ma ab ab");
        due("of two words", x.scan(0), 0);
        line("mita ab");
        due("not with its vowel", x.scan(0), 0);
        x.foot(0, 0, 12, 0, 0);
        line("ab mia");
        due("it is heavy", x.scan(0), 0);
        x.foot(0, 2, 12, 0, 0);
        readingsOf(0, "9: 000001 130011");
        x.foot(0, 0, 13, 0, 0);
        readingsOf(0, "9: 000001 130011");
        x.foot(0, 1, 14, 0, 0);
        line("ab mia");
        readingsOf(0, "0: 000001 100012 200012", "9: 000001 130011");
        x.foot(0, 4, 1, 0, 3);
        line("mia a");
        readingsOf(0, "9: 030001 200002");
        x.foot(0, 3, 13, 1, 0);
        line("mia a");
        readingsOf(0, "9: 030001 200012");
        line("aia a");
        due("behind the second of the melted", x.scan(0), 0);
    }

    // licences 2, 3
    private static void struckAndTurned() {
        fresh();
        x.foot(0, 0, 12, 0, 0);
        x.foot(1, 0, 33, 0, 0);
        x.foot(2, 1, 43, 0, 0);
        x.form(0, 0, 1);
        x.form(1, 0, 2);
        x.form(2, 0, 4);
        word("bo*");
        line("a a");
        due("not let", x.scan(0), 0);
        x.licence(2, 4);
        readingsOf(0, "4: 010001 100012");
        readingsOf(1, "0: 000102 100112");
        readingsOf(2, "4: 010201 100212");
        line("bo a");
        readingsOf(0, "0: 000001 100012");
        line("ab ab");
        due("heavy is not light", x.scan(0), 0);
        x.licence(3, 6);
        due("turned is the first alone", x.scan(0), 0);
        x.foot(0, 0, 21, 0, 0);
        readingsOf(0, "6: 020002 100011");
        readingsOf(1, "0: 000101 100111");
        line("ab a ab");
        readingsOf(2, "6: 020202 100202 200211");
        line("bo ab");
        readingsOf(0, "0: 000002 100011");
        x.foot(0, 2, 22, 0, 0);
        line("ab ab");
        readingsOf(0, "6: 020002 100011");
        x.foot(0, 2, 2, 0, 0);
        line("ab");
        readingsOf(0, "0: 000001");
    }

    // licence 4
    private static void extra() {
        fresh();
        x.foot(0, 0, 3, 0, 0);
        x.form(0, 0, 1);
        word("bo*");
        line("ab a");
        due("not let", x.scan(0), 0);
        x.licence(4, 3);
        readingsOf(0, "3: 000001 15....");
        line("aba");
        readingsOf(0, "3: 000002 15....");
        line("a bo");
        readingsOf(0, "3: 000002 15....");
        line("a ab");
        due("heavy", x.scan(0), 0);
        line("a a a");
        due("one alone", x.scan(0), 0);
        line("a");
        readingsOf(0, "0: 000002");
        x.foot(1, 0, 1, 0, 0);
        x.form(0, 0, 2);
        due("the line has no other one", x.scan(0), 0);
        x.licence(0, 1);
        line("aba a");
        x.foot(1, 0, 2, 0, 0);
        readingsOf(0, "4: 000102 14.... 25....");
    }

    // promise 16
    private static void best() {
        fresh();
        x.foot(0, 0, 11, 0, 0);
        x.form(0, 0, 1);
        due("no line", x.best(0), RANGE);
        line("a a");
        due("none", x.best(0), NONE);
        due("no form", x.best(1), RANGE);
        due("below", x.best(-1), RANGE);
        x.licence(2, 0);
        due("for nothing", x.best(0), 0);
        x.licence(2, 50);
        due("the sum", x.best(0), 100);
        x.foot(1, 0, 12, 0, 0);
        x.form(0, 0, 3);
        due("the cheapest", x.best(0), 50);
    }

    // promises 17, 18, 19
    private static void layAndOrder() {
        fresh();
        x.foot(0, 0, 12, 0, 0);
        x.foot(1, 1, 14, 0, 0);
        x.foot(2, 0, 13, 0, 0);
        x.form(0, 0, 7);
        due("no line", x.lay(0), RANGE);
        x.licence(2, 0);
        x.licence(1, 0);
        line("mia");
        due("no form", x.lay(1), RANGE);
        due("beyond", x.lay(8), RANGE);
        readingsOf(0, "0: 010001 100012", "0: 010101 110111", "0: 010201 100212");
        x.licence(2, 2);
        readingsOf(0, "2: 010001 100012", "2: 010201 100212", "4: 010101 110111");
        due("a range stays", x.lay(1), RANGE);
        Check.same("what was laid stays", Check.reading(x, 2), "4: 010101 110111");
        line("ab ab ab");
        Check.same("what was laid stays", Check.reading(x, 0), "2: 010001 100012");
        due("steps", x.reading(0, 1), 2);
        int[][] none = {{-1, 0}, {3, 0}, {0, 2}, {0, -1}, {HUGE, 1}};
        for (int[] n : none) {
            due("reading " + n[0] + " " + n[1], x.reading(n[0], n[1]), NONE);
        }
        due("step below", x.step(0, -1, 0), NONE);
        due("step beyond", x.step(0, 2, 0), NONE);
        due("what below", x.step(0, 0, -1), NONE);
        due("what beyond", x.step(0, 0, 6), NONE);
        due("reading below", x.step(-1, 0, 0), NONE);
        due("reading beyond", x.step(3, 0, 0), NONE);
        due("none", x.lay(0), 0);
        due("none is there", x.reading(0, 0), NONE);
        fresh();
        x.licence(0, 0);
        x.licence(1, 0);
        x.licence(2, 0);
        x.licence(3, 0);
        x.licence(4, 0);
        x.foot(0, 4, 1, 0, 1);
        x.foot(1, 0, 3, 0, 0);
        x.form(0, 0, 3);
        x.form(0, 1, 3);
        line("bae a");
        readingsOf(0, "0: 000102 101102 25....", "0: 000102 111001 201002", "0: 000102 111001 25....",
            "0: 000102 14.... 201102", "0: 000102 14.... 211001", "0: 010001 100002 201102",
            "0: 010001 100002 211001", "0: 010001 101102 25....", "0: 010001 111001 201002",
            "0: 010001 111001 25....", "0: 010001 14.... 201102", "0: 010001 14.... 211001",
            "0: 030001 201102", "0: 030001 211001", "0: 030101 201102", "0: 030101 211001");
    }

    // promise 17
    private static void layTooMany() {
        fresh();
        for (int k = 0; k < 12; k++) {
            x.foot(k, 0, 3, 0, 0);
        }
        x.form(0, 0, 4095);
        x.form(0, 1, 4095);
        line("a a");
        due("144", x.lay(0), 144);
        Check.same("the first", Check.reading(x, 0), "0: 000002 101002");
        Check.same("the last", Check.reading(x, 143), "0: 0001102 1011102");
        x.form(1, 0, 1023);
        x.form(1, 1, 1023);
        x.form(1, 2, 3);
        line("a a a");
        due("200", x.lay(1), 200);
        due("the last of 200", x.reading(199, 1), 3);
        due("one beyond", x.reading(200, 1), NONE);
        x.form(1, 2, 7);
        due("300", x.lay(1), FULL);
        due("none is then", x.reading(0, 0), NONE);
        due("none is then", x.step(0, 0, 0), NONE);
    }

    // promise 20
    private static void near() {
        fresh();
        x.foot(0, 0, 12, 0, 0);
        x.foot(1, 1, 14, 0, 0);
        x.foot(2, 4, 2, 1, 2);
        x.foot(3, 2, 121, 0, 0);
        for (int f = 0; f < 4; f++) {
            x.form(f, 0, 1 << f);
        }
        due("no line", x.near(0), RANGE);
        line("ab a");
        due("no form", x.near(4), RANGE);
        due("below", x.near(-1), RANGE);
        due("beyond", x.near(8), RANGE);
        due("none", x.near(0), 0);
        due("other mark", x.near(1), 1);
        due("put in", x.near(2), 2);
        due("put in", x.near(3), 1);
        line("a ab");
        due("two other marks or out and in", x.near(0), 2);
        line("ab a a");
        due("left out", x.near(0), 1);
        due("as it is", x.near(1), 0);
        word("bo*");
        line("bo bo");
        due("both", x.near(0), 0);
        line("ab a a");
        for (int l = 0; l < 5; l++) {
            x.licence(l, 0);
        }
        due("no licences", x.near(0), 1);
        x.form(4, 0, 1 << 7);
        due("no foot", x.near(4), NONE);
        for (int i = 0; i < 8; i++) {
            x.form(5, i, 1 << 2);
        }
        line("a");
        due("far", x.near(5), 8 * 4 - 1);
    }

    // III: cuts
    private static void nearCuts() {
        fresh();
        x.foot(0, 0, 3, 0, 0);
        x.form(0, 0, 1);
        x.form(0, 1, 1);
        x.cut(0, 1);
        line("aba");
        due("the first left out, one put in", x.near(0), 2);
        line("aba ba");
        due("a first one left out", x.near(0), 1);
        line("a aba");
        due("the last left out", x.near(0), 1);
        x.cut(0, 3);
        due("but a cut behind", x.near(0), 1);
        line("aba a");
        due("the first left out", x.near(0), 1);
        line("a");
        due("none ends behind what is put in", x.near(0), NONE);
        x.cut(0, 2);
        due("put in ahead", x.near(0), 1);
        x.cut(0, 1);
        due("put in behind", x.near(0), 1);
        x.foot(1, 3, 33, 1, 0);
        x.form(1, 0, 2);
        line("abab");
        due("a split one", x.near(1), 2);
        line("ab ab");
        due("a split one", x.near(1), 0);
    }

    // promise 21
    private static void tell() {
        fresh();
        for (int i = 1; i <= 40; i++) {
            due("tell", x.tell(HUGE, TINY, 0, 0, 0, -9), i);
        }
        due("41st", x.tell(0, 0, 0, 0, 0, 0), FULL);
        due("count", x.count(7), 40);
    }

    // promise 22
    private static void check() {
        fresh();
        x.foot(0, 0, 12, 0, 0);
        x.foot(1, 1, 14, 0, 0);
        x.form(0, 0, 3);
        x.form(0, 1, 3);
        x.licence(0, 3);
        due("no line", x.check(0), RANGE);
        line("ab abe ab a");
        due("no form", x.check(1), RANGE);
        due("empty", x.check(0), 0);
        x.tell(0, 0, 0, 0, 0, 1);
        due("a beginning", x.check(0), 1);
        line("ab a aba a");
        int[][] row = {{0, 0, 0, 0, 0, 1}, {1, 0, 0, 0, 1, 2}, {2, 1, 1, 0, 0, 1}, {3, 4, -1, -1, -1, -1},
            {4, 0, 1, 0, 1, 2}};
        due("no reading yet", x.scan(0), 0);
        x.licence(2, 1);
        due("readings", x.scan(0), 8);
        for (int n = 0; n <= 5; n++) {
            tellRow(row, n);
            due("told " + n, x.count(7), n);
            due("check of " + n, x.check(0), n == 5 ? NONE : n);
            due("empty then", x.count(7), 0);
        }
        for (int i = 0; i < 5; i++) {
            for (int part = 0; part < 6; part++) {
                row[i][part] += 20;
                tellRow(row, 5);
                due("wrong " + i + " " + part, x.check(0), i);
                row[i][part] -= 20;
            }
        }
        tellRow(row, 5);
        x.tell(5, 0, 1, 0, 1, 2);
        due("one more", x.check(0), 5);
        tellRow(row, 3);
        x.tell(3, 0, 1, 0, 1, 2);
        due("a step from which none goes on", x.check(0), 3);
        x.foot(0, 0, 111, 0, 0);
        x.foot(1, 0, 111, 0, 0);
        due("empty, always", x.check(0), 0);
        tellRow(row, 1);
        due("none begins so", x.check(0), 0);
        tellRow(row, 1);
        due("not held", x.check(3), RANGE);
    }

    private static void tellRow(int[][] row, int n) {
        for (int i = 0; i < n; i++) {
            x.tell(row[i][0], row[i][1], row[i][2], row[i][3], row[i][4], row[i][5]);
        }
    }

    // promises 23, 24
    private static void keepAndDrop() {
        fresh();
        due("without a line", x.keep(0), RANGE);
        line("ab");
        due("below", x.keep(-1), RANGE);
        due("beyond", x.keep(12), RANGE);
        due("keep 11", x.keep(11), 1);
        due("keep 3", x.keep(3), 2);
        line("a");
        due("anew", x.keep(3), 2);
        due("that one", x.rhyme(3, 11), 2);
        due("drop none", x.drop(0), NONE);
        due("drop below", x.drop(-1), RANGE);
        due("drop beyond", x.drop(12), RANGE);
        due("drop", x.drop(11), 1);
        due("drop again", x.drop(11), NONE);
        due("drop the last", x.drop(3), 0);
        due("count", x.count(5), 0);
    }

    // promise 25
    private static void rhyme() {
        fresh();
        String[] lines = {"amor", "timor", "tor a", "dona", "mona", "sola", "o", "ro", "nat", "oto", "a", "ba"};
        for (int k = 0; k < lines.length; k++) {
            Check.keep(x, k, lines[k]);
        }
        due("full", x.rhyme(0, 1), 3);
        due("itself", x.rhyme(5, 5), 3);
        due("from the last heavy one through all behind", x.rhyme(0, 2), 0);
        due("light ones: the last syllable", x.rhyme(3, 4), 3);
        due("light ones: the last syllable", x.rhyme(3, 5), 3);
        due("one letter", x.rhyme(6, 7), 3);
        due("half", x.rhyme(8, 3), 2);
        due("half the other way", x.rhyme(3, 8), 2);
        due("none", x.rhyme(8, 9), 0);
        due("below", x.rhyme(-1, 0), NONE);
        due("beyond", x.rhyme(0, 12), NONE);
        x.drop(0);
        due("not there", x.rhyme(0, 1), NONE);
        fresh();
        word("ta+to-");
        word("na*");
        Check.keep(x, 0, "tato");
        Check.keep(x, 1, "meto");
        due("eye", x.rhyme(0, 1), 1);
        Check.keep(x, 2, "te o");
        Check.keep(x, 3, "at o");
        due("eye of one letter", x.rhyme(2, 3), 1);
        Check.keep(x, 4, "eto");
        due("no eye of one letter and two", x.rhyme(3, 4), 0);
        Check.keep(x, 4, "na");
        Check.keep(x, 5, "la");
        due("both is not heavy", x.rhyme(4, 5), 3);
        Check.keep(x, 6, "bat na");
        Check.keep(x, 7, "sat na");
        Check.keep(x, 8, "sat la");
        due("by its own mark", x.rhyme(6, 7), 3);
        due("by its own mark", x.rhyme(6, 8), 2);
        x.pair(0, 4, 1);
        Check.keep(x, 0, "bae");
        x.pair(0, 4, 0);
        Check.keep(x, 1, "bat e");
        Check.keep(x, 2, "ba e");
        due("a pair is another sound", x.rhyme(0, 1), 0);
        due("a pair is another sound", x.rhyme(0, 2), 0);
        Check.keep(x, 3, "ta e");
        due("the same letters", x.rhyme(2, 3), 3);
    }

    // promise 25: an ending goes through words
    private static void rhymeAcrossWords() {
        fresh();
        Check.keep(x, 0, "bat a roma");
        Check.keep(x, 1, "na tar o ma");
        Check.keep(x, 2, "cat aro ma");
        due("the last words alone", x.rhyme(0, 1), 1);
        due("through words", x.rhyme(0, 2), 3);
    }

    // promise 26
    private static void scheme() {
        fresh();
        String[] lines = {null, "amor", "dona", "timor", null, "nat", "mona", "bat"};
        for (int k = 0; k < lines.length; k++) {
            if (lines[k] != null) {
                Check.keep(x, k, lines[k]);
            }
        }
        int[] due = {NONE, 0, 1, 0, NONE, 2, 1, 2, NONE};
        for (int k = 0; k < due.length; k++) {
            due("scheme " + k, x.scheme(k), due[k]);
        }
        due("below", x.scheme(-1), NONE);
        due("beyond", x.scheme(12), NONE);
        x.drop(1);
        due("from the first that is there", x.scheme(3), 1);
        due("from the first that is there", x.scheme(2), 0);
    }

    // promise 27
    private static void place() {
        fresh();
        x.form(0, 0, 1);
        due("not the first", x.place(1, 0, 0, -1, false), RANGE);
        due("the first", x.place(0, 0, 5, -1, true), 1);
        due("again itself", x.place(0, 0, 0, 0, false), RANGE);
        due("again an earlier one", x.place(1, 0, -1, 0, true), 2);
        int[][] wrong = {{-1, 0, 0, -1}, {3, 0, 0, -1}, {2, -1, 0, -1}, {2, 8, 0, -1}, {2, 0, -2, -1}, {2, 0, 6, -1},
            {2, 0, 0, -2}, {2, 0, 0, 2}, {1, 0, 0, 1}};
        for (int[] w : wrong) {
            due("place " + java.util.Arrays.toString(w), x.place(w[0], w[1], w[2], w[3], false), RANGE);
        }
        for (int i = 2; i < 6; i++) {
            due("may " + i, x.place(i, 0, 0, -1, true), i + 1);
        }
        due("the seventh that may be", x.place(6, 0, 0, -1, true), RANGE);
        due("one that may not", x.place(6, 0, 0, -1, false), 7);
        due("the seventh that may be", x.place(6, 0, 0, -1, true), RANGE);
        due("one of six anew", x.place(0, 0, 0, -1, true), 7);
        due("one of six no more", x.place(0, 0, 0, -1, false), 7);
        due("the sixth", x.place(6, 0, 0, -1, true), 7);
        for (int i = 7; i < 12; i++) {
            due("place " + i, x.place(i, 0, 0, i - 1, false), i + 1);
        }
        due("the 13th", x.place(12, 0, 0, -1, false), RANGE);
        due("count", x.count(6), 12);
    }

    private static void judgedIs(int faults, int price, int out, int... lines) {
        due("judge", x.judge(), faults);
        due("faults", x.judged(0), faults);
        due("price", x.judged(1), price);
        due("left out", x.judged(2), out);
        for (int i = 0; i < 12; i++) {
            due("line of place " + i, x.judged(10 + i), i < lines.length ? lines[i] : NONE);
        }
    }

    // promises 28, 29
    private static void judge() {
        fresh();
        due("without places", x.judge(), NONE);
        due("ahead of any", x.judged(0), NONE);
        x.foot(0, 0, 33, 0, 0);
        x.form(0, 0, 1);
        x.licence(4, 3);
        x.place(0, 0, 0, -1, false);
        x.place(1, 0, 0, -1, false);
        judgedIs(2, 0, 0);
        Check.keep(x, 4, "bat ab");
        judgedIs(1, 0, 0, 4, NONE);
        Check.keep(x, 9, "bo bato");
        judgedIs(1, 3, 0, 4, 9);
        Check.keep(x, 9, "ba tab");
        judgedIs(0, 0, 0, 4, 9);
        Check.keep(x, 11, "ba tab");
        judgedIs(1, 0, 0, 4, 9);
        due("another what", x.judged(3), NONE);
        due("another what", x.judged(9), NONE);
        due("another what", x.judged(-1), NONE);
        due("another what", x.judged(22), NONE);
        x.drop(4);
        x.drop(9);
        due("the latest judge stays", x.judged(10), 4);
    }

    // promise 28: the faults
    private static void judgeFaults() {
        fresh();
        x.foot(0, 0, 33, 0, 0);
        x.foot(1, 0, 11, 0, 0);
        x.form(0, 0, 1);
        x.form(1, 0, 2);
        Check.keep(x, 0, "bat ab");
        Check.keep(x, 1, "na na");
        Check.keep(x, 2, "cet ab");
        Check.keep(x, 3, "ba tab");
        x.place(0, 1, -1, -1, false);
        x.place(1, 1, -1, -1, false);
        x.place(2, 0, -1, -1, false);
        x.place(3, 0, -1, -1, false);
        judgedIs(1, 0, 0, 0, 1, 2, 3);
        x.place(0, 0, 1, -1, false);
        x.place(1, 0, 1, -1, false);
        x.place(2, 0, 1, -1, false);
        x.place(3, 0, 2, -1, false);
        judgedIs(1, 0, 0, 0, 1, 2, 3);
        x.place(1, 0, 0, -1, false);
        x.place(2, 0, 0, -1, false);
        x.place(3, 0, 0, -1, false);
        judgedIs(2, 0, 0, 0, 1, 2, 3);
        x.place(1, 0, -1, -1, false);
        x.place(2, 0, -1, 0, false);
        x.place(3, 0, -1, -1, false);
        judgedIs(1, 0, 0, 0, 1, 2, 3);
        Check.keep(x, 2, "bat ab");
        judgedIs(0, 0, 0, 0, 1, 2, 3);
        x.place(0, 0, -1, -1, true);
        x.place(4, 0, -1, -1, false);
        judgedIs(1, 0, 0, 0, 1, 2, 3, NONE);
        x.drop(1);
        Check.keep(x, 3, "bat ab");
        judgedIs(2, 0, 0, 0, 2, 3, NONE, NONE);
        x.form(2, 0, 1 << 11);
        x.place(0, 2, -1, -1, false);
        judgedIs(3, 0, 0, 0, 2, 3, NONE, NONE);
    }

    private static void againIs(int faults, String first, String second) {
        Check.keep(x, 0, first);
        Check.keep(x, 1, second);
        due(first + " ahead of " + second, x.judge(), faults);
        due("faults", x.judged(0), faults);
    }

    // promise 28: what is the same line
    private static void judgeAgain() {
        fresh();
        x.foot(0, 4, 1, 0, 3);
        x.foot(1, 4, 3, 0, 3);
        x.licence(2, 1);
        x.form(0, 0, 3);
        x.place(0, 0, -1, -1, false);
        x.place(1, 0, -1, 0, false);
        againIs(0, "a ba", "a ba");
        againIs(1, "a ba", "ab a");
        againIs(1, "ab a", "a ba");
        againIs(1, "a ba", "aba");
        againIs(1, "aba", "a ba");
        againIs(0, "a ba", "  a   ba ");
        againIs(1, "a ba", "a ba a");
        againIs(1, "a ba a", "a ba");
        againIs(1, "a ba", "a be");
        againIs(1, "a ba ba", "a ba aba");
        againIs(1, "a baa ba", "a ba aba");
        againIs(1, "aba a aba", "a baa aba");
        againIs(1, "ba ba ba", "ba bab a");
        againIs(0, "ba ba ba", "ba ba ba");
    }

    // promise 28: the same line, parted, marked or sounding otherwise
    private static void judgeAgainOtherwise() {
        fresh();
        x.foot(0, 4, 1, 0, 3);
        x.foot(1, 4, 3, 0, 3);
        x.licence(2, 1);
        x.form(0, 0, 3);
        x.place(0, 0, -1, -1, false);
        x.place(1, 0, -1, 0, false);
        Check.keep(x, 0, "oboe area");
        word("o-bo-e+");
        x.pair(4, 0, 1);
        Check.keep(x, 1, "oboe area");
        due("the same words", x.judge(), 0);
        x.vowel(4, false);
        Check.keep(x, 1, "oboe area");
        due("another vowel", x.judge(), 0);
        Check.unword(x, "oboe");
        word("ob+oe+");
        Check.keep(x, 1, "oboe  area");
        due("other syllables", x.judge(), 0);
        Check.keep(x, 1, "ob oe area");
        due("other words", x.judge(), 1);
    }

    // promise 28: what is left out
    private static void judgeLeavesOut() {
        fresh();
        x.foot(0, 0, 33, 0, 0);
        x.foot(1, 0, 11, 0, 0);
        x.form(0, 0, 1);
        x.form(1, 0, 2);
        x.licence(2, 7);
        x.place(0, 1, -1, -1, true);
        x.place(1, 0, -1, -1, true);
        x.place(2, 0, -1, -1, true);
        judgedIs(0, 0, 7, NONE, NONE, NONE);
        Check.keep(x, 5, "na na");
        judgedIs(0, 0, 3, NONE, NONE, 5);
        Check.keep(x, 6, "na na");
        judgedIs(0, 0, 1, NONE, 5, 6);
        x.place(0, 1, -1, -1, false);
        judgedIs(0, 14, 2, 5, NONE, 6);
        x.place(1, 0, -1, 0, true);
        x.place(2, 0, -1, 1, true);
        judgedIs(0, 14, 4, 5, 6, NONE);
        x.drop(6);
        judgedIs(0, 14, 6, 5, NONE, NONE);
        x.place(0, 0, 3, -1, true);
        x.place(1, 0, 3, -1, true);
        x.place(2, 0, 3, 0, false);
        Check.keep(x, 6, "na ne");
        judgedIs(2, 0, 0, 5, 6, NONE);
    }

    // promises 30, 31
    private static void fits() {
        fresh();
        x.foot(0, 0, 12, 0, 0);
        x.foot(1, 0, 11, 0, 0);
        x.form(0, 0, 1);
        due("no line", x.fits(0, 0, 50), RANGE);
        line("ab a");
        due("no words", x.fits(0, 0, 50), 0);
        word("to+");
        word("ta-");
        word("tab*");
        word("ta+to-");
        word("ab+");
        due("no form", x.fits(1, 0, 50), RANGE);
        due("word below", x.fits(0, -1, 50), RANGE);
        due("word beyond", x.fits(0, 2, 50), RANGE);
        due("fits", x.fits(0, 0, 0), 3);
        String[] found = {"ab", "tab", "to"};
        for (int i = 0; i < 3; i++) {
            due("syllables", x.fit(i, 0), 1);
            due("letters", x.fit(i, 1), found[i].length());
            for (int j = 0; j < found[i].length(); j++) {
                due("letter", x.fit(i, 10 + j), found[i].charAt(j));
            }
            due("no more letters", x.fit(i, 10 + found[i].length()), NONE);
        }
        due("one more", x.fit(3, 0), NONE);
        due("below", x.fit(-1, 0), NONE);
        due("another what", x.fit(0, 2), NONE);
        due("another what", x.fit(0, 9), NONE);
        due("another what", x.fit(0, -1), NONE);
        due("below any price", x.fits(0, 0, -1), 0);
        due("none is there", x.fit(0, 0), NONE);
        x.licence(2, 8);
        due("at no more than", x.fits(0, 0, 7), 3);
        due("at no more than", x.fits(0, 0, 8), 4);
        due("the last place", x.fits(0, 1, 0), 2);
        due("ta", x.fit(0, 11), 'a');
        due("the line stays", x.count(4), 2);
        line("ab");
        due("one of two syllables", x.fits(0, 0, 50), 1);
        due("its syllables", x.fit(0, 0), 2);
        x.vowel(0, false);
        due("by the language now", x.fits(0, 0, 50), 1);
        due("a range", x.fits(0, 1, 50), RANGE);
        due("stays", x.fit(0, 1), 4);
        Check.unword(x, "tato");
        due("stays", x.fit(0, 10), 't');
    }

    // promise 30: 40 syllables at most
    private static void fitsTooLong() {
        fresh();
        x.foot(0, 4, 3, 3, 3);
        x.foot(1, 4, 2, 3, 3);
        x.licence(2, 0);
        x.form(0, 0, 1);
        x.form(0, 1, 1);
        x.form(0, 2, 1);
        x.form(0, 3, 3);
        word("a-");
        word("a-a-");
        line("aeioaeioaeioaeio aeioaeioaeioaeio aeioaei a");
        due("40 syllables", x.count(4), 40);
        due("not 40", x.fits(0, 3, 2000), 0);
        x.form(0, 3, 2);
        x.foot(1, 4, 1, 3, 3);
        due("just 40", x.fits(0, 3, 2000), 1);
        x.form(0, 4, 2);
        x.foot(1, 0, 3, 0, 0);
        x.form(0, 3, 1);
        x.foot(0, 4, 3, 0, 3);
        due("41 have none", x.fits(0, 3, 2000), 1);
        due("the short one", x.fit(0, 0), 1);
    }

    // promise 32
    private static void learn() {
        fresh();
        x.foot(0, 0, 12, 0, 0);
        x.form(0, 0, 1);
        x.form(0, 1, 1);
        due("no such form", x.learn(1), RANGE);
        due("below", x.learn(-1), RANGE);
        due("no line", x.learn(0), NONE);
        x.licence(2, 9);
        x.licence(0, 20);
        x.licence(4, 0);
        Check.keep(x, 3, "a a a");
        due("none has", x.learn(0), NONE);
        due("nothing changes", x.count(12), 9);
        Check.keep(x, 0, "ab a a a");
        due("one has", x.learn(0), 1);
        due("struck: one of four", x.count(12), 50 - 12);
        due("lost: none", x.count(10), 50);
        due("extra: none", x.count(14), 50);
        due("not let", x.count(11), -1);
        due("not let", x.count(13), -1);
        Check.keep(x, 4, "ab a ab a e");
        due("two have", x.learn(0), 2);
        due("struck: one of nine", x.count(12), 50 - 5);
        due("extra: one of nine", x.count(14), 50 - 5);
        x.drop(0);
        x.drop(4);
        x.foot(0, 0, 11, 0, 0);
        x.licence(2, 0);
        x.licence(0, -1);
        Check.keep(x, 3, "a a a a");
        due("all", x.learn(0), 1);
        due("not below 1", x.count(12), 1);
        fresh();
        x.foot(0, 0, 1, 0, 0);
        x.foot(1, 0, 2, 0, 0);
        x.form(0, 0, 3);
        x.licence(2, 0);
        Check.keep(x, 0, "a");
        due("the first of the cheapest", x.learn(0), 1);
        due("it is as it is", x.count(12), 50);
        fresh();
        x.licence(0, 3);
        x.licence(1, 3);
        x.foot(0, 0, 3, 0, 0);
        for (int i = 0; i < 4; i++) {
            x.form(0, i, 1);
        }
        Check.keep(x, 0, "ab mia ab a");
        due("one melted, or one lost", x.learn(0), 1);
        due("lost: the lesser way first", x.count(10), 50 - 10);
        due("not melted", x.count(11), 50);
        x.licence(1, 39);
        due("learnt anew", x.learn(0), 1);
        due("melted is cheaper: one of four", x.count(11), 50 - 12);
        due("lost no more", x.count(10), 50);
    }

    // promise 33
    private static void count() {
        fresh();
        x.vowel(24, true);
        x.pair(0, 4, 1);
        x.pair(0, 5, 1);
        word("a+");
        line("ab aba a");
        x.keep(2);
        x.place(0, 0, 0, -1, false);
        x.tell(0, 0, 0, 0, 0, 0);
        x.licence(0, 5);
        x.licence(4, 6);
        x.feed(0, 0, 0, 0, 0);
        int[] due = {6, 2, 1, 3, 4, 1, 1, 1, 20, NONE, 5, -1, -1, -1, 6, NONE};
        for (int what = 0; what < due.length; what++) {
            due("count " + what, x.count(what), due[what]);
        }
        due("below", x.count(-1), NONE);
        due("huge", x.count(HUGE), NONE);
        due("tiny", x.count(TINY), NONE);
    }
}
