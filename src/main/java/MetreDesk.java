import java.util.Arrays;

/**
 * A desk that scans verse. The face below answers by the document's promises; the classes inside
 * hold the language, the book, the feet and forms, the search for readings and the poem.
 */
public final class MetreDesk {
    public static final int NONE = -1;
    public static final int RANGE = -2;
    public static final int FULL = -3;

    private static final int TAPE_BYTES = 240;
    private static final int FED_BYTES = 20;
    private static final int ROW_STEPS = 40;

    private final int[] tape = new int[TAPE_BYTES];
    private int tapeSize = 0;
    private final Language language = new Language();
    private final Book book = new Book(language);
    private final LineReader reader = new LineReader(language, book);
    private final Metre metre = new Metre();
    private final Scanner scanner = new Scanner(metre);
    private final Walker walker = new Walker(metre, scanner);
    private final Readings readings = new Readings(metre, scanner, walker);
    private final Near nearest = new Near(metre);
    private final Poem poem = new Poem(metre, scanner, walker);
    private final int[] told = new int[ROW_STEPS * Walker.PARTS];
    private int toldSize = 0;
    private Syllables line = null;
    private final Syllables[] found = new Syllables[Book.MOST];
    private int foundSize = 0;

    public MetreDesk() {
    }

    public int feed(int a, int b, int c, int d, int e) {
        if (tapeSize + FED_BYTES > TAPE_BYTES) {
            return FULL;
        }
        putBytes(a);
        putBytes(b);
        putBytes(c);
        putBytes(d);
        putBytes(e);
        return tapeSize;
    }

    public int end(int n) {
        if (n < 0 || n > tapeSize) {
            return NONE;
        }
        tapeSize = n;
        return n;
    }

    public int vowel(int letter, boolean on) {
        return language.setVowel(letter, on);
    }

    public int pair(int a, int b, int sort) {
        return language.setPair(a, b, sort);
    }

    public int word() {
        return book.learnWord(tape, takeTape());
    }

    public int unword() {
        return book.forgetWord(tape, takeTape());
    }

    public int foot(int k, int sort, int row, int x, int y) {
        return metre.setFoot(k, sort, row, x, y);
    }

    public int form(int f, int i, int set) {
        return metre.setPosition(f, i, set);
    }

    public int cut(int f, int set) {
        return metre.setCuts(f, set);
    }

    public int licence(int l, int price) {
        return metre.setPrice(l, price);
    }

    public int line() {
        if (!reader.readLine(tape, takeTape())) {
            return NONE;
        }
        line = reader.lineRead();
        return line.size;
    }

    public int fault(int what) {
        if (what == 0) {
            return reader.faultSort();
        }
        return what == 1 ? reader.faultPlace() : NONE;
    }

    public int syllable(int i, int what) {
        if (line == null || i < 0 || i >= line.size) {
            return NONE;
        }
        switch (what) {
            case 0:
                return line.words[i];
            case 1:
                return line.marks[i];
            case 2:
                return line.lettersIn(i);
            case 3:
                return (line.traits[i] & Syllables.OF_BOOK) != 0 ? 1 : 0;
            default:
                return line.letterIn(i, what - 10);
        }
    }

    public int scan(int f) {
        return cannotScan(f) ? RANGE : scanner.howMany(line, f);
    }

    public int best(int f) {
        return cannotScan(f) ? RANGE : scanner.cheapest(line, f);
    }

    public int lay(int f) {
        return cannotScan(f) ? RANGE : readings.layOut(line, f);
    }

    public int reading(int r, int what) {
        if (what == 0) {
            return readings.priceOf(r);
        }
        return what == 1 ? readings.lengthOf(r) : NONE;
    }

    public int step(int r, int i, int what) {
        return readings.partOf(r, i, what);
    }

    public int near(int f) {
        return cannotScan(f) ? RANGE : nearest.changes(line, f);
    }

    public int tell(int syllable, int way, int position, int foot, int place, int mark) {
        if (toldSize >= ROW_STEPS) {
            return FULL;
        }
        int at = toldSize * Walker.PARTS;
        told[at] = syllable;
        told[at + 1] = way;
        told[at + 2] = position;
        told[at + 3] = foot;
        told[at + 4] = place;
        told[at + 5] = mark;
        toldSize++;
        return toldSize;
    }

    public int check(int f) {
        if (cannotScan(f)) {
            return RANGE;
        }
        int steps = toldSize;
        toldSize = 0;
        scanner.howMany(line, f);
        return walker.follow(line, f, told, steps);
    }

    public int keep(int k) {
        return line == null ? RANGE : poem.keepLine(k, line);
    }

    public int drop(int k) {
        return poem.dropLine(k);
    }

    public int rhyme(int a, int b) {
        return poem.rhymeOf(a, b);
    }

    public int scheme(int k) {
        return poem.letterOf(k);
    }

    public int place(int i, int f, int letter, int again, boolean may) {
        return poem.setPlace(i, f, letter, again, may);
    }

    public int judge() {
        return poem.layLines();
    }

    public int judged(int what) {
        return poem.laidOut(what);
    }

    public int fits(int f, int w, int price) {
        if (cannotScan(f) || w < 0 || w >= line.wordCount()) {
            return RANGE;
        }
        foundSize = 0;
        for (int b = 0; b < book.size(); b++) {
            Syllables changed = reader.withWord(line, w, b);
            int cost = changed == null ? NONE : scanner.cheapest(changed, f);
            if (cost != NONE && cost <= price && foundSize < found.length) {
                found[foundSize++] = book.wordAt(b);
            }
        }
        return foundSize;
    }

    public int fit(int i, int what) {
        if (i < 0 || i >= foundSize || found[i] == null) {
            return NONE;
        }
        Syllables word = found[i];
        if (what == 0) {
            return word.size;
        }
        if (what == 1) {
            return word.letterCount();
        }
        return what >= 10 ? word.letterAt(what - 10) : NONE;
    }

    public int learn(int f) {
        return metre.isForm(f) ? poem.learnPrices(f) : RANGE;
    }

    public int count(int what) {
        switch (what) {
            case 0:
                return language.vowelCount();
            case 1:
                return language.pairCount();
            case 2:
                return book.size();
            case 3:
                return line == null ? NONE : line.wordCount();
            case 4:
                return line == null ? NONE : line.size;
            case 5:
                return poem.lineCount();
            case 6:
                return poem.placeCount();
            case 7:
                return toldSize;
            case 8:
                return tapeSize;
            default:
                return what >= 10 && what < 10 + Metre.LICENCES ? metre.price(what - 10) : NONE;
        }
    }

    private void putBytes(int four) {
        for (int shift = 24; shift >= 0; shift -= 8) {
            if (tapeSize < TAPE_BYTES) {
                tape[tapeSize++] = four >>> shift & 255;
            }
        }
    }

    /** Empties the tape; its bytes stand until the next feed, so the caller may read them still. */
    private int takeTape() {
        int size = tapeSize;
        tapeSize = 0;
        return size;
    }

    private boolean cannotScan(int f) {
        return line == null || !metre.isForm(f);
    }

    /** Which letters are vowels, which two letters are one sound. */
    private static final class Language {
        private static final int LETTERS = 26;
        private static final int MOST_PAIRS = 12;
        private static final int FIRST = 'a';
        private static final int PAIR_VOWEL = 1;

        private final boolean[] vowels = new boolean[LETTERS];
        private int vowelCount = 5;
        private final int[] pairs = new int[LETTERS * LETTERS];
        private int pairCount = 0;

        Language() {
            vowels['a' - FIRST] = true;
            vowels['e' - FIRST] = true;
            vowels['i' - FIRST] = true;
            vowels['o' - FIRST] = true;
            vowels['u' - FIRST] = true;
        }

        static boolean isLetter(int sign) {
            return sign >= FIRST && sign < FIRST + LETTERS;
        }

        int vowelCount() {
            return vowelCount;
        }

        int pairCount() {
            return pairCount;
        }

        int setVowel(int letter, boolean on) {
            if (letter < 0 || letter >= LETTERS) {
                return RANGE;
            }
            if (vowels[letter] != on) {
                vowels[letter] = on;
                vowelCount += on ? 1 : -1;
            }
            return vowelCount;
        }

        int setPair(int a, int b, int sort) {
            if (a < 0 || a >= LETTERS || b < 0 || b >= LETTERS || sort < 0 || sort > 2) {
                return RANGE;
            }
            int at = a * LETTERS + b;
            if (sort != 0 && pairs[at] == 0 && pairCount >= MOST_PAIRS) {
                return FULL;
            }
            if (sort != 0 && pairs[at] == 0) {
                pairCount++;
            } else if (sort == 0 && pairs[at] != 0) {
                pairCount--;
            }
            pairs[at] = sort;
            return pairCount;
        }

        /** The sort of the pair that begins at a letter; 0 where the letter stands for itself. */
        private int pairAt(int[] letters, int at, int end) {
            if (at < 0 || at + 1 >= end || end > letters.length) {
                return 0;
            }
            int one = letters[at] - FIRST;
            int other = letters[at + 1] - FIRST;
            if (one < 0 || one >= LETTERS || other < 0 || other >= LETTERS) {
                return 0;
            }
            return pairs[one * LETTERS + other];
        }

        /** Whether the sound that begins there has two letters. */
        boolean isPairAt(int[] letters, int at, int end) {
            return pairAt(letters, at, end) != 0;
        }

        boolean isVowelAt(int[] letters, int at, int end) {
            int sort = pairAt(letters, at, end);
            if (sort != 0) {
                return sort == PAIR_VOWEL;
            }
            if (at < 0 || at >= end || end > letters.length) {
                return false;
            }
            int letter = letters[at] - FIRST;
            return letter >= 0 && letter < LETTERS && vowels[letter];
        }

        /** A number for the sound: even without, odd with a vowel; the rest tells its letters. */
        int soundCode(int[] letters, int at, int end) {
            if (at < 0 || at >= end || end > letters.length) {
                return 0;
            }
            int code = letters[at] - FIRST + 1;
            if (pairAt(letters, at, end) != 0) {
                code = code * (LETTERS + 1) + letters[at + 1] - FIRST + 1;
            }
            return code * 2 + (isVowelAt(letters, at, end) ? 1 : 0);
        }

        int vowelSounds(int[] letters, int begin, int end) {
            int sounds = 0;
            for (int at = begin; at < end; at += isPairAt(letters, at, end) ? 2 : 1) {
                if (isVowelAt(letters, at, end)) {
                    sounds++;
                }
            }
            return sounds;
        }

        /** Where the first vowel sound begins; without one where the letters begin. */
        int firstVowel(int[] letters, int begin, int end) {
            for (int at = begin; at < end; at += isPairAt(letters, at, end) ? 2 : 1) {
                if (isVowelAt(letters, at, end)) {
                    return at;
                }
            }
            return begin;
        }

        /** Whether the letters begin, and whether they end, with a vowel sound. */
        int traitsOf(int[] letters, int begin, int end) {
            boolean closes = false;
            for (int at = begin; at < end; at += isPairAt(letters, at, end) ? 2 : 1) {
                closes = isVowelAt(letters, at, end);
            }
            boolean opens = isVowelAt(letters, begin, end);
            return (opens ? Syllables.OPENS : 0) + (closes ? Syllables.CLOSES : 0);
        }
    }

    /** A row of syllables: a line, or a word of the book. */
    private static final class Syllables {
        static final int MOST = 40;
        static final int MOST_WORDS = 12;
        static final int MOST_LETTERS = 192;
        static final int HEAVY = 1;
        static final int LIGHT = 2;
        static final int BOTH = 3;
        static final int OPENS = 1;
        static final int CLOSES = 2;
        static final int OF_BOOK = 4;

        private final int[] letters;
        final int[] from;
        final int[] words;
        final int[] marks;
        final int[] traits;
        private int[] ending;
        int size = 0;

        /** An empty row with room for so many. */
        Syllables(int most, int mostLetters) {
            letters = new int[mostLetters];
            from = new int[most + 1];
            words = new int[most];
            marks = new int[most];
            traits = new int[most];
            ending = null;
        }

        /** A copy without the room that is left. */
        Syllables(Syllables other) {
            size = other.size;
            letters = Arrays.copyOf(other.letters, other.letterCount());
            from = Arrays.copyOf(other.from, size + 1);
            words = Arrays.copyOf(other.words, size);
            marks = Arrays.copyOf(other.marks, size);
            traits = Arrays.copyOf(other.traits, size);
            ending = null;
        }

        void empty() {
            size = 0;
        }

        /** Puts the letters of source from begin to end behind; false when there is no room. */
        boolean add(int wordNumber, int[] source, int begin, int end, int mark, int trait) {
            int start = letterCount();
            int length = end - begin;
            if (size >= marks.length || begin < 0 || length < 0 || end > source.length
                    || length > letters.length - start) {
                return false;
            }
            System.arraycopy(source, begin, letters, start, length);
            words[size] = wordNumber;
            marks[size] = mark;
            traits[size] = trait;
            size++;
            from[size] = start + length;
            return true;
        }

        boolean addFrom(Syllables other, int i) {
            if (i < 0 || i >= other.size) {
                return false;
            }
            return add(other.words[i], other.letters, other.from[i], other.from[i + 1], other.marks[i],
                    other.traits[i]);
        }

        boolean addFromBook(int wordNumber, Syllables word, int i, Language language) {
            if (i < 0 || i >= word.size) {
                return false;
            }
            int trait = language.traitsOf(word.letters, word.from[i], word.from[i + 1]) + OF_BOOK;
            return add(wordNumber, word.letters, word.from[i], word.from[i + 1], word.marks[i], trait);
        }

        int letterCount() {
            return from[size];
        }

        int letterAt(int i) {
            return i >= 0 && i < letterCount() ? letters[i] : NONE;
        }

        int lettersIn(int i) {
            return i >= 0 && i < size ? from[i + 1] - from[i] : 0;
        }

        /** The letter with this number, from 0 on, of syllable i; NONE when it has not so many. */
        int letterIn(int i, int number) {
            return number >= 0 && number < lettersIn(i) ? letterAt(from[i] + number) : NONE;
        }

        int wordCount() {
            return size == 0 ? 0 : words[size - 1] + 1;
        }

        boolean endsWord(int i) {
            if (i < 0 || i >= size) {
                return false;
            }
            return i + 1 == size || words[i + 1] != words[i];
        }

        private boolean meetsVowels(int i) {
            return i >= 0 && i + 1 < size && (traits[i] & CLOSES) != 0 && (traits[i + 1] & OPENS) != 0;
        }

        /** A word's last one that is not its only one, between two vowels. */
        boolean mayBeLost(int i) {
            return i > 0 && meetsVowels(i) && endsWord(i) && !endsWord(i - 1);
        }

        boolean mayMelt(int i) {
            return meetsVowels(i) && !endsWord(i);
        }

        /** Keeps the sounds that rhyme, as the language has them now. */
        void setEnding(Language language) {
            int first = size - 1;
            for (int i = size - 1; i >= 0; i--) {
                if (marks[i] == HEAVY) {
                    first = i;
                    break;
                }
            }
            int[] codes = new int[first < 0 ? 0 : letterCount() - from[first]];
            int sounds = 0;
            for (int i = first; i >= 0 && i < size; i++) {
                int stop = from[i + 1];
                int start = i == first ? language.firstVowel(letters, from[i], stop) : from[i];
                for (int at = start; at < stop; at += language.isPairAt(letters, at, stop) ? 2 : 1) {
                    if (sounds < codes.length) {
                        codes[sounds++] = language.soundCode(letters, at, stop);
                    }
                }
            }
            ending = Arrays.copyOf(codes, sounds);
        }

        boolean fullRhyme(Syllables other) {
            if (ending == null || other.ending == null || ending.length != other.ending.length) {
                return false;
            }
            for (int i = 0; i < ending.length && i < other.ending.length; i++) {
                if (ending[i] >> 1 != other.ending[i] >> 1) {
                    return false;
                }
            }
            return true;
        }

        boolean halfRhyme(Syllables other) {
            if (ending == null || other.ending == null) {
                return false;
            }
            int mine = vowelFrom(0);
            int theirs = other.vowelFrom(0);
            for (int i = 0; i < ending.length && mine < ending.length && theirs < other.ending.length; i++) {
                if (ending[mine] != other.ending[theirs]) {
                    return false;
                }
                mine = vowelFrom(mine + 1);
                theirs = other.vowelFrom(theirs + 1);
            }
            return mine >= ending.length && theirs >= other.ending.length;
        }

        private int vowelFrom(int at) {
            for (int i = at; ending != null && i < ending.length; i++) {
                if ((ending[i] & 1) == 1) {
                    return i;
                }
            }
            return ending == null ? 0 : ending.length;
        }

        boolean eyeRhyme(Syllables other) {
            int length = seenLength();
            if (length != other.seenLength()) {
                return false;
            }
            for (int i = 1; i <= length; i++) {
                if (letterAt(letterCount() - i) != other.letterAt(other.letterCount() - i)) {
                    return false;
                }
            }
            return true;
        }

        /** How many letters an eye rhyme looks at: two, or the one of a short last word. */
        private int seenLength() {
            int begin = size;
            for (int i = size - 1; i >= 0 && words[i] == words[size - 1]; i--) {
                begin = i;
            }
            return Math.min(2, letterCount() - from[begin]);
        }

        /** Whether its words are the other's, letter for letter; how they are parted is nothing to it. */
        boolean sameWords(Syllables other) {
            if (wordCount() != other.wordCount() || compareLetters(other.letters, 0, other.letterCount()) != 0) {
                return false;
            }
            for (int w = 0; w < wordCount(); w++) {
                if (lettersThrough(w) != other.lettersThrough(w)) {
                    return false;
                }
            }
            return true;
        }

        /** How many letters there are from the begin to the end of a word. */
        private int lettersThrough(int word) {
            int syllables = 0;
            while (syllables < size && words[syllables] <= word) {
                syllables++;
            }
            return from[syllables];
        }

        /** Below 0 when its letters stand ahead of these in order, above 0 when behind. */
        int compareLetters(int[] others, int begin, int end) {
            int length = letterCount();
            for (int i = 0; i < length && i < letters.length; i++) {
                int at = begin + i;
                if (at < 0 || at >= end || at >= others.length) {
                    return 1;
                }
                if (letters[i] != others[at]) {
                    return letters[i] - others[at];
                }
            }
            return begin + length < end ? -1 : 0;
        }
    }

    /** The words with syllables of their own, kept in the order of their letters. */
    private static final class Book {
        static final int MOST = 40;
        static final int WORD_LETTERS = 16;

        private final Language language;
        private final Syllables[] entries = new Syllables[MOST];
        private int size = 0;
        private final Syllables draft = new Syllables(WORD_LETTERS, WORD_LETTERS);

        Book(Language language) {
            this.language = language;
        }

        int size() {
            return size;
        }

        Syllables wordAt(int i) {
            return i >= 0 && i < size ? entries[i] : null;
        }

        int learnWord(int[] bytes, int length) {
            if (!readTold(bytes, length)) {
                return NONE;
            }
            Syllables entry = new Syllables(draft);
            int at = placeFor(entry.letters, 0, entry.letterCount());
            if (!isAt(at, entry.letters, 0, entry.letterCount())) {
                if (size >= MOST) {
                    return FULL;
                }
                for (int i = size; i > at; i--) {
                    entries[i] = entries[i - 1];
                }
                size++;
            }
            entries[at] = entry;
            return entry.size;
        }

        int forgetWord(int[] bytes, int length) {
            int at = placeFor(bytes, 0, length);
            if (!isAt(at, bytes, 0, length)) {
                return NONE;
            }
            for (int i = at; i + 1 < size; i++) {
                entries[i] = entries[i + 1];
            }
            size--;
            entries[size] = null;
            return size;
        }

        /** The entry of just these letters, or null. */
        Syllables entryOf(int[] bytes, int begin, int end) {
            int at = placeFor(bytes, begin, end);
            return isAt(at, bytes, begin, end) ? wordAt(at) : null;
        }

        private int placeFor(int[] bytes, int begin, int end) {
            for (int at = 0; at < size; at++) {
                Syllables entry = wordAt(at);
                if (entry == null || entry.compareLetters(bytes, begin, end) >= 0) {
                    return at;
                }
            }
            return size;
        }

        private boolean isAt(int at, int[] bytes, int begin, int end) {
            Syllables entry = wordAt(at);
            return entry != null && entry.compareLetters(bytes, begin, end) == 0;
        }

        private boolean readTold(int[] bytes, int length) {
            draft.empty();
            int begin = 0;
            for (int i = 0; i < length && i < bytes.length; i++) {
                if (Language.isLetter(bytes[i])) {
                    continue;
                }
                int mark = markOf(bytes[i]);
                if (mark == NONE || language.vowelSounds(bytes, begin, i) != 1
                        || !draft.add(0, bytes, begin, i, mark, Syllables.OF_BOOK)) {
                    return false;
                }
                begin = i + 1;
            }
            return draft.size > 0 && begin == length;
        }

        private static int markOf(int sign) {
            switch (sign) {
                case '+':
                    return Syllables.HEAVY;
                case '-':
                    return Syllables.LIGHT;
                case '*':
                    return Syllables.BOTH;
                default:
                    return NONE;
            }
        }
    }

    /** Parts a line into words and syllables, by the book or by rules. */
    private static final class LineReader {
        private static final int BLANK = 32;
        private static final int BAD_BYTE = 1;
        private static final int LONG_WORD = 2;
        private static final int NO_VOWEL = 3;
        private static final int TOO_MANY = 4;
        private static final int NO_WORD = 5;

        private final Language language;
        private final Book book;
        private final Syllables draft = new Syllables(Syllables.MOST, Syllables.MOST_LETTERS);
        private int fault = 0;
        private int place = NONE;

        LineReader(Language language, Book book) {
            this.language = language;
            this.book = book;
        }

        int faultSort() {
            return fault;
        }

        int faultPlace() {
            return place;
        }

        boolean readLine(int[] bytes, int length) {
            draft.empty();
            fault = 0;
            place = NONE;
            int begin = NONE;
            for (int i = 0; i <= length && fault == 0; i++) {
                int sign = i < length && i < bytes.length ? bytes[i] : BLANK;
                if (Language.isLetter(sign)) {
                    begin = begin == NONE ? i : begin;
                    continue;
                }
                // A word begins ahead of the byte that ends it, so its fault comes first.
                if (begin != NONE) {
                    setFault(addWord(bytes, begin, i), begin);
                    begin = NONE;
                }
                if (fault == 0 && sign != BLANK) {
                    setFault(BAD_BYTE, i);
                }
            }
            if (fault == 0 && draft.size == 0) {
                setFault(NO_WORD, length);
            }
            return fault == 0;
        }

        Syllables lineRead() {
            Syllables line = new Syllables(draft);
            line.setEnding(language);
            return line;
        }

        /** The line with word w changed for a word of the book; null when it grows too long. */
        Syllables withWord(Syllables line, int w, int entry) {
            Syllables word = book.wordAt(entry);
            boolean changed = word == null;
            draft.empty();
            for (int i = 0; i < line.size; i++) {
                boolean room = true;
                if (line.words[i] != w) {
                    room = draft.addFrom(line, i);
                } else if (!changed) {
                    changed = true;
                    room = addEntry(w, word);
                }
                if (!room) {
                    return null;
                }
            }
            return draft;
        }

        private void setFault(int sort, int at) {
            if (sort != 0) {
                fault = sort;
                place = at;
            }
        }

        private int addWord(int[] bytes, int begin, int end) {
            if (end - begin > Book.WORD_LETTERS) {
                return LONG_WORD;
            }
            Syllables entry = book.entryOf(bytes, begin, end);
            if (entry == null && language.vowelSounds(bytes, begin, end) == 0) {
                return NO_VOWEL;
            }
            int number = draft.wordCount();
            if (number >= Syllables.MOST_WORDS) {
                return TOO_MANY;
            }
            boolean room = entry != null ? addEntry(number, entry) : addByRules(number, bytes, begin, end);
            return room ? 0 : TOO_MANY;
        }

        private boolean addEntry(int number, Syllables entry) {
            for (int i = 0; i < entry.size; i++) {
                if (!draft.addFromBook(number, entry, i, language)) {
                    return false;
                }
            }
            return true;
        }

        private boolean addByRules(int number, int[] bytes, int begin, int end) {
            int start = begin;
            int behindVowel = NONE;
            boolean longVowel = false;
            int lastSound = begin;
            boolean room = true;
            for (int at = begin; at < end; at += language.isPairAt(bytes, at, end) ? 2 : 1) {
                if (language.isVowelAt(bytes, at, end)) {
                    if (behindVowel != NONE) {
                        int stop = at == behindVowel ? at : lastSound;
                        room = room && addRuled(number, bytes, start, stop, longVowel || stop > behindVowel);
                        start = stop;
                    }
                    longVowel = language.isPairAt(bytes, at, end);
                    behindVowel = at + (longVowel ? 2 : 1);
                }
                lastSound = at;
            }
            return room && addRuled(number, bytes, start, end, longVowel || end > behindVowel);
        }

        private boolean addRuled(int number, int[] bytes, int begin, int end, boolean heavy) {
            int mark = heavy ? Syllables.HEAVY : Syllables.LIGHT;
            return draft.add(number, bytes, begin, end, mark, language.traitsOf(bytes, begin, end));
        }
    }

    /**
     * A foot as a small machine. Its state is a code: place times four, and one more when the place
     * is filled (a free foot: strike times four, and the light ones behind it so far); BEGIN ahead of all.
     */
    private static final class Foot {
        static final int PLAIN = 0;
        static final int CLOSING = 2;
        static final int SPLIT = 3;
        static final int FREE = 4;
        static final int ANY = 3;
        static final int CODES = 16;
        static final int BEGIN = 16;

        private final int sort;
        private final int size;
        private final int[] needs = new int[2 * CODES + 2];
        private final int[] nexts = new int[2 * CODES + 2];
        private final boolean[] asks = new boolean[CODES + 1];
        private final boolean[] ends = new boolean[CODES + 1];
        private int codes = 0;

        Foot(int sort, int size, int row, int x, int y) {
            this.sort = sort;
            this.size = size;
            Arrays.fill(needs, NONE);
            if (sort == FREE) {
                buildFree(x, y);
            } else {
                buildPlaces(row, x);
            }
        }

        boolean isClosing() {
            return sort == CLOSING;
        }

        int codes() {
            return codes;
        }

        /** What it may take next as its first (0) or second (1) choice: a mark, ANY, or NONE. */
        int need(int code, int choice) {
            int at = code * 2 + choice;
            return at >= 0 && at < needs.length ? needs[at] : NONE;
        }

        /** The code behind that choice. */
        int next(int code, int choice) {
            int at = code * 2 + choice;
            return at >= 0 && at < nexts.length ? nexts[at] : 0;
        }

        /** Whether a word must have ended ahead of what it takes next. */
        boolean asksCut(int code) {
            return code >= 0 && code <= BEGIN && asks[code];
        }

        boolean mayEnd(int code) {
            return code >= 0 && code <= BEGIN && ends[code];
        }

        private void buildFree(int x, int y) {
            addChoice(BEGIN, Syllables.HEAVY, 0);
            for (int strike = 0; strike < size; strike++) {
                for (int light = 0; light <= y; light++) {
                    int code = strike * 4 + light;
                    if (light < y) {
                        addChoice(code, Syllables.LIGHT, code + 1);
                    }
                    if (light >= x && strike + 1 < size) {
                        addChoice(code, Syllables.HEAVY, code - light + 4);
                    }
                    if (light >= x && strike + 1 == size && code >= 0 && code < CODES) {
                        ends[code] = true;
                    }
                }
            }
        }

        private void buildPlaces(int row, int x) {
            int digits = row;
            for (int place = size - 1; place >= 0; place--) {
                boolean last = place == size - 1;
                int digit = last && sort == CLOSING ? ANY : digits % 10;
                digits /= 10;
                int filled = place * 4 + 1;
                if (filled < 0 || filled >= CODES) {
                    continue;
                }
                ends[filled] = last;
                int before = place == 0 ? BEGIN : filled - 4;
                asks[before] = sort == SPLIT && place == x;
                if (digit == 4) {
                    addChoice(before, Syllables.HEAVY, filled);
                    addChoice(before, Syllables.LIGHT, filled - 1);
                    addChoice(filled - 1, Syllables.LIGHT, filled);
                } else {
                    addChoice(before, digit, filled);
                }
            }
        }

        private void addChoice(int code, int need, int next) {
            if (code < 0 || code > BEGIN || next < 0 || next >= CODES) {
                return;
            }
            int at = needs[code * 2] == NONE ? code * 2 : code * 2 + 1;
            needs[at] = need;
            nexts[at] = next;
            codes = Math.max(codes, next + 1);
        }
    }

    /** Feet, line forms, the prices of licences. */
    private static final class Metre {
        static final int FEET = 12;
        static final int FORMS = 8;
        static final int POSITIONS = 8;
        static final int LICENCES = 5;
        static final int LOST = 0;
        static final int MELTED = 1;
        static final int STRUCK = 2;
        static final int TURNED = 3;
        static final int EXTRA = 4;
        private static final int MOST_PRICE = 50;

        private final Foot[] feet = new Foot[FEET];
        private final int[] sets = new int[FORMS * POSITIONS];
        private final int[] sizes = new int[FORMS];
        private final int[] cuts = new int[FORMS];
        private final int[] prices = new int[LICENCES];

        Metre() {
            Arrays.fill(prices, NONE);
        }

        int setFoot(int k, int sort, int row, int x, int y) {
            if (k < 0 || k >= FEET || sort < Foot.PLAIN || sort > Foot.FREE) {
                return RANGE;
            }
            int size = sort == Foot.FREE ? row : placesOf(sort, row);
            if (size < 1 || size > 4 || !mayHave(sort, size, x, y)) {
                return RANGE;
            }
            feet[k] = new Foot(sort, size, row, x, y);
            return size;
        }

        private static boolean mayHave(int sort, int size, int x, int y) {
            if (sort == Foot.FREE) {
                return size <= 3 && x >= 0 && y >= x && y <= 3;
            }
            if (sort == Foot.SPLIT) {
                return x >= 1 && x < size && y == 0;
            }
            return x == 0 && y == 0;
        }

        /** How many digits a row has; 0 when one of them is none of the sort's. */
        private static int placesOf(int sort, int row) {
            int most = sort == Foot.PLAIN ? 3 : 4;
            if (row < 1 || row > 4444) {
                return 0;
            }
            int places = 0;
            for (int rest = row; rest > 0; rest /= 10) {
                if (rest % 10 < 1 || rest % 10 > most) {
                    return 0;
                }
                places++;
            }
            return places;
        }

        int setPosition(int f, int i, int set) {
            if (f < 0 || f >= FORMS || i < 0 || i >= POSITIONS || i > sizes[f]) {
                return RANGE;
            }
            if (set < 1 || set >= 1 << FEET) {
                return RANGE;
            }
            sets[f * POSITIONS + i] = set;
            sizes[f] = Math.max(sizes[f], i + 1);
            return sizes[f];
        }

        int setCuts(int f, int set) {
            if (f < 0 || f >= FORMS || set < 0 || set >= 1 << POSITIONS) {
                return RANGE;
            }
            int before = cuts[f];
            cuts[f] = set;
            return before;
        }

        int setPrice(int l, int price) {
            if (l < 0 || l >= LICENCES || price < NONE || price > MOST_PRICE) {
                return RANGE;
            }
            int before = prices[l];
            prices[l] = price;
            return before;
        }

        /** The price of a licence, NONE when it is not let. */
        int price(int l) {
            return l >= 0 && l < LICENCES ? prices[l] : NONE;
        }

        boolean isForm(int f) {
            return f >= 0 && f < FORMS && sizes[f] > 0;
        }

        int positions(int f) {
            return isForm(f) ? sizes[f] : 0;
        }

        boolean cutBehind(int f, int p) {
            return f >= 0 && f < FORMS && p >= 0 && p < POSITIONS && (cuts[f] >> p & 1) == 1;
        }

        /** Foot k where it may stand in position p of form f; else null. */
        Foot footAt(int f, int p, int k) {
            if (p < 0 || p >= positions(f) || k < 0 || k >= FEET || (sets[f * POSITIONS + p] >> k & 1) == 0) {
                return null;
            }
            Foot foot = feet[k];
            return foot != null && foot.isClosing() && p + 1 != positions(f) ? null : foot;
        }

        /** Each licence that is let is the cheaper the more of all steps use it. */
        void setByUse(int[] uses, int steps) {
            for (int l = 0; l < LICENCES && l < uses.length && steps > 0; l++) {
                if (prices[l] != NONE) {
                    float part = (float) uses[l] / (float) steps;
                    prices[l] = Math.max(1, MOST_PRICE - (int) (MOST_PRICE * part));
                }
            }
        }
    }

    /**
     * Counts the readings of a line by a form, or finds the least price. A state is (position, foot,
     * code of the foot); the table has, for each state and each next syllable, what the ways on to the
     * line's end come to. Gates have it for the begin of each position.
     */
    private static final class Scanner {
        static final int SIDE = Syllables.MOST + 1;
        static final int START = Metre.POSITIONS * Metre.FEET * Foot.CODES;
        static final int OVER = START + 1;
        static final int NEVER = 1 << 28;
        private static final int MOST = 1000000000;

        private final Metre metre;
        private final int[] gates = new int[Metre.POSITIONS * SIDE];
        private final int[] bases = new int[Metre.POSITIONS * Metre.FEET];
        private final int[] own = new int[(Foot.ANY + 1) * SIDE];
        private final int[] melt = new int[SIDE];
        private final int[] lost = new int[SIDE];
        private int[] table = new int[0];
        private Syllables line = null;
        private int form = 0;
        private boolean counting = false;
        private int nothing = 0;
        private int extra = NONE;

        Scanner(Metre metre) {
            this.metre = metre;
        }

        /** How many readings there are; from then on valueAt tells how many go on from a state. */
        int howMany(Syllables verse, int f) {
            return fill(verse, f, true) ? gates[0] : 0;
        }

        /** The least price, or NONE; from then on valueAt tells the least price from a state on. */
        int cheapest(Syllables verse, int f) {
            return fill(verse, f, false) && gates[0] < NEVER ? gates[0] : NONE;
        }

        /** The price of syllable i taken as what is needed: as it is, struck or turned; NONE if it can't be. */
        int ownPrice(int need, int i) {
            int at = need * SIDE + i;
            return need > 0 && need <= Foot.ANY && i >= 0 && i < SIDE ? own[at] : NONE;
        }

        int meltPrice(int i) {
            return i >= 0 && i < SIDE ? melt[i] : NONE;
        }

        int lostPrice(int i) {
            return i >= 0 && i < SIDE ? lost[i] : NONE;
        }

        int extraPrice(int i) {
            return line != null && i > 0 && i + 1 == line.size ? extra : NONE;
        }

        /** What the table filled last has for a state behind the first step; OVER is behind the last. */
        int valueAt(int state, int i) {
            if (state == OVER) {
                return counting ? 1 : 0;
            }
            if (state < 0 || state >= START || i < 0 || i >= SIDE) {
                return nothing;
            }
            int base = bases[state / Foot.CODES];
            int at = (base + state % Foot.CODES) * SIDE + i;
            return base >= 0 && at < table.length ? table[at] : nothing;
        }

        private int join(int total, int price, int value) {
            return counting ? Math.min(MOST, total + value) : Math.min(total, price + value);
        }

        private boolean fill(Syllables verse, int f, boolean counts) {
            if (verse == null || verse.size < 1 || verse.size > Syllables.MOST || !metre.isForm(f)) {
                return false;
            }
            line = verse;
            form = f;
            counting = counts;
            nothing = counts ? 0 : NEVER;
            priceSyllables();
            numberFeet();
            for (int p = metre.positions(f) - 1; p >= 0; p--) {
                Arrays.fill(gates, p * SIDE, (p + 1) * SIDE, nothing);
                for (int k = 0; k < Metre.FEET; k++) {
                    Foot foot = metre.footAt(f, p, k);
                    if (foot != null) {
                        fillFoot(foot, p, bases[p * Metre.FEET + k]);
                    }
                }
            }
            return true;
        }

        private void priceSyllables() {
            for (int i = 0; i < SIDE; i++) {
                int mark = i < line.size ? line.marks[i] : 0;
                int asHeavy = mark == Syllables.LIGHT ? metre.price(Metre.STRUCK) : 0;
                int asLight = 0;
                if (mark == Syllables.HEAVY) {
                    asLight = i == 0 ? metre.price(Metre.TURNED) : NONE;
                }
                own[Syllables.HEAVY * SIDE + i] = mark == 0 ? NONE : asHeavy;
                own[Syllables.LIGHT * SIDE + i] = mark == 0 ? NONE : asLight;
                own[Foot.ANY * SIDE + i] = mark == 0 ? NONE : 0;
                melt[i] = line.mayMelt(i) ? metre.price(Metre.MELTED) : NONE;
                lost[i] = line.mayBeLost(i) ? metre.price(Metre.LOST) : NONE;
            }
            extra = line.marks[line.size - 1] == Syllables.HEAVY ? NONE : metre.price(Metre.EXTRA);
        }

        /** Gives each foot of each position its part of the table, and makes the table large enough. */
        private void numberFeet() {
            int next = 0;
            for (int p = 0; p < Metre.POSITIONS; p++) {
                for (int k = 0; k < Metre.FEET; k++) {
                    Foot foot = metre.footAt(form, p, k);
                    bases[p * Metre.FEET + k] = foot == null ? NONE : next;
                    next += foot == null ? 0 : foot.codes();
                }
            }
            if (next * SIDE > table.length) {
                table = new int[Math.max(next * SIDE, 2 * table.length)];
            }
        }

        private void fillFoot(Foot foot, int p, int base) {
            for (int i = line.size; i >= 0; i--) {
                for (int code = 0; code < foot.codes(); code++) {
                    int at = (base + code) * SIDE + i;
                    if (at >= 0 && at < table.length) {
                        table[at] = stateValue(foot, p, base, code, i);
                    }
                }
                gates[p * SIDE + i] = addChoices(gates[p * SIDE + i], foot, Foot.BEGIN, base, i);
            }
        }

        private int stateValue(Foot foot, int p, int base, int code, int i) {
            int total = nothing;
            if (lost[i] >= 0) {
                total = join(total, lost[i], cell(base + code, i + 1));
            }
            boolean wordEnd = line.endsWord(i - 1);
            if (wordEnd || !foot.asksCut(code)) {
                total = addChoices(total, foot, code, base, i);
            }
            if (foot.mayEnd(code) && (wordEnd || !metre.cutBehind(form, p))) {
                total = join(total, 0, p + 1 < metre.positions(form) ? gates[(p + 1) * SIDE + i] : finish(i));
            }
            return total;
        }

        private int addChoices(int before, Foot foot, int code, int base, int i) {
            int total = before;
            for (int choice = 0; choice < 2; choice++) {
                int need = foot.need(code, choice);
                int next = base + foot.next(code, choice);
                int price = ownPrice(need, i);
                if (price >= 0) {
                    total = join(total, price, cell(next, i + 1));
                }
                if ((need == Syllables.HEAVY || need == Foot.ANY) && melt[i] >= 0) {
                    total = join(total, melt[i], cell(next, i + 2));
                }
            }
            return total;
        }

        private int cell(int row, int i) {
            int at = row * SIDE + i;
            return i >= 0 && i < SIDE && at >= 0 && at < table.length ? table[at] : nothing;
        }

        /** Behind the last foot: the line is over, or its last syllable is extra. */
        private int finish(int i) {
            if (i == line.size) {
                return counting ? 1 : 0;
            }
            int price = extraPrice(i);
            if (price < 0) {
                return nothing;
            }
            return counting ? 1 : price;
        }
    }

    /** Goes through the table of a scanner, step by step, from the line's first syllable on. */
    private static final class Walker {
        static final int PARTS = 6;
        private static final int AS_IS = 0;
        private static final int BY_STRIKE = 1;
        private static final int BY_TURN = 2;
        private static final int BY_MELTING = 3;
        private static final int BY_LOSS = 4;
        private static final int AS_EXTRA = 5;
        private static final int MOST_MOVES = 64;

        private final Metre metre;
        private final Scanner scanner;
        private Syllables line = null;
        private int form = 0;
        private int at = 0;
        private int state = Scanner.START;
        private final int[] steps = new int[MOST_MOVES];
        private final int[] nexts = new int[MOST_MOVES];
        private final int[] spans = new int[MOST_MOVES];
        private final int[] prices = new int[MOST_MOVES];
        private int moves = 0;

        Walker(Metre metre, Scanner scanner) {
            this.metre = metre;
            this.scanner = scanner;
        }

        void begin(Syllables verse, int f) {
            line = verse;
            form = f;
            at = 0;
            state = Scanner.START;
        }

        boolean isOver() {
            return line == null || at >= line.size;
        }

        /** Lists the steps that may come next, those from which there is no way on among them. */
        void listMoves() {
            moves = 0;
            if (state == Scanner.START) {
                listPosition(0);
                return;
            }
            if (isOver() || state < 0 || state > Scanner.START) {
                return;
            }
            if (scanner.lostPrice(at) >= 0) {
                addMove(stepOf(BY_LOSS), state, 1, scanner.lostPrice(at));
            }
            int code = state % Foot.CODES;
            int p = state / Foot.CODES / Metre.FEET;
            int k = state / Foot.CODES % Metre.FEET;
            Foot foot = metre.footAt(form, p, k);
            boolean wordEnd = line.endsWord(at - 1);
            if (foot != null && (wordEnd || !foot.asksCut(code))) {
                listChoices(foot, code, p, k);
            }
            if (foot != null && foot.mayEnd(code) && (wordEnd || !metre.cutBehind(form, p))) {
                if (p + 1 < metre.positions(form)) {
                    listPosition(p + 1);
                } else if (scanner.extraPrice(at) >= 0) {
                    addMove(stepOf(AS_EXTRA), Scanner.OVER, 1, scanner.extraPrice(at));
                }
            }
        }

        private void listPosition(int p) {
            for (int k = 0; k < Metre.FEET; k++) {
                Foot foot = metre.footAt(form, p, k);
                if (foot != null) {
                    listChoices(foot, Foot.BEGIN, p, k);
                }
            }
        }

        private void listChoices(Foot foot, int code, int p, int k) {
            if (isOver() || at < 0) {
                return;
            }
            int mark = line.marks[at];
            for (int choice = 0; choice < 2; choice++) {
                int need = foot.need(code, choice);
                int next = foot.next(code, choice);
                int target = (p * Metre.FEET + k) * Foot.CODES + next;
                int where = stepOf(AS_IS) | p << 8 | k << 4 | next / 4 << 2;
                int price = scanner.ownPrice(need, at);
                if (price >= 0) {
                    int either = mark == Syllables.LIGHT ? Syllables.LIGHT : Syllables.HEAVY;
                    int as = need == Foot.ANY ? either : need;
                    addMove(where | ownWay(mark, as) << 12 | as, target, 1, price);
                }
                if ((need == Syllables.HEAVY || need == Foot.ANY) && scanner.meltPrice(at) >= 0) {
                    addMove(where | BY_MELTING << 12 | Syllables.HEAVY, target, 2, scanner.meltPrice(at));
                }
            }
        }

        private static int ownWay(int mark, int as) {
            if (mark == Syllables.BOTH || mark == as) {
                return AS_IS;
            }
            return as == Syllables.HEAVY ? BY_STRIKE : BY_TURN;
        }

        private int stepOf(int way) {
            return at << 16 | way << 12;
        }

        private void addMove(int step, int next, int span, int price) {
            if (moves < MOST_MOVES) {
                steps[moves] = step;
                nexts[moves] = next;
                spans[moves] = span;
                prices[moves] = price;
                moves++;
            }
        }

        /** What the scanner tells of the ways on behind a listed step. */
        private int valueOf(int move) {
            return scanner.valueAt(nexts[move], at + spans[move]);
        }

        /** Takes a listed step and tells it. */
        private int take(int move) {
            at += spans[move];
            state = nexts[move];
            return steps[move];
        }

        /** Of a table of prices: takes the least of the cheapest steps; NONE without a way on. */
        int takeCheapest() {
            int chosen = NONE;
            int least = Scanner.NEVER;
            for (int m = 0; m < moves; m++) {
                int price = prices[m] + valueOf(m);
                if (price < least || chosen != NONE && price == least && steps[m] < steps[chosen]) {
                    least = price;
                    chosen = m;
                }
            }
            return chosen == NONE ? NONE : take(chosen);
        }

        /** Of a table of counts: fills row from begin on with the steps of reading number rank; how many. */
        int takeRanked(int rank, int[] row, int begin) {
            int rest = rank;
            int taken = 0;
            for (int i = 0; i < Syllables.MOST && !isOver(); i++) {
                listMoves();
                int chosen = NONE;
                for (int m = 0; m < moves && chosen == NONE; m++) {
                    if (rest < valueOf(m)) {
                        chosen = m;
                    } else {
                        rest -= valueOf(m);
                    }
                }
                int place = begin + taken;
                if (chosen == NONE || place < 0 || place >= row.length) {
                    return taken;
                }
                row[place] = take(chosen);
                taken++;
            }
            return taken;
        }

        /** Of a table of counts: holds told steps against the readings, as check() answers. */
        int follow(Syllables verse, int f, int[] told, int size) {
            begin(verse, f);
            for (int i = 0; i < size; i++) {
                listMoves();
                int chosen = NONE;
                for (int m = 0; m < moves; m++) {
                    if (valueOf(m) > 0 && isTold(steps[m], told, i)) {
                        chosen = m;
                    }
                }
                if (chosen == NONE) {
                    return i;
                }
                take(chosen);
            }
            return isOver() ? NONE : size;
        }

        private static boolean isTold(int step, int[] told, int i) {
            for (int part = 0; part < PARTS; part++) {
                int place = i * PARTS + part;
                if (place < 0 || place >= told.length || told[place] != partOf(step, part)) {
                    return false;
                }
            }
            return true;
        }

        static int wayOf(int step) {
            return step >> 12 & 15;
        }

        /** The licence that a step uses; NONE for one as it is. */
        static int licenceOf(int step) {
            switch (wayOf(step)) {
                case BY_STRIKE:
                    return Metre.STRUCK;
                case BY_TURN:
                    return Metre.TURNED;
                case BY_MELTING:
                    return Metre.MELTED;
                case BY_LOSS:
                    return Metre.LOST;
                case AS_EXTRA:
                    return Metre.EXTRA;
                default:
                    return NONE;
            }
        }

        /** Syllable, way, position, foot, place or mark of a step. */
        static int partOf(int step, int what) {
            if (what == 0) {
                return step >> 16;
            }
            if (what == 1) {
                return wayOf(step);
            }
            if (wayOf(step) >= BY_LOSS) {
                return NONE;
            }
            switch (what) {
                case 2:
                    return step >> 8 & 15;
                case 3:
                    return step >> 4 & 15;
                case 4:
                    return step >> 2 & 3;
                case 5:
                    return step & 3;
                default:
                    return NONE;
            }
        }
    }

    /** The readings that were laid out latest, in their order. */
    private static final class Readings {
        private static final int MOST = 200;

        private final Metre metre;
        private final Scanner scanner;
        private final Walker walker;
        private int[] steps = new int[0];
        private final int[] starts = new int[MOST + 1];
        private final int[] prices = new int[MOST];
        private final int[] order = new int[MOST];
        private int size = 0;

        Readings(Metre metre, Scanner scanner, Walker walker) {
            this.metre = metre;
            this.scanner = scanner;
            this.walker = walker;
        }

        int layOut(Syllables line, int f) {
            size = 0;
            int readings = scanner.howMany(line, f);
            if (readings > MOST) {
                return FULL;
            }
            int room = readings * line.size;
            if (room > steps.length) {
                steps = new int[Math.max(room, 2 * steps.length)];
            }
            for (int r = 0; r < readings; r++) {
                walker.begin(line, f);
                starts[r + 1] = starts[r] + walker.takeRanked(r, steps, starts[r]);
                prices[r] = priceOfSteps(starts[r], starts[r + 1]);
                putInOrder(r);
            }
            return readings;
        }

        int priceOf(int r) {
            return r >= 0 && r < size ? prices[order[r]] : NONE;
        }

        int lengthOf(int r) {
            return r >= 0 && r < size ? starts[order[r] + 1] - starts[order[r]] : NONE;
        }

        int partOf(int r, int i, int what) {
            if (i < 0 || i >= lengthOf(r) || what < 0 || what >= Walker.PARTS) {
                return NONE;
            }
            int at = starts[order[r]] + i;
            return at >= 0 && at < steps.length ? Walker.partOf(steps[at], what) : NONE;
        }

        private int priceOfSteps(int begin, int end) {
            int price = 0;
            for (int i = begin; i >= 0 && i < end && i < steps.length; i++) {
                int licence = Walker.licenceOf(steps[i]);
                price += licence == NONE ? 0 : metre.price(licence);
            }
            return price;
        }

        private void putInOrder(int reading) {
            int at = size;
            while (at > 0 && isAhead(reading, order[at - 1])) {
                at--;
            }
            for (int i = size; i > at; i--) {
                order[i] = order[i - 1];
            }
            order[at] = reading;
            size++;
        }

        private boolean isAhead(int a, int b) {
            if (prices[a] != prices[b]) {
                return prices[a] < prices[b];
            }
            int length = Math.min(starts[a + 1] - starts[a], starts[b + 1] - starts[b]);
            for (int i = 0; i < length; i++) {
                int mine = starts[a] + i;
                int theirs = starts[b] + i;
                if (mine >= 0 && theirs >= 0 && mine < steps.length && theirs < steps.length
                        && steps[mine] != steps[theirs]) {
                    return steps[mine] < steps[theirs];
                }
            }
            return false;
        }
    }

    /**
     * The least number of changes by which a line has a reading without licences. A cell has it for a
     * foot's code, whether a word ended behind the step ahead, and the next syllable.
     */
    private static final class Near {
        private static final int SIDE = Syllables.MOST + 1;
        private static final int NEVER = 1 << 20;

        private final Metre metre;
        private final int[] gates = new int[(Metre.POSITIONS + 1) * SIDE];
        private final int[] cells = new int[2 * Foot.CODES * SIDE];
        private Syllables line = null;
        private int form = 0;

        Near(Metre metre) {
            this.metre = metre;
        }

        int changes(Syllables verse, int f) {
            int positions = metre.positions(f);
            if (verse == null || verse.size < 1 || verse.size > Syllables.MOST || positions < 1) {
                return NONE;
            }
            line = verse;
            form = f;
            for (int i = 0; i <= line.size; i++) {
                gates[positions * SIDE + i] = line.size - i;
            }
            for (int p = positions - 1; p >= 0; p--) {
                fillGate(p);
            }
            return gates[0] >= NEVER ? NONE : gates[0];
        }

        private void fillGate(int p) {
            for (int i = 0; i <= line.size; i++) {
                gates[p * SIDE + i] = NEVER;
            }
            for (int k = 0; k < Metre.FEET; k++) {
                Foot foot = metre.footAt(form, p, k);
                if (foot != null) {
                    fillFoot(foot, p);
                    for (int i = 0; i <= line.size; i++) {
                        gates[p * SIDE + i] = Math.min(gates[p * SIDE + i], leastChoice(foot, Foot.BEGIN, i));
                    }
                }
            }
            for (int i = line.size - 1; i >= 0; i--) {
                gates[p * SIDE + i] = Math.min(gates[p * SIDE + i], 1 + gates[p * SIDE + i + 1]);
            }
        }

        /** Choices lead to greater codes alone, so the greater ones are filled first. */
        private void fillFoot(Foot foot, int p) {
            for (int i = line.size; i >= 0; i--) {
                for (int code = foot.codes() - 1; code >= 0; code--) {
                    setCell(code, false, i, stateValue(foot, p, code, false, i));
                    setCell(code, true, i, stateValue(foot, p, code, true, i));
                }
            }
        }

        private int stateValue(Foot foot, int p, int code, boolean wordEnd, int i) {
            int least = i < line.size ? 1 + cell(code, wordEnd, i + 1) : NEVER;
            if (wordEnd || !foot.asksCut(code)) {
                least = Math.min(least, leastChoice(foot, code, i));
            }
            if (foot.mayEnd(code) && (wordEnd || !metre.cutBehind(form, p))) {
                least = Math.min(least, gates[(p + 1) * SIDE + i]);
            }
            return least;
        }

        private int leastChoice(Foot foot, int code, int i) {
            int least = NEVER;
            for (int choice = 0; choice < 2; choice++) {
                int need = foot.need(code, choice);
                int next = foot.next(code, choice);
                if (need != NONE) {
                    least = Math.min(least, 1 + cell(next, false, i));
                }
                if (need != NONE && i >= 0 && i < line.size) {
                    int mark = line.marks[i];
                    int other = need == Foot.ANY || mark == Syllables.BOTH || mark == need ? 0 : 1;
                    least = Math.min(least, other + cell(next, line.endsWord(i), i + 1));
                }
            }
            return least;
        }

        private int cell(int code, boolean wordEnd, int i) {
            int at = (code * 2 + (wordEnd ? 1 : 0)) * SIDE + i;
            return i >= 0 && i < SIDE && at >= 0 && at < cells.length ? cells[at] : NEVER;
        }

        private void setCell(int code, boolean wordEnd, int i, int value) {
            int at = (code * 2 + (wordEnd ? 1 : 0)) * SIDE + i;
            if (i >= 0 && i < SIDE && at >= 0 && at < cells.length) {
                cells[at] = value;
            }
        }
    }

    /** The lines that were kept, their rhymes, and the poem form that they are laid on. */
    private static final class Poem {
        private static final int LINES = 12;
        private static final int PLACES = 12;
        private static final int LETTERS = 6;
        private static final int MOST_LEFT_OUT = 6;

        private final Metre metre;
        private final Scanner scanner;
        private final Walker walker;
        private final Syllables[] lines = new Syllables[LINES];
        private int lineCount = 0;
        private final int[] forms = new int[PLACES];
        private final int[] letters = new int[PLACES];
        private final int[] agains = new int[PLACES];
        private int mayMiss = 0;
        private int placeCount = 0;
        private final int[] costs = new int[LINES * Metre.FORMS];
        private final int[] trial = new int[PLACES];
        private int trialFaults = 0;
        private int trialPrice = 0;
        private final int[] laid = new int[PLACES];
        private int faults = NONE;
        private int price = NONE;
        private int leftOut = NONE;
        private final int[] firsts = new int[LETTERS];

        Poem(Metre metre, Scanner scanner, Walker walker) {
            this.metre = metre;
            this.scanner = scanner;
            this.walker = walker;
            Arrays.fill(laid, NONE);
        }

        int lineCount() {
            return lineCount;
        }

        int placeCount() {
            return placeCount;
        }

        private Syllables lineAt(int k) {
            return k >= 0 && k < LINES ? lines[k] : null;
        }

        int keepLine(int k, Syllables line) {
            if (k < 0 || k >= LINES) {
                return RANGE;
            }
            if (lines[k] == null) {
                lineCount++;
            }
            lines[k] = line;
            return lineCount;
        }

        int dropLine(int k) {
            if (k < 0 || k >= LINES) {
                return RANGE;
            }
            if (lines[k] == null) {
                return NONE;
            }
            lines[k] = null;
            lineCount--;
            return lineCount;
        }

        int rhymeOf(int a, int b) {
            Syllables one = lineAt(a);
            Syllables other = lineAt(b);
            if (one == null || other == null) {
                return NONE;
            }
            if (one.fullRhyme(other)) {
                return 3;
            }
            if (one.halfRhyme(other)) {
                return 2;
            }
            return one.eyeRhyme(other) ? 1 : 0;
        }

        int letterOf(int k) {
            if (lineAt(k) == null) {
                return NONE;
            }
            int letter = 0;
            int first = firstOfRhyme(k);
            for (int i = 0; i < first; i++) {
                if (lineAt(i) != null && firstOfRhyme(i) == i) {
                    letter++;
                }
            }
            return letter;
        }

        /** The first line with the full rhyme of a line that is there. */
        private int firstOfRhyme(int k) {
            Syllables line = lineAt(k);
            for (int i = 0; i < k && line != null; i++) {
                if (lineAt(i) != null && lineAt(i).fullRhyme(line)) {
                    return i;
                }
            }
            return k;
        }

        int setPlace(int i, int f, int letter, int again, boolean may) {
            if (i < 0 || i >= PLACES || i > placeCount || f < 0 || f >= Metre.FORMS) {
                return RANGE;
            }
            if (letter < NONE || letter >= LETTERS || again < NONE || again >= i) {
                return RANGE;
            }
            int others = mayMiss & ~(1 << i);
            if (may && Integer.bitCount(others) >= MOST_LEFT_OUT) {
                return RANGE;
            }
            mayMiss = may ? others | 1 << i : others;
            forms[i] = f;
            letters[i] = letter;
            agains[i] = again;
            placeCount = Math.max(placeCount, i + 1);
            return placeCount;
        }

        int layLines() {
            if (placeCount == 0) {
                return NONE;
            }
            int ahead = 0;
            for (int k = 0; k < LINES; k++) {
                for (int f = 0; f < Metre.FORMS; f++) {
                    boolean asked = lines[k] != null && mayLieOn(ahead, f);
                    costs[k * Metre.FORMS + f] = asked ? scanner.cheapest(lines[k], f) : NONE;
                }
                ahead += lines[k] != null ? 1 : 0;
            }
            int out = 0;
            for (int round = 0; round < 1 << MOST_LEFT_OUT; round++) {
                layWithout(out);
                if (round == 0 || trialFaults < faults || trialFaults == faults && trialPrice < price) {
                    faults = trialFaults;
                    price = trialPrice;
                    leftOut = out;
                    System.arraycopy(trial, 0, laid, 0, PLACES);
                }
                out = out - mayMiss & mayMiss;
                if (out == 0) {
                    break;
                }
            }
            return faults;
        }

        /** Whether a line with so many lines ahead may come to lie on a place of form f. */
        private boolean mayLieOn(int ahead, int f) {
            for (int i = ahead; i >= 0 && i < placeCount && i < PLACES; i++) {
                int mayBeLeftOut = Integer.bitCount(mayMiss & (1 << i) - 1);
                if (forms[i] == f && i - ahead <= mayBeLeftOut) {
                    return true;
                }
            }
            return false;
        }

        private void layWithout(int out) {
            int k = nextLine(0);
            trialFaults = 0;
            trialPrice = 0;
            Arrays.fill(firsts, NONE);
            for (int i = 0; i < PLACES; i++) {
                trial[i] = NONE;
                if (i >= placeCount || (out >> i & 1) == 1) {
                    continue;
                }
                if (k < LINES) {
                    trial[i] = k;
                    weighLine(i, k);
                    k = nextLine(k + 1);
                } else {
                    trialFaults++;
                }
            }
            for (int i = 0; i < LINES && k < LINES; i++) {
                trialFaults++;
                k = nextLine(k + 1);
            }
        }

        private int nextLine(int from) {
            int k = Math.max(0, from);
            while (k < LINES && lines[k] == null) {
                k++;
            }
            return k;
        }

        /** Adds the faults and the price of line k, laid on place i behind all earlier ones. */
        private void weighLine(int i, int k) {
            int cost = costs[k * Metre.FORMS + forms[i]];
            trialFaults += cost == NONE ? 1 : 0;
            trialPrice += cost == NONE ? 0 : cost;
            int letter = letters[i];
            if (letter >= 0 && letter < LETTERS) {
                if (firsts[letter] == NONE) {
                    firsts[letter] = k;
                } else if (rhymeOf(firsts[letter], k) != 3) {
                    trialFaults++;
                }
            }
            int again = agains[i];
            if (again >= 0 && again < i) {
                Syllables line = lineAt(k);
                Syllables earlier = lineAt(trial[again]);
                trialFaults += earlier != null && line != null && line.sameWords(earlier) ? 0 : 1;
            }
        }

        int laidOut(int what) {
            switch (what) {
                case 0:
                    return faults;
                case 1:
                    return price;
                case 2:
                    return leftOut;
                default:
                    return what >= 10 && what < 10 + PLACES ? laid[what - 10] : NONE;
            }
        }

        int learnPrices(int f) {
            int[] uses = new int[Metre.LICENCES];
            int steps = 0;
            int read = 0;
            for (int k = 0; k < LINES; k++) {
                if (lines[k] != null && scanner.cheapest(lines[k], f) != NONE) {
                    read++;
                    walker.begin(lines[k], f);
                    steps += countUses(uses);
                }
            }
            if (read == 0) {
                return NONE;
            }
            metre.setByUse(uses, steps);
            return read;
        }

        /** Adds the licences of the first of the cheapest readings to their uses: how many steps it has. */
        private int countUses(int[] uses) {
            int steps = 0;
            for (int i = 0; i < Syllables.MOST && !walker.isOver(); i++) {
                walker.listMoves();
                int step = walker.takeCheapest();
                if (step == NONE) {
                    return steps;
                }
                int licence = Walker.licenceOf(step);
                if (licence >= 0 && licence < uses.length) {
                    uses[licence]++;
                }
                steps++;
            }
            return steps;
        }
    }
}
