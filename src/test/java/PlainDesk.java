import java.util.ArrayList;
import java.util.Arrays;
import java.util.Comparator;
import java.util.List;
import java.util.TreeMap;

/**
 * The document told once more, slowly: readings are found by writing out every row of places that a
 * form can ask for and laying the line on each. AgainstPlain holds MetreDesk against it.
 */
final class PlainDesk {
    static final int NONE = -1;
    static final int RANGE = -2;
    static final int FULL = -3;

    /** What a place of a written-out form asks for. */
    static final class Slot {
        int position;
        int foot;
        int place;
        char need;
        boolean cut;
    }

    static final class Syl {
        String text;
        int mark;
        int word;
        boolean ofBook;
        List<String> sounds = new ArrayList<>();
        List<Boolean> vowels = new ArrayList<>();

        boolean opens() {
            return vowels.get(0);
        }

        boolean closes() {
            return vowels.get(vowels.size() - 1);
        }
    }

    static final class FootRow {
        int sort;
        String row;
        int x;
        int y;
    }

    static final class Reading {
        int price;
        List<int[]> steps = new ArrayList<>();
    }

    static final class PoemPlace {
        int form;
        int letter;
        int again;
        boolean may;
    }

    final List<Integer> tape = new ArrayList<>();
    final boolean[] vowel = new boolean[26];
    final TreeMap<String, Integer> pairs = new TreeMap<>();
    final TreeMap<String, List<String>> book = new TreeMap<>();
    final FootRow[] feet = new FootRow[12];
    final List<List<Integer>> forms = new ArrayList<>();
    final int[] cuts = new int[8];
    final int[] prices = {-1, -1, -1, -1, -1};
    List<Syl> line = null;
    int fault = 0;
    int faultPlace = NONE;
    List<Reading> laid = new ArrayList<>();
    List<int[]> row = new ArrayList<>();
    final TreeMap<Integer, List<Syl>> poem = new TreeMap<>();
    final List<PoemPlace> places = new ArrayList<>();
    int[] judged = null;
    List<List<String>> fitting = new ArrayList<>();

    PlainDesk() {
        for (char c : "aeiou".toCharArray()) {
            vowel[c - 'a'] = true;
        }
        for (int f = 0; f < 8; f++) {
            forms.add(new ArrayList<>());
        }
    }

    int feed(int a, int b, int c, int d, int e) {
        if (tape.size() > 220) {
            return FULL;
        }
        for (int n : new int[] {a, b, c, d, e}) {
            for (int k = 3; k >= 0; k--) {
                tape.add((n >> (8 * k)) & 255);
            }
        }
        return tape.size();
    }

    int end(int n) {
        if (n < 0 || n > tape.size()) {
            return NONE;
        }
        while (tape.size() > n) {
            tape.remove(tape.size() - 1);
        }
        return n;
    }

    private String read() {
        StringBuilder text = new StringBuilder();
        for (int b : tape) {
            text.append((char) b);
        }
        tape.clear();
        return text.toString();
    }

    int vowel(int letter, boolean on) {
        if (letter < 0 || letter > 25) {
            return RANGE;
        }
        vowel[letter] = on;
        return count(0);
    }

    int pair(int a, int b, int sort) {
        if (a < 0 || a > 25 || b < 0 || b > 25 || sort < 0 || sort > 2) {
            return RANGE;
        }
        String two = "" + (char) ('a' + a) + (char) ('a' + b);
        if (sort == 0) {
            pairs.remove(two);
        } else if (!pairs.containsKey(two) && pairs.size() == 12) {
            return FULL;
        } else {
            pairs.put(two, sort);
        }
        return pairs.size();
    }

    private List<String> sounds(String text) {
        List<String> all = new ArrayList<>();
        int i = 0;
        while (i < text.length()) {
            int length = i + 2 <= text.length() && pairs.containsKey(text.substring(i, i + 2)) ? 2 : 1;
            all.add(text.substring(i, i + length));
            i += length;
        }
        return all;
    }

    private boolean isVowel(String sound) {
        return sound.length() == 2 ? pairs.get(sound) == 1 : vowel[sound.charAt(0) - 'a'];
    }

    private int vowelsOf(String text) {
        int n = 0;
        for (String s : sounds(text)) {
            n += isVowel(s) ? 1 : 0;
        }
        return n;
    }

    int word() {
        String text = read();
        List<String> syllables = new ArrayList<>();
        StringBuilder letters = new StringBuilder();
        StringBuilder part = new StringBuilder();
        for (char c : text.toCharArray()) {
            if (c >= 'a' && c <= 'z') {
                part.append(c);
                letters.append(c);
            } else if ("+-*".indexOf(c) >= 0) {
                if (part.length() == 0 || vowelsOf(part.toString()) != 1) {
                    return NONE;
                }
                syllables.add(part.toString() + c);
                part.setLength(0);
            } else {
                return NONE;
            }
        }
        if (part.length() > 0 || syllables.isEmpty() || letters.length() > 16) {
            return NONE;
        }
        if (!book.containsKey(letters.toString()) && book.size() == 40) {
            return FULL;
        }
        book.put(letters.toString(), syllables);
        return syllables.size();
    }

    int unword() {
        return book.remove(read()) == null ? NONE : book.size();
    }

    int foot(int k, int sort, int row, int x, int y) {
        if (k < 0 || k > 11 || sort < 0 || sort > 4 || row < 1) {
            return RANGE;
        }
        FootRow foot = new FootRow();
        foot.sort = sort;
        foot.row = "" + row;
        foot.x = x;
        foot.y = y;
        if (sort == 4) {
            if (row > 3 || x < 0 || x > 3 || y < 0 || y > 3 || y < x) {
                return RANGE;
            }
            feet[k] = foot;
            return row;
        }
        if (!foot.row.matches(sort == 0 ? "[123]{1,4}" : "[1234]{1,4}") || y != 0) {
            return RANGE;
        }
        if (sort == 3 ? x < 1 || x > foot.row.length() - 1 : x != 0) {
            return RANGE;
        }
        feet[k] = foot;
        return foot.row.length();
    }

    int form(int f, int i, int set) {
        if (f < 0 || f > 7 || i < 0 || i > 7 || i > forms.get(f).size() || set < 1 || set > 4095) {
            return RANGE;
        }
        if (i == forms.get(f).size()) {
            forms.get(f).add(set);
        } else {
            forms.get(f).set(i, set);
        }
        return forms.get(f).size();
    }

    int cut(int f, int set) {
        if (f < 0 || f > 7 || set < 0 || set > 255) {
            return RANGE;
        }
        int before = cuts[f];
        cuts[f] = set;
        return before;
    }

    int licence(int l, int price) {
        if (l < 0 || l > 4 || price < -1 || price > 50) {
            return RANGE;
        }
        int before = prices[l];
        prices[l] = price;
        return before;
    }

    private Syl syl(String text, int mark, int word, boolean ofBook) {
        Syl s = new Syl();
        s.text = text;
        s.mark = mark;
        s.word = word;
        s.ofBook = ofBook;
        for (String sound : sounds(text)) {
            s.sounds.add(sound);
            s.vowels.add(isVowel(sound));
        }
        return s;
    }

    private List<Syl> fromBook(String word, int number) {
        List<Syl> all = new ArrayList<>();
        for (String s : book.get(word)) {
            all.add(syl(s.substring(0, s.length() - 1), 1 + "+-*".indexOf(s.charAt(s.length() - 1)), number, true));
        }
        return all;
    }

    private List<Syl> byRules(String word, int number) {
        List<String> sounds = sounds(word);
        List<Integer> middles = new ArrayList<>();
        for (int i = 0; i < sounds.size(); i++) {
            if (isVowel(sounds.get(i))) {
                middles.add(i);
            }
        }
        List<Syl> all = new ArrayList<>();
        int begin = 0;
        for (int m = 0; m < middles.size(); m++) {
            int middle = middles.get(m);
            int end = sounds.size();
            if (m + 1 < middles.size()) {
                end = middles.get(m + 1);
                if (end - middle > 1) {
                    end--;
                }
            }
            boolean heavy = sounds.get(middle).length() == 2 || !isVowel(sounds.get(end - 1));
            all.add(syl(String.join("", sounds.subList(begin, end)), heavy ? 1 : 2, number, false));
            begin = end;
        }
        return all;
    }

    private static boolean isLetter(char sign) {
        return sign >= 'a' && sign <= 'z';
    }

    private int stop(int sort, int at) {
        fault = sort;
        faultPlace = at;
        return NONE;
    }

    int line() {
        String text = read();
        List<Syl> all = new ArrayList<>();
        int words = 0;
        int i = 0;
        while (i < text.length()) {
            if (text.charAt(i) == ' ') {
                i++;
                continue;
            }
            if (!isLetter(text.charAt(i))) {
                return stop(1, i);
            }
            int begin = i;
            while (i < text.length() && isLetter(text.charAt(i))) {
                i++;
            }
            String word = text.substring(begin, i);
            if (word.length() > 16) {
                return stop(2, begin);
            }
            if (!book.containsKey(word) && vowelsOf(word) == 0) {
                return stop(3, begin);
            }
            all.addAll(book.containsKey(word) ? fromBook(word, words) : byRules(word, words));
            words++;
            if (words > 12 || all.size() > 40) {
                return stop(4, begin);
            }
        }
        if (words == 0) {
            return stop(5, text.length());
        }
        fault = 0;
        faultPlace = NONE;
        line = all;
        return all.size();
    }

    int fault(int what) {
        return what == 0 ? fault : what == 1 ? faultPlace : NONE;
    }

    int syllable(int i, int what) {
        if (line == null || i < 0 || i >= line.size()) {
            return NONE;
        }
        Syl s = line.get(i);
        if (what >= 10 && what < 10 + s.text.length()) {
            return s.text.charAt(what - 10);
        }
        return what == 0 ? s.word : what == 1 ? s.mark : what == 2 ? s.text.length() : what == 3 ? (s.ofBook ? 1 : 0) : NONE;
    }

    // ---- readings

    /** Every row of places that the form can ask for. */
    private List<List<Slot>> written(int f) {
        List<List<Slot>> all = new ArrayList<>();
        all.add(new ArrayList<>());
        int positions = forms.get(f).size();
        for (int p = 0; p < positions; p++) {
            List<List<Slot>> longer = new ArrayList<>();
            for (int k = 0; k < 12; k++) {
                boolean here = (forms.get(f).get(p) >> k & 1) == 1 && feet[k] != null;
                if (!here || feet[k].sort == 2 && p != positions - 1) {
                    continue;
                }
                for (String[] needs : needsOf(feet[k])) {
                    for (List<Slot> head : all) {
                        List<Slot> whole = new ArrayList<>(head);
                        addSlots(whole, needs, p, k, (cuts[f] >> p & 1) == 1);
                        longer.add(whole);
                    }
                }
            }
            all = longer;
        }
        return all;
    }

    private void addSlots(List<Slot> whole, String[] needs, int p, int k, boolean cut) {
        for (int place = 0; place < needs.length; place++) {
            for (int i = 0; i < needs[place].length(); i++) {
                Slot slot = new Slot();
                slot.position = p;
                slot.foot = k;
                slot.place = place;
                slot.need = needs[place].charAt(i);
                boolean lastOfPlace = i == needs[place].length() - 1;
                slot.cut = lastOfPlace && feet[k].sort == 3 && place == feet[k].x - 1
                        || lastOfPlace && cut && place == needs.length - 1;
                whole.add(slot);
            }
        }
    }

    /** The ways to fill a foot, as what each place needs: H, L, A (any), LL. */
    private List<String[]> needsOf(FootRow foot) {
        List<String[]> all = new ArrayList<>();
        all.add(new String[0]);
        int length = foot.sort == 4 ? Integer.parseInt(foot.row) : foot.row.length();
        for (int i = 0; i < length; i++) {
            List<String> choices = new ArrayList<>();
            if (foot.sort == 4) {
                for (int light = foot.x; light <= foot.y; light++) {
                    choices.add("H" + "L".repeat(light));
                }
            } else if (foot.sort == 2 && i == length - 1) {
                choices.add("A");
            } else {
                char digit = foot.row.charAt(i);
                choices.add(digit == '1' || digit == '4' ? "H" : digit == '2' ? "L" : "A");
                if (digit == '4') {
                    choices.add("LL");
                }
            }
            List<String[]> longer = new ArrayList<>();
            for (String[] head : all) {
                for (String choice : choices) {
                    String[] whole = Arrays.copyOf(head, head.length + 1);
                    whole[head.length] = choice;
                    longer.add(whole);
                }
            }
            all = longer;
        }
        return all;
    }

    private static boolean lastOfWord(List<Syl> l, int i) {
        return i == l.size() - 1 || l.get(i + 1).word != l.get(i).word;
    }

    private boolean losable(List<Syl> l, int i) {
        return prices[0] >= 0 && i + 1 < l.size() && lastOfWord(l, i) && i > 0 && l.get(i - 1).word == l.get(i).word
                && l.get(i).closes() && l.get(i + 1).opens();
    }

    private boolean meltable(List<Syl> l, int i) {
        return prices[1] >= 0 && i + 1 < l.size() && !lastOfWord(l, i) && l.get(i).closes() && l.get(i + 1).opens();
    }

    List<Reading> readings(List<Syl> l, int f) {
        List<Reading> all = new ArrayList<>();
        for (List<Slot> slots : written(f)) {
            lay(l, slots, 0, 0, new ArrayList<>(), all);
        }
        for (Reading r : all) {
            for (int[] s : r.steps) {
                int l2 = new int[] {-1, 2, 3, 1, 0, 4}[s[1]];
                r.price += l2 < 0 ? 0 : prices[l2];
            }
        }
        all.sort(new Comparator<Reading>() {
            public int compare(Reading a, Reading b) {
                if (a.price != b.price) {
                    return a.price - b.price;
                }
                for (int i = 0; i < Math.min(a.steps.size(), b.steps.size()); i++) {
                    for (int part = 1; part < 6; part++) {
                        int d = a.steps.get(i)[part] - b.steps.get(i)[part];
                        if (d != 0) {
                            return d;
                        }
                    }
                }
                throw new IllegalStateException("the same reading twice");
            }
        });
        return all;
    }

    private void lay(List<Syl> l, List<Slot> slots, int i, int j, List<int[]> steps, List<Reading> all) {
        if (i == l.size()) {
            if (j == slots.size() && cutsKept(l, slots, steps)) {
                Reading r = new Reading();
                r.steps.addAll(steps);
                all.add(r);
            }
            return;
        }
        if (losable(l, i)) {
            go(l, slots, i + 1, j, steps, all, new int[] {i, 4, NONE, NONE, NONE, NONE});
        }
        if (j == slots.size()) {
            if (i == l.size() - 1 && l.size() > 1 && l.get(i).mark != 1 && prices[4] >= 0) {
                go(l, slots, i + 1, j, steps, all, new int[] {i, 5, NONE, NONE, NONE, NONE});
            }
            return;
        }
        Slot s = slots.get(j);
        int mark = l.get(i).mark;
        if (s.need == 'H') {
            if (mark != 2) {
                go(l, slots, i + 1, j + 1, steps, all, new int[] {i, 0, s.position, s.foot, s.place, 1});
            } else if (prices[2] >= 0) {
                go(l, slots, i + 1, j + 1, steps, all, new int[] {i, 1, s.position, s.foot, s.place, 1});
            }
        } else if (s.need == 'L') {
            if (mark != 1) {
                go(l, slots, i + 1, j + 1, steps, all, new int[] {i, 0, s.position, s.foot, s.place, 2});
            } else if (i == 0 && prices[3] >= 0) {
                go(l, slots, i + 1, j + 1, steps, all, new int[] {i, 2, s.position, s.foot, s.place, 2});
            }
        } else {
            go(l, slots, i + 1, j + 1, steps, all, new int[] {i, 0, s.position, s.foot, s.place, mark == 2 ? 2 : 1});
        }
        if (s.need != 'L' && meltable(l, i)) {
            go(l, slots, i + 2, j + 1, steps, all, new int[] {i, 3, s.position, s.foot, s.place, 1});
        }
    }

    private void go(List<Syl> l, List<Slot> slots, int i, int j, List<int[]> steps, List<Reading> all, int[] step) {
        steps.add(step);
        lay(l, slots, i, j, steps, all);
        steps.remove(steps.size() - 1);
    }

    private boolean cutsKept(List<Syl> l, List<Slot> slots, List<int[]> steps) {
        int j = 0;
        for (int s = 0; s < steps.size(); s++) {
            if (steps.get(s)[1] >= 4) {
                continue;
            }
            int last = steps.get(s)[0] + (steps.get(s)[1] == 3 ? 1 : 0);
            boolean ends = lastOfWord(l, last)
                    || lastOfWord(l, last + 1) && s + 1 < steps.size() && steps.get(s + 1)[1] == 4;
            if (slots.get(j).cut && !ends) {
                return false;
            }
            j++;
        }
        return true;
    }

    private boolean cannot(int f) {
        return line == null || f < 0 || f > 7 || forms.get(f).isEmpty();
    }

    int scan(int f) {
        return cannot(f) ? RANGE : readings(line, f).size();
    }

    int best(int f) {
        if (cannot(f)) {
            return RANGE;
        }
        List<Reading> all = readings(line, f);
        return all.isEmpty() ? NONE : all.get(0).price;
    }

    int lay(int f) {
        if (cannot(f)) {
            return RANGE;
        }
        laid = readings(line, f);
        if (laid.size() > 200) {
            laid = new ArrayList<>();
            return FULL;
        }
        return laid.size();
    }

    int reading(int r, int what) {
        if (r < 0 || r >= laid.size()) {
            return NONE;
        }
        return what == 0 ? laid.get(r).price : what == 1 ? laid.get(r).steps.size() : NONE;
    }

    int step(int r, int i, int what) {
        if (r < 0 || r >= laid.size() || i < 0 || i >= laid.get(r).steps.size() || what < 0 || what > 5) {
            return NONE;
        }
        return laid.get(r).steps.get(i)[what];
    }

    // ---- near

    int near(int f) {
        if (cannot(f)) {
            return RANGE;
        }
        int least = 1000;
        for (List<Slot> slots : written(f)) {
            int[][][] known = new int[line.size() + 1][slots.size() + 1][3];
            least = Math.min(least, changes(slots, 0, 0, 2, known));
        }
        return least >= 1000 ? NONE : least;
    }

    /** ended: 1 when a word ends behind the step that filled place j - 1, 0 when not, 2 ahead of all. */
    private int changes(List<Slot> slots, int i, int j, int ended, int[][][] known) {
        if (known[i][j][ended] > 0) {
            return known[i][j][ended] - 1;
        }
        int least = 1000;
        if (j > 0 && slots.get(j - 1).cut && ended == 0) {
            least = 1000;
        } else {
            if (i == line.size() && j == slots.size()) {
                least = 0;
            }
            if (j < slots.size()) {
                least = Math.min(least, 1 + changes(slots, i, j + 1, 0, known));
            }
            if (i < line.size()) {
                least = Math.min(least, 1 + changes(slots, i + 1, j, ended, known));
            }
            if (i < line.size() && j < slots.size()) {
                char need = slots.get(j).need;
                int mark = line.get(i).mark;
                boolean as = need == 'A' || mark == 3 || need == (mark == 1 ? 'H' : 'L');
                int rest = changes(slots, i + 1, j + 1, lastOfWord(line, i) ? 1 : 0, known);
                least = Math.min(least, (as ? 0 : 1) + rest);
            }
        }
        least = Math.min(least, 1000);
        known[i][j][ended] = least + 1;
        return least;
    }

    // ---- told steps

    int tell(int syllable, int way, int position, int foot, int place, int mark) {
        if (row.size() == 40) {
            return FULL;
        }
        row.add(new int[] {syllable, way, position, foot, place, mark});
        return row.size();
    }

    int check(int f) {
        if (cannot(f)) {
            return RANGE;
        }
        List<int[]> told = row;
        row = new ArrayList<>();
        int most = 0;
        for (Reading r : readings(line, f)) {
            int same = 0;
            while (same < told.size() && same < r.steps.size() && Arrays.equals(told.get(same), r.steps.get(same))) {
                same++;
            }
            if (same == told.size() && same == r.steps.size()) {
                return NONE;
            }
            most = Math.max(most, same);
        }
        return most;
    }

    // ---- poems

    int keep(int k) {
        if (k < 0 || k > 11 || line == null) {
            return RANGE;
        }
        poem.put(k, line);
        return poem.size();
    }

    int drop(int k) {
        if (k < 0 || k > 11) {
            return RANGE;
        }
        return poem.remove(k) == null ? NONE : poem.size();
    }

    /** The sounds of a line's ending, the vowels of it alone when asked so. */
    private static String ending(List<Syl> l, boolean vowelsAlone) {
        int first = l.size() - 1;
        for (int i = 0; i < l.size(); i++) {
            if (l.get(i).mark == 1) {
                first = i;
            }
        }
        boolean any = false;
        for (int i = l.size() - 1; i >= 0; i--) {
            any |= l.get(i).mark == 1;
        }
        first = any ? first : l.size() - 1;
        StringBuilder all = new StringBuilder();
        for (int i = first; i < l.size(); i++) {
            Syl s = l.get(i);
            int from = i == first && s.vowels.contains(true) ? s.vowels.indexOf(true) : 0;
            for (int j = from; j < s.sounds.size(); j++) {
                if (!vowelsAlone || s.vowels.get(j)) {
                    all.append(s.sounds.get(j)).append('.');
                }
            }
        }
        return all.toString();
    }

    private static String lastTwo(List<Syl> l) {
        StringBuilder word = new StringBuilder();
        for (Syl s : l) {
            if (s.word == l.get(l.size() - 1).word) {
                word.append(s.text);
            }
        }
        return word.length() == 1 ? word.toString() : word.substring(word.length() - 2);
    }

    private static String words(List<Syl> l) {
        StringBuilder all = new StringBuilder();
        for (int i = 0; i < l.size(); i++) {
            all.append(l.get(i).text).append(lastOfWord(l, i) ? " " : "");
        }
        return all.toString();
    }

    int rhyme(int a, int b) {
        if (!poem.containsKey(a) || !poem.containsKey(b)) {
            return NONE;
        }
        List<Syl> one = poem.get(a);
        List<Syl> other = poem.get(b);
        if (ending(one, false).equals(ending(other, false))) {
            return 3;
        }
        if (ending(one, true).equals(ending(other, true))) {
            return 2;
        }
        return lastTwo(one).equals(lastTwo(other)) ? 1 : 0;
    }

    int scheme(int k) {
        List<String> seen = new ArrayList<>();
        for (int i : poem.keySet()) {
            String e = ending(poem.get(i), false);
            if (!seen.contains(e)) {
                seen.add(e);
            }
            if (i == k) {
                return seen.indexOf(e);
            }
        }
        return NONE;
    }

    int place(int i, int f, int letter, int again, boolean may) {
        if (i < 0 || i > 11 || i > places.size() || f < 0 || f > 7 || letter < -1 || letter > 5
                || again < -1 || again >= i) {
            return RANGE;
        }
        PoemPlace p = new PoemPlace();
        p.form = f;
        p.letter = letter;
        p.again = again;
        p.may = may;
        List<PoemPlace> changed = new ArrayList<>(places);
        if (i < changed.size()) {
            changed.set(i, p);
        } else {
            changed.add(p);
        }
        int out = 0;
        for (PoemPlace q : changed) {
            out += q.may ? 1 : 0;
        }
        if (may && out > 6) {
            return RANGE;
        }
        places.clear();
        places.addAll(changed);
        return places.size();
    }

    int judge() {
        if (places.isEmpty()) {
            return NONE;
        }
        int[] bestYet = null;
        for (int out = 0; out < 1 << places.size(); out++) {
            boolean may = true;
            for (int i = 0; i < places.size(); i++) {
                may &= (out >> i & 1) == 0 || places.get(i).may;
            }
            if (!may) {
                continue;
            }
            int[] now = layPoem(out);
            if (bestYet == null || now[0] < bestYet[0] || now[0] == bestYet[0] && now[1] < bestYet[1]) {
                bestYet = now;
            }
        }
        judged = bestYet;
        return judged[0];
    }

    private int[] layPoem(int out) {
        int[] now = new int[22];
        Arrays.fill(now, NONE);
        List<Integer> rest = new ArrayList<>(poem.keySet());
        int faults = 0;
        int price = 0;
        for (int i = 0; i < places.size(); i++) {
            if ((out >> i & 1) == 1) {
                continue;
            }
            if (rest.isEmpty()) {
                faults++;
                continue;
            }
            now[10 + i] = rest.remove(0);
            List<Syl> l = poem.get(now[10 + i]);
            List<Reading> all = readings(l, places.get(i).form);
            if (forms.get(places.get(i).form).isEmpty() || all.isEmpty()) {
                faults++;
            } else {
                price += all.get(0).price;
            }
            if (places.get(i).letter != NONE) {
                for (int j = 0; j < i; j++) {
                    if (places.get(j).letter == places.get(i).letter && now[10 + j] != NONE) {
                        faults += rhyme(now[10 + j], now[10 + i]) == 3 ? 0 : 1;
                        break;
                    }
                }
            }
            int again = places.get(i).again;
            if (again != NONE && (now[10 + again] == NONE || !words(poem.get(now[10 + again])).equals(words(l)))) {
                faults++;
            }
        }
        now[0] = faults + rest.size();
        now[1] = price;
        now[2] = out;
        return now;
    }

    int judged(int what) {
        if (judged == null || what < 0 || what > 2 && what < 10 || what > 21) {
            return NONE;
        }
        return judged[what];
    }

    // ---- gaps, prices

    int fits(int f, int w, int price) {
        if (cannot(f) || w < 0 || w > line.get(line.size() - 1).word) {
            return RANGE;
        }
        fitting = new ArrayList<>();
        for (String word : book.keySet()) {
            List<Syl> changed = new ArrayList<>();
            for (Syl s : line) {
                if (s.word < w) {
                    changed.add(s);
                }
            }
            changed.addAll(fromBook(word, w));
            for (Syl s : line) {
                if (s.word > w) {
                    changed.add(s);
                }
            }
            if (changed.size() > 40) {
                continue;
            }
            List<Reading> all = readings(changed, f);
            if (!all.isEmpty() && all.get(0).price <= price) {
                List<String> told = new ArrayList<>(book.get(word));
                told.add(0, word);
                fitting.add(told);
            }
        }
        return fitting.size();
    }

    int fit(int i, int what) {
        if (i < 0 || i >= fitting.size()) {
            return NONE;
        }
        String word = fitting.get(i).get(0);
        if (what >= 10 && what < 10 + word.length()) {
            return word.charAt(what - 10);
        }
        return what == 0 ? fitting.get(i).size() - 1 : what == 1 ? word.length() : NONE;
    }

    int learn(int f) {
        if (f < 0 || f > 7 || forms.get(f).isEmpty()) {
            return RANGE;
        }
        int[] uses = new int[6];
        int steps = 0;
        int lines = 0;
        for (List<Syl> l : poem.values()) {
            List<Reading> all = readings(l, f);
            if (all.isEmpty()) {
                continue;
            }
            lines++;
            for (int[] s : all.get(0).steps) {
                uses[s[1]]++;
                steps++;
            }
        }
        if (lines == 0) {
            return NONE;
        }
        int[] ways = {4, 3, 1, 2, 5};
        for (int l = 0; l < 5; l++) {
            if (prices[l] >= 0) {
                float part = (float) uses[ways[l]] / (float) steps;
                prices[l] = Math.max(1, 50 - (int) (50f * part));
            }
        }
        return lines;
    }

    int count(int what) {
        if (what >= 10 && what < 15) {
            return prices[what - 10];
        }
        int vowels = 0;
        for (boolean v : vowel) {
            vowels += v ? 1 : 0;
        }
        switch (what) {
            case 0:
                return vowels;
            case 1:
                return pairs.size();
            case 2:
                return book.size();
            case 3:
                return line == null ? NONE : line.get(line.size() - 1).word + 1;
            case 4:
                return line == null ? NONE : line.size();
            case 5:
                return poem.size();
            case 6:
                return places.size();
            case 7:
                return row.size();
            case 8:
                return tape.size();
            default:
                return NONE;
        }
    }
}
