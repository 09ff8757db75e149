import java.util.List;
import java.util.Random;

/** Runs of random calls, each asked of MetreDesk and of PlainDesk; prints every answer that differs. */
public final class AgainstPlain {
    private static final String[] WORDS = {"roma", "amo", "a", "e", "aer", "bolo", "tara", "mia", "deo", "ar", "ora",
        "aria", "bora", "ae", "boa", "abra", "erro", "ioa", "lae", "tra", "by", "abba", "o", "ita", "art", "io",
        "ai", "toe", "ode", "est"};
    private static final String[] TOLD = {"ro+ma*", "a+mo-", "a*", "e-", "a-er*", "mi-a+", "de-o*", "a+", "bo-a-",
        "o+ra*", "by+", "ba+by-", "ab+a", "+", "a", "ae+", "to*", "ba-be-bi-", "aa+", "tr+", "ta#", "o-a-e-"};

    private final Random random;
    private final MetreDesk desk = new MetreDesk();
    private final PlainDesk plain = new PlainDesk();
    private final StringBuilder run = new StringBuilder();
    private int wrong = 0;

    private AgainstPlain(long seed) {
        random = new Random(seed);
    }

    public static void main(String[] args) {
        int runs = args.length > 0 ? Integer.parseInt(args[0]) : 1500;
        int from = args.length > 1 ? Integer.parseInt(args[1]) : 0;
        int wrong = 0;
        for (int seed = from; seed < from + runs && wrong < 5; seed++) {
            AgainstPlain one = new AgainstPlain(seed);
            one.play();
            if (one.wrong > 0) {
                wrong++;
                System.out.println("seed " + seed + ":\n" + one.run);
            }
        }
        System.out.println(wrong == 0 ? runs + " runs answer alike" : "runs differ");
        if (wrong != 0) {
            System.exit(1);
        }
    }

    private void same(String call, int got, int due) {
        if (wrong == 0) {
            run.append(call).append(" = ").append(got).append('\n');
        }
        if (got != due) {
            wrong++;
            run.append("   due is ").append(due).append('\n');
        }
    }

    private int at(int n) {
        return random.nextInt(n);
    }

    /** Mostly a number from 0 to n - 1, now and then one beside. */
    private int about(int n) {
        return at(25) == 0 ? at(2 * n + 4) - n / 2 - 2 : at(n);
    }

    private void feed(String text) {
        for (int i = 0; i < text.length(); i += 20) {
            int[] n = new int[5];
            for (int j = 0; j < 20; j++) {
                n[j / 4] = n[j / 4] << 8 | (i + j < text.length() ? text.charAt(i + j) : at(256));
            }
            same("feed", desk.feed(n[0], n[1], n[2], n[3], n[4]), plain.feed(n[0], n[1], n[2], n[3], n[4]));
        }
        int end = at(60) == 0 ? about(text.length() + 1) : text.length();
        same("end(" + end + ") of " + text, desk.end(end), plain.end(end));
    }

    private void play() {
        for (int i = at(10); i > 0; i--) {
            language();
        }
        for (int k = 0; k < 6; k++) {
            foot(k);
        }
        for (int i = 0; i < 6; i++) {
            form();
        }
        for (int l = 0; l < 5; l++) {
            if (at(3) > 0) {
                licence(l, at(8));
            }
        }
        for (int calls = 0; calls < 70 && wrong == 0; calls++) {
            any();
        }
    }

    private void any() {
        switch (at(16)) {
            case 0:
                language();
                break;
            case 1:
                foot(about(6));
                break;
            case 2:
                form();
                break;
            case 3:
                licence(about(5), about(52) - 1);
                break;
            case 4:
            case 5:
            case 6:
                line();
                break;
            case 7:
            case 8:
                scan(about(2));
                break;
            case 9:
                tell();
                break;
            case 10:
            case 11:
                keep();
                break;
            case 12:
                if (at(3) == 0) {
                    keepAgain();
                }
                place();
                break;
            case 13:
                same("judge", desk.judge(), plain.judge());
                for (int what = -1; what < 24; what++) {
                    same("judged " + what, desk.judged(what), plain.judged(what));
                }
                break;
            case 14:
                fits();
                break;
            default:
                if (at(4) == 0) {
                    int f = about(2);
                    same("learn " + f, desk.learn(f), plain.learn(f));
                }
        }
        for (int what = -2; what < 17; what++) {
            same("count " + what, desk.count(what), plain.count(what));
        }
    }

    private void language() {
        int sort = at(6);
        if (sort == 0) {
            int letter = at(2) == 0 ? about(26) : "aeioyr".charAt(at(6)) - 'a';
            boolean on = at(2) == 0;
            same("vowel " + letter + on, desk.vowel(letter, on), plain.vowel(letter, on));
        } else if (sort == 1) {
            int a = at(2) == 0 ? about(26) : "aeiobrt".charAt(at(7)) - 'a';
            int b = at(2) == 0 ? about(26) : "aeiobry".charAt(at(7)) - 'a';
            int p = about(3);
            same("pair " + a + " " + b + " " + p, desk.pair(a, b, p), plain.pair(a, b, p));
        } else if (sort == 5) {
            feed(WORDS[at(WORDS.length)]);
            same("unword", desk.unword(), plain.unword());
        } else {
            StringBuilder word = new StringBuilder(TOLD[at(TOLD.length)]);
            if (at(4) == 0) {
                word.append(TOLD[at(TOLD.length)]);
            }
            if (at(30) == 0) {
                word.setCharAt(at(word.length()), (char) at(256));
            }
            feed(word.toString());
            same("word", desk.word(), plain.word());
        }
    }

    private void foot(int k) {
        int sort = about(5);
        int row = 0;
        int x = 0;
        int y = 0;
        if (sort == 4) {
            row = 1 + at(2) + at(2) * at(2);
            x = at(2) * at(3);
            y = Math.min(3, x + at(4));
        } else {
            for (int i = at(3) + at(2); i >= 0; i--) {
                row = row * 10 + 1 + at(sort == 0 ? 3 : 4);
            }
            x = sort == 3 ? 1 + at(2) : 0;
        }
        if (at(30) == 0) {
            x = about(4);
            y = about(4);
            row = about(5000);
        }
        same("foot " + k + " " + sort + " " + row + " " + x + " " + y, desk.foot(k, sort, row, x, y),
            plain.foot(k, sort, row, x, y));
    }

    private void form() {
        int f = about(2);
        if (at(4) == 0) {
            int set = about(16);
            same("cut " + f + " " + set, desk.cut(f, set), plain.cut(f, set));
            return;
        }
        int i = about(3);
        int set = 1 << at(6) | 1 << at(6) | 1 << at(8);
        set = at(30) == 0 ? about(5000) : set;
        same("form " + f + " " + i + " " + set, desk.form(f, i, set), plain.form(f, i, set));
    }

    private void licence(int l, int price) {
        same("licence " + l + " " + price, desk.licence(l, price), plain.licence(l, price));
    }

    private void line() {
        StringBuilder text = new StringBuilder();
        int words = at(20) == 0 ? 14 : at(30) == 0 ? 0 : 1 + at(5);
        for (int i = 0; i < words; i++) {
            text.append(at(40) == 0 ? "tt" : WORDS[at(WORDS.length)]);
            if (at(30) == 0) {
                text.append("aeaeaeaeaeaeaeaeaeae", 0, at(20));
            }
            text.append(at(40) == 0 ? "  " : " ");
        }
        if (at(2) == 0 && text.length() > 0) {
            text.setLength(text.length() - 1);
        }
        for (int bad = at(12) == 0 ? 1 + at(3) : 0; bad > 0 && text.length() > 0; bad--) {
            text.setCharAt(at(text.length()), (char) at(256));
        }
        if (text.length() > 130) {
            return;
        }
        feed(text.toString());
        int n = desk.line();
        same("line", n, plain.line());
        same("fault 0", desk.fault(0), plain.fault(0));
        same("fault 1", desk.fault(1), plain.fault(1));
        for (int i = -1; i <= Math.max(n, 0); i++) {
            for (int what = -1; what < 16; what++) {
                same("syllable " + i + " " + what, desk.syllable(i, what), plain.syllable(i, what));
            }
        }
    }

    private void scan(int f) {
        if (plain.count(4) > 11) {
            return;
        }
        same("scan " + f, desk.scan(f), plain.scan(f));
        same("best " + f, desk.best(f), plain.best(f));
        same("near " + f, desk.near(f), plain.near(f));
        int n = desk.lay(f);
        same("lay " + f, n, plain.lay(f));
        for (int r = -1; r <= Math.max(0, n); r++) {
            int steps = desk.reading(r, 1);
            same("reading " + r + " steps", steps, plain.reading(r, 1));
            same("reading " + r + " price", desk.reading(r, 0), plain.reading(r, 0));
            same("reading " + r + " 2", desk.reading(r, 2), plain.reading(r, 2));
            for (int i = -1; i <= Math.max(0, steps); i++) {
                for (int what = -1; what < 7; what++) {
                    same("step " + r + " " + i + " " + what, desk.step(r, i, what), plain.step(r, i, what));
                }
            }
        }
    }

    private void tell() {
        int f = about(2);
        if (plain.count(4) > 11) {
            return;
        }
        if (plain.line != null && f >= 0 && f < 8 && at(8) > 0) {
            List<PlainDesk.Reading> all = plain.readings(plain.line, f);
            List<int[]> steps = all.isEmpty() ? null : all.get(at(all.size())).steps;
            int n = steps == null ? 0 : at(3) == 0 ? steps.size() : at(steps.size() + 1);
            for (int i = 0; i < n; i++) {
                int[] s = steps.get(i).clone();
                if (at(12) == 0) {
                    s[at(6)] += at(3) - 1;
                }
                tellStep(s);
            }
        }
        for (int i = at(20) == 0 ? at(45) : at(10) == 0 ? 1 : 0; i > 0; i--) {
            tellStep(new int[] {about(6), about(6), about(4), about(6), about(4), about(3)});
        }
        same("check " + f, desk.check(f), plain.check(f));
    }

    private void tellStep(int[] s) {
        same("tell", desk.tell(s[0], s[1], s[2], s[3], s[4], s[5]), plain.tell(s[0], s[1], s[2], s[3], s[4], s[5]));
    }

    private void keep() {
        int k = about(12);
        if (at(6) == 0) {
            same("drop " + k, desk.drop(k), plain.drop(k));
        } else if (plain.count(4) <= 11) {
            same("keep " + k, desk.keep(k), plain.keep(k));
        }
        for (int a = -1; a < 13; a++) {
            same("scheme " + a, desk.scheme(a), plain.scheme(a));
            for (int b = -1; b < 13; b++) {
                same("rhyme " + a + " " + b, desk.rhyme(a, b), plain.rhyme(a, b));
            }
        }
    }

    /** Keeps a line twice, the second time now and then with another blank, other pairs, other words told. */
    private void keepAgain() {
        StringBuilder text = new StringBuilder();
        for (int i = 1 + at(3); i > 0; i--) {
            text.append(WORDS[at(WORDS.length)]).append(' ');
        }
        int k = at(11);
        keepAs(text.toString(), k);
        int from = at(text.length());
        if (at(2) == 0 && text.charAt(from) == ' ') {
            text.deleteCharAt(from);
        }
        if (at(2) == 0) {
            text.insert(at(text.length()), ' ');
        }
        for (int i = at(3); i > 0; i--) {
            language();
        }
        keepAs(text.toString(), k + 1);
        int i = plain.count(6);
        same("place", desk.place(i, 0, -1, -1, false), plain.place(i, 0, -1, -1, false));
        same("place", desk.place(i + 1, 1, -1, i, false), plain.place(i + 1, 1, -1, i, false));
    }

    private void keepAs(String text, int k) {
        feed(text);
        same("line", desk.line(), plain.line());
        if (plain.count(4) <= 11) {
            same("keep " + k, desk.keep(k), plain.keep(k));
        }
    }

    private void place() {
        for (int n = 1 + at(4); n > 0; n--) {
            int i = at(3) == 0 ? about(12) : plain.count(6);
            int f = about(3);
            int letter = about(4) - 1;
            int again = at(2) == 0 ? -1 : about(4);
            boolean may = at(3) > 0;
            if (plain.count(6) >= 7 && at(5) > 0) {
                return;
            }
            same("place " + i + " " + f + " " + letter + " " + again + " " + may, desk.place(i, f, letter, again, may),
                plain.place(i, f, letter, again, may));
        }
    }

    private void fits() {
        if (plain.count(4) > 9) {
            return;
        }
        int f = about(2);
        int w = about(4);
        int price = about(20);
        int n = desk.fits(f, w, price);
        same("fits " + f + " " + w + " " + price, n, plain.fits(f, w, price));
        for (int i = -1; i <= Math.max(n, 0); i++) {
            for (int what = -1; what < 16; what++) {
                same("fit " + i + " " + what, desk.fit(i, what), plain.fit(i, what));
            }
        }
    }
}
