import java.util.Random;

/** Any numbers in any state: no call throws, and the counts stay within what the document lets. */
public final class NeverThrows {
    private static final int[] NUMBERS = {0, 1, 2, 3, 4, 5, 7, 8, 10, 11, 12, 39, 40, 41, 50, 51, 199, 200, 255, 256,
        4095, 4096, 4444, -1, -2, Integer.MAX_VALUE, Integer.MIN_VALUE, Integer.MAX_VALUE - 9, 14, 144, 1234, 33};
    private static final int[] MOST = {26, 12, 40, 12, 40, 12, 12, 40, 240};

    private final Random random;
    private final MetreDesk x = new MetreDesk();

    private NeverThrows(long seed) {
        random = new Random(seed);
    }

    public static void main(String[] args) {
        int runs = args.length > 0 ? Integer.parseInt(args[0]) : 400;
        for (int seed = 0; seed < runs; seed++) {
            NeverThrows one = new NeverThrows(seed);
            for (int call = 0; call < 512; call++) {
                try {
                    one.call();
                } catch (RuntimeException | Error e) {
                    Check.same("seed " + seed + " call " + call, e.toString(), "no exception");
                    e.printStackTrace(System.out);
                    call = 512;
                }
            }
            for (int what = 0; what < MOST.length; what++) {
                int n = one.x.count(what);
                Check.due("count " + what + " = " + n, n > MOST[what] || n < -1 ? 1 : 0, 0);
            }
        }
        Check.finish("NeverThrows");
    }

    private int any() {
        return random.nextInt(12) == 0 ? random.nextInt() : NUMBERS[random.nextInt(NUMBERS.length)];
    }

    private int small(int n) {
        return random.nextInt(8) == 0 ? any() : random.nextInt(n);
    }

    /** Mostly letters, blanks and marks. */
    private int text() {
        String signs = "aeiouabrt  +-*aeo";
        int four = 0;
        for (int i = 0; i < 4; i++) {
            int sign = random.nextInt(200) == 0 ? random.nextInt(256) : signs.charAt(random.nextInt(signs.length()));
            four = four << 8 | sign;
        }
        return four;
    }

    private void call() {
        switch (random.nextInt(24)) {
            case 0:
                x.feed(text(), text(), text(), text(), text());
                break;
            case 1:
                x.end(small(241));
                break;
            case 2:
                x.vowel(small(26), random.nextBoolean());
                x.pair(small(26), small(5), small(3));
                break;
            case 3:
                x.end(0);
                x.feed(text(), text(), text(), text(), text());
                x.end(random.nextInt(8));
                if (random.nextInt(3) > 0) {
                    x.word();
                } else {
                    x.unword();
                }
                break;
            case 4:
                x.foot(small(12), small(5), random.nextBoolean() ? any() : 1 + random.nextInt(3), small(4), small(4));
                x.foot(small(12), random.nextInt(3), 1 + random.nextInt(3) + 10 * random.nextInt(5), 0, 0);
                break;
            case 5:
            case 6:
                x.form(small(8), small(8), random.nextBoolean() ? 4095 : small(4096));
                break;
            case 7:
                x.cut(small(8), small(256));
                break;
            case 8:
                x.licence(small(5), small(51));
                break;
            case 9:
            case 10:
            case 11:
                line();
                break;
            default:
                ask();
        }
    }

    private void line() {
        x.end(0);
        for (int i = random.nextInt(5); i >= 0; i--) {
            String words = "aeo ab ba romatato a ore bore aura bat o ";
            int[] n = new int[5];
            int at = random.nextInt(words.length());
            for (int j = 0; j < 20; j++) {
                n[j / 4] = n[j / 4] << 8 | words.charAt((at + j) % words.length());
            }
            x.feed(n[0], n[1], n[2], n[3], n[4]);
        }
        x.line();
    }

    private void ask() {
        switch (random.nextInt(14)) {
            case 0:
                x.syllable(small(40), small(12));
                x.fault(small(2));
                break;
            case 1:
                x.scan(small(8));
                break;
            case 2:
                x.best(small(8));
                break;
            case 3:
                x.lay(small(8));
                break;
            case 4:
                x.reading(small(200), small(2));
                x.step(small(200), small(40), small(6));
                break;
            case 5:
                x.near(small(8));
                break;
            case 6:
                x.tell(small(40), small(6), small(8), small(12), small(4), small(3));
                break;
            case 7:
                x.check(small(8));
                break;
            case 8:
                x.keep(small(12));
                break;
            case 9:
                x.drop(small(12));
                x.rhyme(small(12), small(12));
                x.scheme(small(12));
                break;
            case 10:
                x.place(small(12), small(8), small(6), small(12) - 1, random.nextBoolean());
                x.judged(small(22));
                break;
            case 11:
                x.judge();
                break;
            case 12:
                x.fits(small(8), small(12), small(2000));
                x.fit(small(40), small(26));
                break;
            default:
                x.learn(small(8));
                x.count(any());
        }
    }
}
