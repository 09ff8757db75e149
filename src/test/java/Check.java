import java.lang.reflect.InvocationTargetException;
import java.lang.reflect.Method;
import java.lang.reflect.Modifier;
import java.util.Arrays;
import java.util.Comparator;

/** What the project's tests share: the answers that differ are printed and counted. */
final class Check {
    static final int NONE = MetreDesk.NONE;
    static final int RANGE = MetreDesk.RANGE;
    static final int FULL = MetreDesk.FULL;
    static final int HUGE = Integer.MAX_VALUE;
    static final int TINY = Integer.MIN_VALUE;

    private static int wrong = 0;
    private static String running = "";

    private Check() {
    }

    /** Runs each test of a class (a static method, not private, that takes a desk) with a desk of its own. */
    static void runAll(Class<?> tests) throws IllegalAccessException {
        Method[] methods = tests.getDeclaredMethods();
        Arrays.sort(methods, Comparator.comparing(Method::getName));
        int run = 0;
        for (Method m : methods) {
            boolean takesDesk = Arrays.equals(m.getParameterTypes(), new Class<?>[] {MetreDesk.class});
            if (!takesDesk || Modifier.isPrivate(m.getModifiers())) {
                continue;
            }
            running = m.getName() + ": ";
            run++;
            try {
                m.invoke(null, new MetreDesk());
            } catch (InvocationTargetException e) {
                same("what it throws", "" + e.getCause(), "nothing");
            }
        }
        running = "";
        finish(tests.getName() + ", " + run + " tests");
    }

    static void due(String what, int got, int due) {
        if (got != due) {
            wrong++;
            System.out.println(running + what + " answered " + got + ", due is " + due);
        }
    }

    /** Puts a text on the tape, whatever was there. */
    static void tape(MetreDesk desk, String text) {
        desk.end(0);
        for (int i = 0; i < text.length(); i += 20) {
            int[] n = new int[5];
            for (int j = 0; j < 20; j++) {
                n[j / 4] = n[j / 4] << 8 | (i + j < text.length() ? text.charAt(i + j) & 255 : 0);
            }
            desk.feed(n[0], n[1], n[2], n[3], n[4]);
        }
        desk.end(text.length());
    }

    static int line(MetreDesk desk, String text) {
        tape(desk, text);
        return desk.line();
    }

    static int word(MetreDesk desk, String text) {
        tape(desk, text);
        return desk.word();
    }

    static int unword(MetreDesk desk, String text) {
        tape(desk, text);
        return desk.unword();
    }

    static void keep(MetreDesk desk, int k, String text) {
        line(desk, text);
        desk.keep(k);
    }

    /** The line's syllables as told words are: letters and mark, words parted by blanks. */
    static String parted(MetreDesk desk) {
        StringBuilder all = new StringBuilder();
        for (int i = 0; desk.syllable(i, 0) != MetreDesk.NONE; i++) {
            if (i > 0 && desk.syllable(i, 0) != desk.syllable(i - 1, 0)) {
                all.append(' ');
            }
            for (int j = 0; j < desk.syllable(i, 2); j++) {
                all.append((char) desk.syllable(i, 10 + j));
            }
            all.append("?+-*".charAt(desk.syllable(i, 1)));
        }
        return all.toString();
    }

    /** A laid-out reading: price, then each step's parts; NONE as a full stop. */
    static String reading(MetreDesk desk, int r) {
        StringBuilder all = new StringBuilder();
        all.append(desk.reading(r, 0)).append(':');
        for (int i = 0; i < desk.reading(r, 1); i++) {
            all.append(' ');
            for (int what = 0; what < 6; what++) {
                int part = desk.step(r, i, what);
                all.append(part == MetreDesk.NONE ? "." : "" + part);
            }
        }
        return all.toString();
    }

    static void same(String what, String got, String due) {
        if (!got.equals(due)) {
            wrong++;
            System.out.println(running + what + " is\n  " + got + ", due is\n  " + due);
        }
    }

    /** Tells a desk something of each kind, so that a call that changes what it must not is seen by state(). */
    static void furnish(MetreDesk desk) {
        desk.vowel(24, true);
        desk.pair(0, 4, 1);
        word(desk, "bo*");
        word(desk, "ba+be-");
        desk.foot(0, 0, 33, 0, 0);
        desk.foot(1, 1, 14, 0, 0);
        desk.foot(11, 4, 1, 0, 2);
        desk.form(0, 0, 3);
        desk.form(0, 1, 3 | 1 << 11);
        desk.form(7, 0, 1);
        desk.cut(0, 1);
        desk.cut(3, 6);
        desk.licence(0, 2);
        desk.licence(2, 7);
        keep(desk, 3, "na ne");
        keep(desk, 0, "ab yb abe a");
        desk.lay(0);
        desk.tell(0, 0, 0, 0, 0, 1);
        desk.tell(9, 9, 9, 9, 9, 9);
        desk.place(0, 0, 0, NONE, false);
        desk.place(1, 7, 0, 0, true);
        desk.judge();
        desk.fits(0, 3, 50);
        line(desk, "a #");
        desk.feed(0x20202020, 0x20202020, 0x20202020, 0x20202020, 0x20202020);
    }

    /** What a furnished desk answers to all that may be asked without a change. */
    static String state(MetreDesk desk) {
        StringBuilder all = new StringBuilder(parted(desk));
        for (int what = 0; what < 15; what++) {
            all.append(' ').append(desk.count(what));
        }
        all.append(" fault ").append(desk.fault(0)).append(' ').append(desk.fault(1));
        for (int f = 0; f < 8; f += 7) {
            all.append(" form ").append(desk.scan(f)).append(' ').append(desk.best(f)).append(' ').append(desk.near(f));
        }
        for (int f = 0; f < 4; f += 3) {
            int cuts = desk.cut(f, 0);
            desk.cut(f, cuts);
            all.append(" cuts ").append(cuts);
        }
        for (int r = 0; r < 3; r++) {
            all.append(" [").append(reading(desk, r)).append(']');
        }
        all.append(" judged");
        for (int what : new int[] {0, 1, 2, 10, 11}) {
            all.append(' ').append(desk.judged(what));
        }
        all.append(" poem ").append(desk.rhyme(0, 3)).append(' ').append(desk.scheme(3));
        for (int i = 0; i < 3; i++) {
            all.append(" fit ").append(desk.fit(i, 0)).append(' ').append(desk.fit(i, 1)).append(desk.fit(i, 11));
        }
        return all.toString();
    }

    static void finish(String name) {
        System.out.println(name + (wrong == 0 ? ": all as due" : ": " + wrong + " not as due"));
        if (wrong != 0) {
            System.exit(1);
        }
    }
}
