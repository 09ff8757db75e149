/** What the project's tests share: the answers that differ are printed and counted. */
final class Check {
    private static int wrong = 0;

    private Check() {
    }

    static void due(String what, int got, int due) {
        if (got != due) {
            wrong++;
            System.out.println(what + " answered " + got + ", due is " + due);
        }
    }

    /** Puts a text on the tape, whatever was there. */
    static void tape(MetreDesk desk, String text) {
        desk.end(0);
        for (int i = 0; i < text.length(); i += 20) {
            int[] n = new int[5];
            for (int j = 0; j < 20; j++) {
                n[j / 4] = n[j / 4] << 8 | (i + j < text.length() ? text.charAt(i + j) & 255 : 0);
            }
            desk.feed(n[0], n[1], n[2], n[3], n[4]);
        }
        desk.end(text.length());
    }

    static int line(MetreDesk desk, String text) {
        tape(desk, text);
        return desk.line();
    }

    static int word(MetreDesk desk, String text) {
        tape(desk, text);
        return desk.word();
    }

    static int unword(MetreDesk desk, String text) {
        tape(desk, text);
        return desk.unword();
    }

    static void keep(MetreDesk desk, int k, String text) {
        line(desk, text);
        desk.keep(k);
    }

    /** The line's syllables as told words are: letters and mark, words parted by blanks. */
    static String parted(MetreDesk desk) {
        StringBuilder all = new StringBuilder();
        for (int i = 0; desk.syllable(i, 0) != MetreDesk.NONE; i++) {
            if (i > 0 && desk.syllable(i, 0) != desk.syllable(i - 1, 0)) {
                all.append(' ');
            }
            for (int j = 0; j < desk.syllable(i, 2); j++) {
                all.append((char) desk.syllable(i, 10 + j));
            }
            all.append("?+-*".charAt(desk.syllable(i, 1)));
        }
        return all.toString();
    }

    /** A laid-out reading: price, then each step's parts; NONE as a full stop. */
    static String reading(MetreDesk desk, int r) {
        StringBuilder all = new StringBuilder();
        all.append(desk.reading(r, 0)).append(':');
        for (int i = 0; i < desk.reading(r, 1); i++) {
            all.append(' ');
            for (int what = 0; what < 6; what++) {
                int part = desk.step(r, i, what);
                all.append(part == MetreDesk.NONE ? "." : "" + part);
            }
        }
        return all.toString();
    }

    static void same(String what, String got, String due) {
        if (!got.equals(due)) {
            wrong++;
            System.out.println(what + " is\n  " + got + ", due is\n  " + due);
        }
    }

    static void finish(String name) {
        System.out.println(name + (wrong == 0 ? ": all as due" : ": " + wrong + " not as due"));
        if (wrong != 0) {
            System.exit(1);
        }
    }
}
