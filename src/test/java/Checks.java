/** What the tests share: a count of wrong answers, and texts brought to a tape. */
final class Checks {
    static final int NULL = -1000011, PLACE = -1000012, KIND = -1000013, SIZE = -1000014, STORE = -1000015;
    static final int NONE = PaceStore.NONE, BAD = PaceStore.BAD, STATE = PaceStore.STATE, FULL = PaceStore.FULL;

    private static int wrong = 0;

    private Checks() {
    }

    static void due(String call, long want, long got) {
        if (got != want) {
            wrong++;
            if (wrong <= 50) {
                System.out.println(call + " answered " + got + ", due is " + want);
            }
        }
    }

    /** Of two long texts only the first line that differs is told. */
    static void same(String what, String want, String got) {
        if (got.equals(want)) {
            return;
        }
        String[] wanted = want.split("\n");
        String[] seen = got.split("\n");
        int at = 0;
        while (at < wanted.length && at < seen.length && wanted[at].equals(seen[at])) {
            at++;
        }
        String dueThere = at < wanted.length ? wanted[at] : "its end";
        String seenThere = at < seen.length ? seen[at] : "its end";
        due(what + ": in place of '" + dueThere + "' there is '" + seenThere + "': lines that differ", 0, 1);
    }

    static void end() {
        if (wrong != 0) {
            System.out.println(wrong + " answers are not as due");
            System.exit(1);
        }
    }

    static void feed(PaceStore x, String text) {
        for (int at = 0; at < text.length(); at += 8) {
            int n = Math.min(8, text.length() - at);
            long w = 0;
            for (int i = 0; i < n; i++) {
                w = w << 8 | text.charAt(at + i) & 255;
            }
            x.feed(w, n);
        }
    }

    static int read(PaceStore x, String text) {
        feed(x, text);
        return x.course();
    }

    static PaceStore on(String text) {
        PaceStore x = new PaceStore();
        int answer = read(x, text);
        if (answer < 1) {
            due("course() of " + text, 1, answer);
        }
        return x;
    }

    /** A sheet of ints with just these items. */
    static void sheet(PaceStore x, int sheet, int... items) {
        due("sheet", items.length, x.sheet(sheet, 2, items.length));
        for (int i = 0; i < items.length; i++) {
            due("set", items[i], x.set(sheet, i, items[i]));
        }
    }
}
