/** Promises 18 to 21: games of plans, lines by splits, parts of a record. */
public final class GamesTest {
    private static final int BAD = Checks.BAD, NONE = Checks.NONE, STATE = Checks.STATE;
    private static final String FLAT = "mile 0 0 0;";

    public static void main(String[] args) {
        refusals();
        wins();
        rests();
        lines();
        parts();
        Checks.end();
    }

    private static void refusals() {
        PaceStore x = Checks.on(FLAT + "runner 20 9 3; runner 20 9 3;");
        Checks.due("rests a", BAD, x.rests(2, 0, -1));
        Checks.due("rests a", BAD, x.rests(-1, 0, -1));
        Checks.due("rests b", BAD, x.rests(0, 2, -1));
        Checks.due("rests alike", BAD, x.rests(1, 1, -1));
        Checks.due("rests i", BAD, x.rests(0, 1, -2));
        Checks.due("rests i", NONE, x.rests(0, 1, 16));
        Checks.due("rests i", NONE, x.rests(0, 1, Integer.MAX_VALUE));
        Checks.due("wins a", BAD, x.wins(2, 0, 0, 0));
        Checks.due("wins b", BAD, x.wins(0, -1, 0, 0));
        Checks.due("wins alike", BAD, x.wins(0, 0, 0, 0));
        Checks.due("wins planA", BAD, x.wins(0, 1, 4, 0));
        Checks.due("wins planA", BAD, x.wins(0, 1, -1, 0));
        Checks.due("wins planB", BAD, x.wins(0, 1, 0, 4));
        Checks.due("wins planB", BAD, x.wins(0, 1, 0, -1));
    }

    /** Two miles, line 20, 9 to spend: 0 is 1200; 1 is 521 and 666; 2 is 666 and 521; 3 is 571 twice. */
    private static void wins() {
        PaceStore x = Checks.on(FLAT + FLAT + "runner 20 9 3; when mile below 9 push 9; runner 20 9 3; runner 25 9 3;");
        Checks.due("wins 0 0", NONE, x.wins(0, 1, 0, 0));
        Checks.due("wins 0 1", 1, x.wins(0, 1, 0, 1));
        Checks.due("wins 0 2", 1, x.wins(0, 1, 0, 2));
        Checks.due("wins 3 0", 0, x.wins(0, 1, 3, 0));
        Checks.due("wins 1 2", NONE, x.wins(0, 1, 1, 2));
        Checks.due("wins 3 1", 0, x.wins(0, 1, 3, 1));
        Checks.due("wins 2 3", 1, x.wins(0, 1, 2, 3));
        Checks.due("wins of a better one", 1, x.wins(1, 2, 3, 0));
        Checks.due("wins of a better one", 0, x.wins(2, 1, 0, 3));
        Checks.due("no race was made", 0, x.count(6));
        // one mile: none is below half of one, so 1 is 2 less and 2 is 3 more
        x = Checks.on(FLAT + "runner 20 9 3; runner 20 9 3; runner 20 8 3;");
        Checks.due("one mile 2 3", 0, x.wins(0, 1, 2, 3));
        Checks.due("one mile 1 0", 1, x.wins(0, 1, 1, 0));
        // 9 is more than 8: spent out by plan 2 he goes by 20
        Checks.due("one mile, spent out", NONE, x.wins(0, 2, 0, 2));
        Checks.due("one mile, spent out", 0, x.wins(0, 2, 3, 2));
        Checks.due("10 at least", NONE, Checks.on("mile 5 9 9; runner 10 1 1; runner 10 1 1;").wins(0, 1, 0, 1));
        x = Checks.on("mile -5 0 0; runner 30 99 9; runner 30 99 8;");
        Checks.due("35, 38", 1, x.wins(0, 1, 0, 2));
        x = Checks.on("mile -5 0 0; mile -5 0 0; runner 30 99 9; runner 30 99 8;");
        Checks.due("38 then 33, 36 twice", 1, x.wins(0, 1, 1, 3));
    }

    private static void rests() {
        // by two flat miles plan 3 wins against each: only both 3 rests
        PaceStore x = Checks.on(FLAT + FLAT + "runner 20 9 3; runner 20 9 3; runner 30 9 3;");
        Checks.due("rests", 1, x.rests(0, 1, -1));
        Checks.due("rests", 15, x.rests(0, 1, 0));
        Checks.due("rests", NONE, x.rests(0, 1, 1));
        // one who always wins: all of his plans rest with all of the other's
        Checks.due("rests of one far better", 16, x.rests(2, 0, -1));
        Checks.due("rests of one far better", 0, x.rests(2, 0, 0));
        Checks.due("rests of one far better", 15, x.rests(2, 0, 15));
        Checks.due("rests of one far better", 16, x.rests(0, 2, -1));
        // shelter makes a chase of it: whichever plans they have, one would rather have another
        PaceStore chase = Checks.on("mile -1 1 1;mile 1 1 0;mile 1 2 9;runner 25 3 2;runner 24 23 9;");
        Checks.due("rests nowhere", 0, chase.rests(0, 1, -1));
        Checks.due("rests nowhere", NONE, chase.rests(0, 1, 0));
        // one flat mile: plan 2 (23) is best for 9, spent out by 8: there 3 is best and loses
        x = Checks.on(FLAT + "runner 20 9 3; runner 20 8 3;");
        Checks.due("rests", 4, x.rests(0, 1, -1));
        Checks.due("rests", 8, x.rests(0, 1, 0));
        Checks.due("rests", 11, x.rests(0, 1, 3));
        Checks.due("told by a's", 2, x.rests(1, 0, 0));
        Checks.due("told by a's", 14, x.rests(1, 0, 3));
    }

    private static void lines() {
        PaceStore x = new PaceStore();
        Checks.due("STATE ahead of BAD", STATE, x.line(9, 9, 0));
        Checks.read(x, "mile 0 0 8; mile 0 0 0; runner 20 9 3; runner 30 1 1;");
        Checks.due("line sheet", BAD, x.line(0, 8, 0));
        Checks.due("line sheet", BAD, x.line(0, -1, 0));
        Checks.due("line runner", BAD, x.line(2, 0, 0));
        Checks.due("line NULL", Checks.NULL, x.line(0, 0, 0));
        Checks.sheet(x, 0, 600, 571, 0, 300, 300, 1200, 1200);
        Checks.due("line PLACE", Checks.PLACE, x.line(0, 0, 6));
        Checks.due("line PLACE", Checks.PLACE, x.line(0, 0, -1));
        // needs 24, then 21: by 21 it spends 9 and 0
        Checks.due("line", 21, x.line(0, 0, 0));
        // by 23 it spends 1
        Checks.due("line of a small store", 23, x.line(1, 0, 0));
        Checks.due("no pace", NONE, x.line(0, 0, 1));
        Checks.due("no pace", NONE, x.line(0, 0, 2));
        // 44, then 40: by 41 it spends 9, fills 1
        Checks.due("line of 40", 41, x.line(0, 0, 3));
        Checks.due("line of 40", 43, x.line(1, 0, 3));
        // 14, then 10: 11
        Checks.due("line of 10", 11, x.line(0, 0, 5));
        Checks.sheet(x, 0, 601, 600);
        Checks.due("no pace", NONE, x.line(0, 0, 0));
        Checks.sheet(x, 7, 600, 571);
        Checks.due("the last sheet", 21, x.line(0, 7, 0));
        x = Checks.on("mile -5 0 0; runner 20 9 3;");
        Checks.sheet(x, 0, 1200);
        Checks.due("10 at least", 10, x.line(0, 0, 0));
    }

    private static void part(PaceStore x, int help, int above, int below) {
        Checks.due("parts(.., " + help + ", 0)", above, x.parts(0, 1, help, 0));
        Checks.due("parts(.., " + help + ", 1)", below, x.parts(0, 1, help, 1));
    }

    private static void parts() {
        PaceStore x = new PaceStore();
        Checks.due("parts sheet", BAD, x.parts(-1, 0, 0, 0));
        Checks.due("parts sheet", BAD, x.parts(8, 0, 0, 0));
        Checks.due("parts help", BAD, x.parts(0, 0, 4, 0));
        Checks.due("parts help", BAD, x.parts(0, 0, -1, 0));
        Checks.due("parts what", BAD, x.parts(0, 0, 0, 2));
        Checks.due("parts what", BAD, x.parts(0, 0, 0, -1));
        Checks.due("parts NULL", Checks.NULL, x.parts(0, 0, 0, 0));
        int[] row = new int[17];
        for (int set = 0; set < 16; set++) {
            row[set + 1] = 1000 - 7 * (set & 1) - 5 * (set >> 1 & 1) - 3 * (set >> 2 & 1) - 0 * (set >> 3);
        }
        row[0] = -1;
        Checks.sheet(x, 0, row);
        Checks.due("parts PLACE", Checks.PLACE, x.parts(0, 2, 0, 0));
        Checks.due("parts PLACE", Checks.PLACE, x.parts(0, -1, 0, 0));
        Checks.due("parts, an item of -1", BAD, x.parts(0, 0, 0, 0));
        Checks.due("the last sheet", Checks.NULL, x.parts(7, 0, 0, 0));
        part(x, 0, 7, 1);
        part(x, 1, 5, 1);
        part(x, 2, 3, 1);
        part(x, 3, 0, 1);
        // what only all four take off is shared: 24 by 4, 1 by 4, 2 by 4
        x.set(0, 16, 985 - 1);
        part(x, 3, 1, 4);
        part(x, 0, 29, 4);
        x.set(0, 16, 985 + 2);
        part(x, 3, -1, 2);
        // what one alone takes off, and no others with it
        x.set(0, 16, 985);
        x.set(0, 1 + 8, 999);
        part(x, 3, 1, 4);
        part(x, 0, 7 * 12 - 1, 12);
        x.set(0, 5, 100000);
        Checks.due("parts, an item of 100000", BAD, x.parts(0, 1, 0, 0));
        x.set(0, 5, 99999);
        Checks.due("parts, an item of 99999", 1, Math.abs(x.parts(0, 1, 3, 1)) > 0 ? 1 : 0);
    }
}
