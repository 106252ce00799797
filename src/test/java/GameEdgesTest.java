/** Section 3 and promises 18 to 21: each sentence that names an edge, and a test of its own. */
public final class GameEdgesTest {
    private static final int BAD = Checks.BAD, NONE = Checks.NONE, PLACE = Checks.PLACE, STATE = Checks.STATE;
    private static final int MOST = Integer.MAX_VALUE, LEAST = Integer.MIN_VALUE;
    private static final String FLAT = "mile 0 0 0;", TWO = "runner 20 99 1;runner 20 99 1;";

    public static void main(String[] args) {
        milesBelowHalfOfThem();
        plansFromTenOn();
        theGreatestPaceAtMileZero();
        spentOutInAGame();
        shelteredInAGame();
        likeTimes();
        withoutRulesAndSlips();
        twoRunners();
        whereItRests();
        notSoManyRests();
        likeTimesAreBetterThanToLose();
        leastLine();
        highestLine();
        splitsThatFitNothing();
        splitsOfAsManyMiles();
        lineWithStoreAndFill();
        lineIsRefused();
        zeroIsZeroByOne();
        lowestTerms();
        largestParts();
        eachSetCounts();
        itemsOfParts();
        Checks.end();
    }

    /** "MILES below half of them, cut": of one none is, of three one, of eleven five. */
    private static void milesBelowHalfOfThem() {
        // by plan 1 23, then 18; by plan 2 18, then 23; by plan 0 20, by plan 3 21
        games(1, new int[] {600, 666, 521, 571});
        games(2, new int[] {1200, 521 + 666, 666 + 521, 1142});
        games(3, new int[] {1800, 521 + 2 * 666, 666 + 2 * 521, 3 * 571});
        games(4, new int[] {2400, 2 * 521 + 2 * 666, 2 * 666 + 2 * 521, 4 * 571});
        games(11, new int[] {6600, 5 * 521 + 6 * 666, 5 * 666 + 6 * 521, 11 * 571});
        games(12, new int[] {7200, 6 * 521 + 6 * 666, 6 * 666 + 6 * 521, 12 * 571});
    }

    private static void games(int miles, int[] times) {
        PaceStore x = Checks.on(FLAT.repeat(miles) + TWO);
        for (int a = 0; a < 4; a++) {
            for (int b = 0; b < 4; b++) {
                int want = times[a] < times[b] ? 0 : times[a] > times[b] ? 1 : NONE;
                Checks.due(miles + " miles: wins(0, 1, " + a + ", " + b + ")", want, x.wins(0, 1, a, b));
            }
        }
    }

    /** "(10 to 40 each)": what would be 8 or 9 is 10. */
    private static void plansFromTenOn() {
        PaceStore x = Checks.on(FLAT + "runner 11 99 1;runner 10 99 1;runner 12 99 1;runner 13 99 1;");
        Checks.due("9 is 10", NONE, x.wins(0, 1, 1, 0));
        Checks.due("8 is 10", NONE, x.wins(1, 0, 1, 1));
        Checks.due("10 is 10", NONE, x.wins(2, 1, 1, 0));
        Checks.due("11 is 11", 0, x.wins(3, 1, 1, 0));
        Checks.due("11 is 11", NONE, x.wins(3, 0, 1, 0));
        // 35 is the greatest base there is: 38
        x = Checks.on("mile -5 0 0;runner 30 99 1;runner 30 99 1;");
        Checks.due("38 and 35", 0, x.wins(0, 1, 2, 0));
        Checks.due("38 and 36", 0, x.wins(0, 1, 2, 3));
    }

    /** "the greatest PACE whose NEED (not SHELTERED) is no more than LINE at MILE 0, all the way (10 at least)". */
    private static void theGreatestPaceAtMileZero() {
        // need 20 by 16, as another needs 16 by 16
        PaceStore x = Checks.on("mile 0 0 8;runner 20 99 1;runner 21 99 1;runner 10 99 1;runner 13 99 1;");
        Checks.due("16 and 17", 1, x.wins(0, 1, 0, 0));
        Checks.due("17 and 17", NONE, x.wins(0, 1, 3, 0));
        Checks.due("10 at least, by 10 and by 13", NONE, x.wins(2, 3, 0, 0));
        // mile 1 is not looked at: 20 and 20 again, 25 of the store
        x = Checks.on(FLAT + "mile 5 0 0;runner 20 25 1;runner 20 24 1;");
        Checks.due("25 of 25, 25 of 24", 0, x.wins(0, 1, 0, 0));
        x = Checks.on("mile 5 0 0;" + FLAT + "runner 20 25 1;runner 15 25 1;");
        Checks.due("15 all the way, 10 all the way", 0, x.wins(0, 1, 0, 0));
        Checks.due("15 all the way, 13 all the way", 0, x.wins(0, 1, 0, 3));
    }

    /** Who is spent out goes by what his line allows, and may lose by it. */
    private static void spentOutInAGame() {
        PaceStore x = Checks.on(FLAT + "runner 20 9 1;runner 20 8 1;");
        Checks.due("9 of 9, by plan 2", 0, x.wins(0, 1, 2, 3));
        Checks.due("9 of 8, by plan 2", 0, x.wins(0, 1, 3, 2));
        Checks.due("9 of 8, by plan 2, goes 20", NONE, x.wins(0, 1, 0, 2));
    }

    /** By 5 seconds at most, in games, too: unsheltered b would be spent out in mile 2, as a is. */
    private static void shelteredInAGame() {
        String two = "runner 30 30 1;runner 30 15 1;";
        // a by 32, 37, 37 (699 up to mile 2), b by 34 (704)
        PaceStore x = Checks.on("mile -4 0 0;mile -4 0 0;mile -4 0 8;" + two);
        Checks.due("by 5: 1099 and 1056", 1, x.wins(0, 1, 2, 0));
        Checks.due("by 5, the other way", 0, x.wins(1, 0, 0, 2));
        // a by 33, 38, 38 (678), b by 35 (684)
        x = Checks.on("mile -5 0 0;mile -5 0 0;mile -5 0 8;" + two);
        Checks.due("by 6: 1065 and 1071", 0, x.wins(0, 1, 2, 0));
        Checks.due("by 6, the other way", 1, x.wins(1, 0, 0, 2));
    }

    /** "Who takes less wins; of like times nobody." */
    private static void likeTimes() {
        PaceStore x = Checks.on(FLAT + FLAT + TWO);
        for (int plan = 0; plan < 4; plan++) {
            Checks.due("the same plan", NONE, x.wins(0, 1, plan, plan));
        }
        Checks.due("1187 and 1187", NONE, x.wins(0, 1, 1, 2));
        Checks.due("1187 and 1200", 0, x.wins(0, 1, 1, 0));
        Checks.due("1187 and 1142", 1, x.wins(0, 1, 1, 3));
    }

    /** "A RACE of these two alone, without rules, SLIPS, by these PACES": and it is no RACE that is told. */
    private static void withoutRulesAndSlips() {
        PaceStore x = Checks.on(FLAT + "runner 20 99 1;when mile below 9 push 9;runner 20 99 1;runner 30 99 1;");
        Checks.due("no rules", NONE, x.wins(0, 1, 0, 0));
        Checks.due("no race", 0, x.count(6));
        Checks.sheet(x, 0, 20, 20, 20);
        Checks.due("by slips", 1, x.race(0, 0, 77) >= 0 ? 1 : 0);
        int pace = x.ran(0, 0, 1);
        Checks.due("no slips", NONE, x.wins(0, 1, 3, 3));
        Checks.due("the race stays", pace, x.ran(0, 0, 1));
        Checks.due("rests", 1, x.rests(0, 1, -1) > 0 ? 1 : 0);
        Checks.due("the race stays", pace, x.ran(0, 0, 1));
    }

    /** "BAD (alike, too)": and those that are not there. */
    private static void twoRunners() {
        PaceStore four = Checks.on(FLAT + TWO + TWO);
        Checks.due("the first and the last", NONE, four.wins(0, 3, 0, 0));
        Checks.due("the last and the first", NONE, four.wins(3, 0, 0, 0));
        Checks.due("one beyond", BAD, four.wins(0, 4, 0, 0));
        Checks.due("one beyond", BAD, four.wins(4, 0, 0, 0));
        Checks.due("one beyond", BAD, four.rests(3, 4, -1));
        Checks.due("below 0", BAD, four.rests(-1, 3, -1));
        for (int r = 0; r < 4; r++) {
            Checks.due("alike", BAD, four.rests(r, r, -1));
            Checks.due("alike", BAD, four.rests(r, r, 0));
            Checks.due("alike", BAD, four.wins(r, r, 0, 0));
        }
        PaceStore one = Checks.on(FLAT + "runner 20 99 1;");
        Checks.due("no other runner", BAD, one.wins(0, 1, 0, 0));
        Checks.due("no other runner", BAD, one.rests(0, 1, -1));
        for (int plan : new int[] {-1, 4, LEAST, MOST}) {
            Checks.due("planA " + plan, BAD, four.wins(0, 1, plan, 0));
            Checks.due("planB " + plan, BAD, four.wins(0, 1, 0, plan));
        }
    }

    /** "how many (i = -1), the i-th, by numbers": none, one, and all sixteen. */
    private static void whereItRests() {
        PaceStore all = Checks.on(FLAT + "runner 30 99 1;runner 20 99 1;");
        Checks.due("all of them", 16, all.rests(0, 1, -1));
        for (int i = 0; i < 16; i++) {
            Checks.due("the i-th", i, all.rests(0, 1, i));
            Checks.due("the i-th, the other way", i, all.rests(1, 0, i));
        }
        Checks.due("the 16th", NONE, all.rests(0, 1, 16));
        PaceStore one = Checks.on(FLAT + FLAT + TWO);
        Checks.due("one of them", 1, one.rests(0, 1, -1));
        Checks.due("plans 3 and 3", 15, one.rests(0, 1, 0));
        Checks.due("the second", NONE, one.rests(0, 1, 1));
        PaceStore none = Checks.on("mile -1 1 1;mile 1 1 0;mile 1 2 9;runner 25 3 2;runner 24 23 9;");
        Checks.due("none of them", 0, none.rests(0, 1, -1));
        Checks.due("the first", NONE, none.rests(0, 1, 0));
    }

    private static void notSoManyRests() {
        PaceStore x = Checks.on(FLAT + TWO);
        Checks.due("i MOST", NONE, x.rests(0, 1, MOST));
        Checks.due("i -2", BAD, x.rests(0, 1, -2));
        Checks.due("i LEAST", BAD, x.rests(0, 1, LEAST));
    }

    /** "to win is better than like times, these than to lose". */
    private static void likeTimesAreBetterThanToLose() {
        // one mile: 600, 666, 521, 571 for a; b is spent out by 23 (9 of 8): 600, 666, 600, 571
        PaceStore x = Checks.on(FLAT + "runner 20 9 1;runner 20 8 1;");
        int[] plans = {8, 9, 10, 11};
        Checks.due("a by plan 2, b whatever he likes", 4, x.rests(0, 1, -1));
        for (int i = 0; i < 4; i++) {
            Checks.due("the i-th", plans[i], x.rests(0, 1, i));
        }
        // both spent out by 23 and 21: 600, 666, 600, 600: like times but by plan 1
        x = Checks.on("mile 0 0 0;mile 0 0 0;runner 20 1 9;runner 20 1 9;");
        // 1200; 600 + 666; 666 + 600; 571 + 600
        Checks.due("plan 3 is better than like times", 1, x.rests(0, 1, -1));
        Checks.due("plans 3 and 3", 15, x.rests(0, 1, 0));
    }

    private static int line(String text, int... splits) {
        PaceStore x = Checks.on(text);
        Checks.sheet(x, 0, splits);
        return x.line(0, 0, 0);
    }

    /** "the least LINE (10 to 60)". */
    private static void leastLine() {
        Checks.due("10 at least, though 5 would do", 10, line("mile -5 0 0;runner 30 1 1;", 1200));
        Checks.due("10 just", 10, line(FLAT + FLAT + "runner 30 1 1;", 1200, 1200));
        Checks.due("10, 1 is spent", 10, line(FLAT + "runner 30 1 1;", 1090));
        Checks.due("11", 11, line(FLAT + FLAT + "runner 30 1 1;", 1090, 1090));
        Checks.due("his own line is not looked at", 10, line(FLAT + "runner 10 99 1;", 1200));
    }

    /** By 40, up, in heat and wind a mile needs 53: no line above that is ever wanted. */
    private static void highestLine() {
        Checks.due("53 twice, 1 to spend", 53, line("mile 5 9 9;mile 5 9 9;runner 10 1 1;", 300, 300));
        Checks.due("53 once, 1 to spend", 52, line("mile 5 9 9;runner 10 1 1;", 300));
        Checks.due("53 once, 99 to spend", 44, line("mile 5 9 9;runner 10 99 1;", 300));
        Checks.due("12 of them", 53, line("mile 5 9 9;".repeat(12) + "runner 10 11 9;", 300, 300, 300, 300, 300, 300, 300, 300, 300, 300, 300, 300));
        Checks.due("12 of them", 52, line("mile 5 9 9;".repeat(12) + "runner 10 12 9;", 300, 300, 300, 300, 300, 300, 300, 300, 300, 300, 300, 300));
    }

    /** "(NONE of them: it fits nothing)": every time but those of the 31 paces, at each place. */
    private static void splitsThatFitNothing() {
        PaceStore x = Checks.on(FLAT + "runner 20 1 1;");
        x.sheet(0, 1, 1);
        int fits = 0;
        for (int seconds = 295; seconds <= 700; seconds++) {
            x = seconds % 100 == 0 ? fresh() : x;
            x.set(0, 0, seconds);
            fits += x.line(0, 0, 0) == NONE ? 0 : 1;
        }
        // paces 18 (666) to 40 (300)
        Checks.due("times that fit", 23, fits);
        x = fresh();
        for (int seconds : new int[] {299, 301, 1199, 1201, 0, -1, 12000, -300, LEAST, MOST}) {
            Checks.sheet(x, 0, seconds);
            Checks.due("a split of " + seconds, NONE, x.line(0, 0, 0));
            Checks.due("NONE is no finding", 0, x.status());
        }
        Checks.due("the first", NONE, line(FLAT.repeat(3) + "runner 20 9 1;", 601, 600, 600));
        Checks.due("in between", NONE, line(FLAT.repeat(3) + "runner 20 9 1;", 600, 601, 600));
        Checks.due("the last", NONE, line(FLAT.repeat(3) + "runner 20 9 1;", 600, 600, 601));
        Checks.due("none", 19, line(FLAT.repeat(3) + "runner 20 9 1;", 600, 600, 600));
    }

    private static PaceStore fresh() {
        PaceStore x = Checks.on(FLAT + "runner 20 1 1;");
        x.sheet(0, 1, 1);
        return x;
    }

    /** "as many ITEMS of a SHEET from i on as there are MILES". */
    private static void splitsOfAsManyMiles() {
        PaceStore x = Checks.on(FLAT.repeat(12) + "runner 20 1 1;");
        x.sheet(0, 1, 40);
        for (int i = 0; i < 40; i++) {
            x.set(0, i, i < 28 ? 600 : 480);
        }
        Checks.due("the first twelve", 20, x.line(0, 0, 0));
        Checks.due("the last twelve", 25, x.line(0, 0, 28));
        Checks.due("one beyond", PLACE, x.line(0, 0, 29));
        Checks.due("status()", 2, x.status());
        Checks.due("one ahead", PLACE, x.line(0, 0, -1));
        x.sheet(1, 1, 11);
        Checks.due("too few", PLACE, x.line(0, 1, 0));
        x.sheet(1, 1, 12);
        Checks.due("just enough, of zeros", NONE, x.line(0, 1, 0));
        x.set(0, 12, 601);
        Checks.due("what is behind them is not looked at", 20, x.line(0, 0, 0));
        Checks.due("what is among them is", NONE, x.line(0, 0, 1));
    }

    /** "with his STORE and FILL, not SHELTERED, he is not SPENT OUT". */
    private static void lineWithStoreAndFill() {
        Checks.due("9 of 9", 20, line(FLAT + "runner 30 9 1;", 521));
        Checks.due("9 of 8", 21, line(FLAT + "runner 30 8 1;", 521));
        Checks.due("in the wind", 24, line("mile 0 0 8;runner 30 9 1;", 521));
        // 23, 17, 23 by 20: 9, then 3 are filled at most, then 9 again: by 21 4, 4 filled, 4
        Checks.due("FILL 9", 21, line(FLAT.repeat(3) + "runner 30 9 9;", 521, 705, 521));
        Checks.due("FILL 1, 9 to spend", 21, line(FLAT.repeat(3) + "runner 30 9 1;", 521, 705, 521));
        Checks.due("FILL 9, 5 to spend", 21, line(FLAT.repeat(3) + "runner 30 5 9;", 521, 705, 521));
        Checks.due("FILL 1, 5 to spend", 22, line(FLAT.repeat(3) + "runner 30 5 1;", 521, 705, 521));
        Checks.due("FILL 3, 5 to spend", 21, line(FLAT.repeat(3) + "runner 30 5 3;", 521, 705, 521));
    }

    /** "STATE: no COURSE (ahead of BAD)". */
    private static void lineIsRefused() {
        PaceStore x = new PaceStore();
        Checks.due("no course", STATE, x.line(0, 0, 0));
        Checks.due("no course, no such sheet", STATE, x.line(0, 8, 0));
        Checks.due("no course, no such runner", STATE, x.line(-1, 0, 0));
        Checks.read(x, FLAT + "runner 20 1 1;");
        Checks.due("sheet 8", BAD, x.line(0, 8, 0));
        Checks.due("sheet -1", BAD, x.line(0, -1, 0));
        Checks.due("runner 1", BAD, x.line(1, 0, 0));
        Checks.due("runner -1", BAD, x.line(-1, 0, 0));
        Checks.due("missing", Checks.NULL, x.line(0, 0, 0));
        Checks.due("status()", 1, x.status());
    }

    private static PaceStore sixteen() {
        PaceStore x = new PaceStore();
        x.sheet(0, 2, 16);
        return x;
    }

    private static void part(String what, PaceStore x, int help, int above, int below) {
        Checks.due(what + ", help " + help + ": above", above, x.parts(0, 0, help, 0));
        Checks.due(what + ", help " + help + ": below", below, x.parts(0, 0, help, 1));
    }

    /** "(0 is 0 by 1)". */
    private static void zeroIsZeroByOne() {
        PaceStore x = sixteen();
        for (int help = 0; help < 4; help++) {
            part("all 0", x, help, 0, 1);
        }
        for (int set = 0; set < 16; set++) {
            x.set(0, set, 99999);
        }
        for (int help = 0; help < 4; help++) {
            part("all 99999", x, help, 0, 1);
        }
    }

    /** "in lowest terms, the lower one above 0": by what only helps 0 and 1 together change, one in twelve of it. */
    private static void lowestTerms() {
        int[] divisors = {12, 1, 2, 3, 4, 1, 6, 1, 4, 3, 2, 1};
        PaceStore x = sixteen();
        for (int v = 1; v <= 24; v++) {
            int by = divisors[v % 12];
            x.set(0, 3, v);
            part("of " + v, x, 0, -v / by, 12 / by);
            part("of " + v, x, 1, -v / by, 12 / by);
            part("of " + v, x, 2, v / by, 12 / by);
            part("of " + v, x, 3, v / by, 12 / by);
        }
        x.set(0, 3, 99999);
        part("of 99999", x, 0, -33333, 4);
    }

    private static void largestParts() {
        for (int help = 0; help < 4; help++) {
            PaceStore x = sixteen();
            for (int set = 0; set < 16; set++) {
                x.set(0, set, (set >> help & 1) == 0 ? 99999 : 0);
            }
            part("all of it", x, help, 99999, 1);
            part("nothing of it", x, (help + 1) % 4, 0, 1);
            for (int set = 0; set < 16; set++) {
                x.set(0, set, (set >> help & 1) == 0 ? 0 : 99999);
            }
            part("it costs all of it", x, help, -99999, 1);
        }
    }

    /** "over all orders in which they come, on the mean": each set by how many have come, and how many have not. */
    private static void eachSetCounts() {
        int[] behindThem = {1, 3, 3, 1};
        for (int set = 0; set < 16; set++) {
            PaceStore x = sixteen();
            x.set(0, set, 12);
            int n = Integer.bitCount(set);
            for (int help = 0; help < 4; help++) {
                boolean isIn = (set >> help & 1) == 1;
                // a help that comes next takes 12 off in as many orders of 24; one that came last puts them on
                int want = isIn ? -12 / (4 * behindThem[n - 1]) : 12 / (4 * behindThem[n]);
                part("only set " + set, x, help, want, 1);
            }
        }
    }

    /** "16 ITEMS of a SHEET from i on"; "then BAD: an ITEM not 0 to 99999". */
    private static void itemsOfParts() {
        PaceStore x = new PaceStore();
        x.sheet(0, 2, 40);
        x.set(0, 24, 4);
        Checks.due("from 24 on", 1, x.parts(0, 24, 0, 0));
        Checks.due("from 25 on", PLACE, x.parts(0, 25, 0, 0));
        Checks.due("from -1 on", PLACE, x.parts(0, -1, 0, 0));
        Checks.due("from 23 on, help 0", -1, x.parts(0, 23, 0, 0));
        Checks.due("from 23 on, help 1", 1, x.parts(0, 23, 1, 0));
        Checks.due("by 3", 3, x.parts(0, 23, 1, 1));
        x.sheet(0, 2, 15);
        Checks.due("of 15", PLACE, x.parts(0, 0, 0, 0));
        x.sheet(0, 2, 18);
        for (int k = 1; k <= 16; k++) {
            for (int bad : new int[] {-1, 100000, LEAST, MOST}) {
                x.set(0, k, bad);
                Checks.due("an item of " + bad + " at " + k, BAD, x.parts(0, 1, 0, 1));
            }
            x.set(0, k, 99999);
            Checks.due("an item of 99999 at " + k, 1, x.parts(0, 1, 0, 1) > 0 ? 1 : 0);
        }
        x.set(0, 0, -1);
        x.set(0, 17, 100000);
        Checks.due("those beside are not looked at", 0, x.parts(0, 1, 0, 0));
        Checks.due("help 4", BAD, x.parts(0, 1, 4, 0));
        Checks.due("help -1", BAD, x.parts(0, 1, -1, 0));
        Checks.due("what 2", BAD, x.parts(0, 1, 0, 2));
        Checks.due("what -1", BAD, x.parts(0, 1, 0, -1));
    }
}
