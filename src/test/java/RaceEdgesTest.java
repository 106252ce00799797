import java.math.BigInteger;

/** Section 2 and promises 9 to 12: each sentence that names an edge, and a test of its own. */
public final class RaceEdgesTest {
    private static final String FLAT = "mile 0 0 0;", STRONG = "runner 30 99 1;";

    public static void main(String[] args) {
        secondsAreCut();
        halvesAreCut();
        spentNoMoreThanLeft();
        needNoMoreThanLine();
        fillsByThreeBounds();
        spentOutPace();
        spentOutLeavesNothing();
        paceIsAsWanted();
        belowIsLessAboveIsMore();
        behindIsMoreThanTheLeast();
        theFirstRuleThatHolds();
        tenAtLeastFortyAtMost();
        rulesOfEachRunner();
        shelteredByTime();
        shelteredByPace();
        shelterIsByTimesAhead();
        noSlipsBySeedZero();
        slipsByOtherSeeds();
        slipsAreBehindRules();
        slipsStayWithinPaces();
        likeTimes();
        itemsOfARace();
        theLatestRace();
        ranAtItsEdges();
        Checks.end();
    }

    private static PaceStore raced(String text, int... paces) {
        PaceStore x = Checks.on(text);
        Checks.sheet(x, 0, paces);
        Checks.due("a race of " + text, 1, x.race(0, 0, 0) >= 0 ? 1 : 0);
        return x;
    }

    private static void ranRow(String what, PaceStore x, int runner, int mile, int... want) {
        for (int k = 0; k < want.length; k++) {
            Checks.due(what + ": ran(" + runner + ", " + mile + ", " + k + ")", want[k], x.ran(runner, mile, k));
        }
    }

    /** "PACES 10 to 40: a MILE by a PACE p takes 12000 by p SECONDS (cut)." */
    private static void secondsAreCut() {
        int[] seconds = {1200, 1090, 1000, 923, 857, 800, 750, 705, 666, 631, 600, 571, 545, 521, 500, 480, 461, 444, 428, 413,
            400, 387, 375, 363, 352, 342, 333, 324, 315, 307, 300};
        for (int pace = 10; pace <= 40; pace++) {
            // downhill by 5, so that 40 is 35 and spends 25
            PaceStore x = raced("mile -5 0 0;" + STRONG, pace);
            ranRow("pace " + pace, x, 0, 0, seconds[pace - 10], pace);
            Checks.due("time", seconds[pace - 10], x.ran(0, 0, 5));
        }
    }

    /** "HEAT by 2 (cut), and, if it is not SHELTERED, WIND by 2 (cut)." */
    private static void halvesAreCut() {
        int[] halves = {0, 0, 1, 1, 2, 2, 3, 3, 4, 4};
        for (int v = 0; v <= 9; v++) {
            PaceStore x = Checks.on("mile 0 " + v + " 0;mile 0 0 " + v + ";mile -5 " + v + " " + v + ";mile 5 1 1;" + STRONG);
            Checks.due("heat " + v, 20 + halves[v], x.need(0, 20, 0));
            Checks.due("heat " + v + ", sheltered", 20 + halves[v], x.need(0, 20, 1));
            Checks.due("wind " + v, 20 + halves[v], x.need(1, 20, 0));
            Checks.due("wind " + v + ", sheltered", 20, x.need(1, 20, 1));
            // each is cut of its own: 1 and 1 are not 1 together
            Checks.due("both " + v, 10 - 5 + 2 * halves[v], x.need(2, 10, 0));
            Checks.due("both 1", 40 + 5, x.need(3, 40, 0));
        }
    }

    /** "if that is no more than LEFT, LEFT is so much less; else he is SPENT OUT". */
    private static void spentNoMoreThanLeft() {
        ranRow("just as much", raced(FLAT + "runner 20 9 3;", 23), 0, 0, 521, 23, 0, 0, 0, 521);
        ranRow("one too few", raced(FLAT + "runner 20 8 3;", 23), 0, 0, 600, 23, 0, 0, 1, 600);
        ranRow("one to spare", raced(FLAT + "runner 20 10 3;", 23), 0, 0, 521, 23, 1, 0, 0, 521);
        ranRow("1 of 1", raced(FLAT + "runner 20 1 3;", 21), 0, 0, 571, 21, 0, 0, 0, 571);
        ranRow("81 of 99", raced(FLAT + "runner 30 99 9;", 39), 0, 0, 307, 39, 18, 0, 0, 307);
        ranRow("100 of 99", raced(FLAT + "runner 30 99 9;", 40), 0, 0, 400, 40, 0, 0, 1, 400);
        // with what is left behind a mile, not with the whole store
        PaceStore x = raced(FLAT.repeat(3) + "runner 20 8 1;", 22);
        ranRow("4 of 8", x, 0, 0, 545, 22, 4, 0, 0);
        ranRow("4 of 4", x, 0, 1, 545, 22, 0, 0, 0);
        ranRow("4 of 0", x, 0, 2, 600, 22, 0, 0, 1);
    }

    /** "NEED above LINE: SPENT ..", "NEED no more than LINE: LEFT becomes .. more". */
    private static void needNoMoreThanLine() {
        PaceStore x = raced(FLAT + FLAT + "runner 20 9 5;when mile above 0 ease 1;", 21);
        ranRow("one above", x, 0, 0, 571, 21, 8);
        ranRow("just as much: nothing is filled", x, 0, 1, 600, 20, 8);
        x = raced(FLAT + FLAT + "runner 20 9 5;when mile above 0 ease 3;", 22);
        ranRow("two above", x, 0, 0, 545, 22, 5);
        ranRow("one below: one is filled", x, 0, 1, 631, 19, 6);
    }

    /** "by FILL more, by how far it is below LINE at most, STORE at most". */
    private static void fillsByThreeBounds() {
        // 30 by line 25 leaves 24 of 49; then 25 and below
        String text = FLAT + FLAT + "runner 25 49 4;when mile above 0 ease ";
        ranRow("5 at first", raced(text + "5;", 30), 0, 0, 400, 30, 24);
        ranRow("0 below", raced(text + "5;", 30), 0, 1, 480, 25, 24);
        ranRow("1 below", raced(text + "6;", 30), 0, 1, 500, 24, 25);
        ranRow("3 below, FILL 4", raced(text + "8;", 30), 0, 1, 545, 22, 27);
        ranRow("4 below, FILL 4", raced(text + "9;", 30), 0, 1, 571, 21, 28);
        ranRow("5 below, FILL 4", raced("mile -0 0 0;mile -1 0 0;runner 25 49 4;when mile above 0 ease 9;", 30), 0, 1, 571, 21, 28);
        // STORE at most: 1 is missing, and 2, of a fill of 2
        ranRow("up to the store", raced(FLAT + FLAT + "runner 20 9 2;when mile above 0 ease 9;", 21), 0, 1, 1000, 12, 9);
        ranRow("not beyond", raced(FLAT + "runner 20 9 9;", 10), 0, 0, 1200, 10, 9);
        ranRow("just up to it", raced(FLAT + FLAT + "runner 20 9 4;when mile above 0 ease 9;", 22), 0, 1, 923, 13, 9);
        ranRow("one less than it", raced(FLAT + FLAT + "runner 20 9 3;when mile above 0 ease 9;", 22), 0, 1, 923, 13, 8);
    }

    /** "he goes it by the greatest PACE whose NEED is no more than LINE (10, if there is none), not SHELTERED". */
    private static void spentOutPace() {
        ranRow("just LINE", raced(FLAT + "runner 20 1 1;", 30), 0, 0, 600, 30, 0, 0, 1);
        ranRow("uphill, warm, windy", raced("mile 2 3 5;" + "runner 20 1 1;", 30), 0, 0, 800, 30, 0, 0, 1);
        ranRow("downhill", raced("mile -5 0 0;" + "runner 30 1 1;", 40), 0, 0, 342, 40, 0, 0, 1);
        ranRow("10 just fits", raced("mile 3 0 4;" + "runner 15 1 1;", 30), 0, 0, 1200, 30, 0, 0, 1);
        ranRow("11 just fits", raced("mile 3 0 4;" + "runner 16 1 1;", 30), 0, 0, 1090, 30, 0, 0, 1);
        ranRow("none fits", raced("mile 3 0 4;" + "runner 14 1 1;", 30), 0, 0, 1200, 30, 0, 0, 1);
        ranRow("none fits by far", raced("mile 5 9 9;" + "runner 10 99 1;", 40), 0, 0, 1200, 40, 0, 0, 1);
        // by 10, which was wanted
        ranRow("10 is spent out by 10", raced("mile 5 9 9;" + "runner 10 99 1;", 10), 0, 0, 1200, 10, 0, 0, 1);
    }

    /** "and LEFT is 0": also where something was left, and where the pace that he goes would fill. */
    private static void spentOutLeavesNothing() {
        PaceStore x = raced(FLAT + "mile 0 0 0;" + "runner 20 50 9;when mile above 0 ease 9;", 28);
        ranRow("64 of 50", x, 0, 0, 600, 28, 0, 0, 1, 600);
        ranRow("then it fills", x, 0, 1, 631, 19, 1, 0, 0, 1231);
        ranRow("10 would fill", raced("mile -5 0 0;runner 30 1 9;", 40), 0, 0, 342, 40, 0, 0, 1);
    }

    /** "(his PACE is as it was wanted, though he is SPENT OUT)": the next rule changes that one. */
    private static void paceIsAsWanted() {
        PaceStore x = raced(FLAT.repeat(3) + "runner 20 1 1;when mile above 1 ease 2;", 30);
        ranRow("wants 30, goes 20", x, 0, 0, 600, 30, 0, 0, 1);
        ranRow("wants 30 again", x, 0, 1, 600, 30, 0, 0, 1);
        ranRow("2 less than 30", x, 0, 2, 600, 28, 0, 0, 1);
    }

    private static int paceBy(String rule, int told, int mile, String miles) {
        return raced(miles + "runner 20 9 3;" + rule, told).ran(0, mile, 1);
    }

    /** "below: it is less than NUMBER; above: more": of what is LEFT, and of the MILE. */
    private static void belowIsLessAboveIsMore() {
        Checks.due("9 below 9", 20, paceBy("when store below 9 push 1;", 20, 0, FLAT));
        Checks.due("9 below 10", 21, paceBy("when store below 10 push 1;", 20, 0, FLAT));
        Checks.due("9 above 9", 20, paceBy("when store above 9 push 1;", 20, 0, FLAT));
        Checks.due("9 above 8", 21, paceBy("when store above 8 push 1;", 20, 0, FLAT));
        Checks.due("mile 0 below 0", 20, paceBy("when mile below 0 push 1;", 20, 0, FLAT));
        Checks.due("mile 0 below 1", 21, paceBy("when mile below 1 push 1;", 20, 0, FLAT));
        Checks.due("mile 0 above 0", 20, paceBy("when mile above 0 push 1;", 20, 0, FLAT));
        Checks.due("mile 1 below 1", 21, paceBy("when mile below 1 push 1;", 20, 1, FLAT + FLAT));
        Checks.due("mile 1 above 0", 21, paceBy("when mile above 0 push 1;", 20, 1, FLAT + FLAT));
        Checks.due("mile 11 above 10", 21, paceBy("when mile above 10 push 1;", 20, 11, FLAT.repeat(12)));
        Checks.due("mile 11 above 11", 20, paceBy("when mile above 11 push 1;", 20, 11, FLAT.repeat(12)));
        Checks.due("mile 11 below 999", 20 + 12, paceBy("when mile below 999 push 1;", 20, 11, FLAT.repeat(12)));
        Checks.due("9 above 999", 20, paceBy("when store above 999 push 1;", 20, 0, FLAT));
        Checks.due("9 below 999", 19, paceBy("when store below 999 ease 1;", 20, 0, FLAT));
        // spent out: 0 is left, which is not below 0, nor above 0
        Checks.due("0 below 0", 24, paceBy("when store below 0 push 1;", 24, 1, FLAT + FLAT));
        Checks.due("0 below 1", 25, paceBy("when store below 1 push 1;", 24, 1, FLAT + FLAT));
        Checks.due("0 above 0", 25, paceBy("when store above 0 push 1;", 24, 1, FLAT + FLAT));
    }

    /** "behind: SECONDS by which his time up to there is more than the least": the first one is 0 behind. */
    private static void behindIsMoreThanTheLeast() {
        // 500 and 521: 21 behind in mile 1
        int[][] rows = {{20, 24}, {21, 23}};
        for (int[] row : rows) {
            PaceStore x = raced(FLAT + FLAT + STRONG + STRONG + "when behind above " + row[0] + " push 1;", 24, 23);
            Checks.due("21 above " + row[0], row[1], x.ran(1, 1, 1));
        }
        PaceStore x = raced(FLAT + FLAT + STRONG + STRONG + "when behind below 21 push 1;", 24, 22);
        Checks.due("0 below 21 in mile 0", 23, x.ran(1, 0, 1));
        Checks.due("21 below 21", 23, x.ran(1, 1, 1));
        x = raced(FLAT + FLAT + STRONG + STRONG + "when behind below 22 push 1;", 24, 22);
        Checks.due("21 below 22", 24, x.ran(1, 1, 1));
        x = raced(FLAT + FLAT + STRONG + "when behind above 0 push 1;" + STRONG + "when behind below 1 ease 1;", 24, 25);
        Checks.due("all are 0 behind at first", 24, x.ran(0, 0, 1));
        Checks.due("all are 0 behind at first", 24, x.ran(1, 0, 1));
        Checks.due("like times are 0 behind", 24, x.ran(0, 1, 1));
        Checks.due("like times are 0 behind", 23, x.ran(1, 1, 1));
        // the least of all, not of the one beside
        x = raced(FLAT + FLAT + STRONG + STRONG + "when behind above 99 push 1;" + STRONG, 25, 20, 24);
        Checks.due("120 behind the first", 21, x.ran(1, 1, 1));
        x = raced(FLAT + FLAT + STRONG + STRONG + "when behind above 120 push 1;" + STRONG, 25, 20, 24);
        Checks.due("120 behind is not more", 20, x.ran(1, 1, 1));
        x = raced(FLAT.repeat(2) + "runner 30 99 1;when behind above 899 push 1;" + STRONG, 10, 39);
        Checks.due("893 behind", 10, x.ran(0, 1, 1));
        x = raced("mile -5 0 0;" + FLAT + "runner 30 99 1;when behind above 899 push 1;" + STRONG, 10, 40);
        Checks.due("900 behind", 11, x.ran(0, 1, 1));
    }

    /** "the first of his rules that holds changes his PACE by BY (.. none: as it is)". */
    private static void theFirstRuleThatHolds() {
        Checks.due("the first of two", 22, paceBy("when mile below 1 push 2;when mile below 1 push 3;", 20, 0, FLAT));
        Checks.due("the second, where the first does not", 23, paceBy("when mile above 1 push 2;when mile below 1 push 3;", 20, 0, FLAT));
        Checks.due("not both", 22, paceBy("when mile below 1 push 2;when store above 0 push 3;", 20, 0, FLAT));
        String not = "when mile above 11 push 2;";
        Checks.due("the sixth of six", 17, paceBy(not.repeat(5) + "when mile below 1 ease 3;", 20, 0, FLAT));
        Checks.due("none of six", 20, paceBy(not.repeat(6), 20, 0, FLAT));
        Checks.due("no rules", 20, paceBy("", 20, 0, FLAT));
        Checks.due("push by 1", 21, paceBy("when mile below 1 push 1;", 20, 0, FLAT));
        Checks.due("push by 9", 29, paceBy("when mile below 1 push 9;", 20, 0, FLAT));
        Checks.due("ease by 1", 19, paceBy("when mile below 1 ease 1;", 20, 0, FLAT));
        Checks.due("ease by 9", 11, paceBy("when mile below 1 ease 9;", 20, 0, FLAT));
    }

    /** "10 at least, 40 at most". */
    private static void tenAtLeastFortyAtMost() {
        String push = "when mile below 1 push 9;";
        String ease = "when mile below 1 ease 9;";
        Checks.due("31 and 9", 40, paceBy(push, 31, 0, FLAT));
        Checks.due("32 and 9", 40, paceBy(push, 32, 0, FLAT));
        Checks.due("40 and 9", 40, paceBy(push, 40, 0, FLAT));
        Checks.due("30 and 9", 39, paceBy(push, 30, 0, FLAT));
        Checks.due("19 less 9", 10, paceBy(ease, 19, 0, FLAT));
        Checks.due("18 less 9", 10, paceBy(ease, 18, 0, FLAT));
        Checks.due("10 less 9", 10, paceBy(ease, 10, 0, FLAT));
        Checks.due("20 less 9", 11, paceBy(ease, 20, 0, FLAT));
        // what was cut off does not come back
        Checks.due("40, then 9 less", 31, paceBy("when mile below 1 push 9;when mile above 0 ease 9;", 38, 1, FLAT + FLAT));
    }

    private static void rulesOfEachRunner() {
        PaceStore x = raced(FLAT + STRONG + "when mile below 1 push 1;" + STRONG + STRONG + "when mile below 1 ease 1;" + STRONG
                + "when mile above 0 push 9;when mile below 1 push 3;", 20, 20, 20, 20);
        Checks.due("runner 0", 21, x.ran(0, 0, 1));
        Checks.due("runner 1", 20, x.ran(1, 0, 1));
        Checks.due("runner 2", 19, x.ran(2, 0, 1));
        Checks.due("runner 3", 23, x.ran(3, 0, 1));
    }

    /** One who runs two miles by 24 and 24 (1000), 25 and 23 (1001) or 26 and 22 (1006), then as told. */
    private static String comes(int seconds, int then) {
        String text = STRONG;
        int pace = 24;
        if (seconds != 1000) {
            int by = seconds == 1001 ? 1 : 2;
            text += "when mile below 1 push " + by + ";when mile below 2 ease " + 2 * by + ";";
            pace -= by;
        }
        return then == pace ? text : text + "when mile above 1 " + (then > pace ? "push " : "ease ") + Math.abs(then - pace) + ";";
    }

    private static PaceStore after(int secondsA, int thenA, int secondsB, int thenB) {
        PaceStore x = raced(FLAT + FLAT + "mile 0 0 8;" + comes(secondsA, thenA) + comes(secondsB, thenB), 24, 24);
        Checks.due("time of a", secondsA, x.ran(0, 1, 5));
        Checks.due("time of b", secondsB, x.ran(1, 1, 5));
        Checks.due("pace of a", thenA, x.ran(0, 2, 1));
        Checks.due("pace of b", thenB, x.ran(1, 2, 1));
        return x;
    }

    private static void sheltered(String what, PaceStore x, int a, int b) {
        Checks.due(what + ": a", a, x.ran(0, 2, 3));
        Checks.due(what + ": b", b, x.ran(1, 2, 3));
    }

    /** "time up to there is less than his, by 5 SECONDS at most". */
    private static void shelteredByTime() {
        sheltered("like times", after(1000, 24, 1000, 24), 0, 0);
        sheltered("by 1", after(1000, 24, 1001, 24), 0, 1);
        sheltered("by 1, the other way", after(1001, 24, 1000, 24), 1, 0);
        sheltered("by 5", after(1001, 24, 1006, 24), 0, 1);
        sheltered("by 5, the other way", after(1006, 24, 1001, 24), 1, 0);
        sheltered("by 6", after(1000, 24, 1006, 24), 0, 0);
        sheltered("by 6, the other way", after(1006, 24, 1000, 24), 0, 0);
        // shelter is 4 of need: 24, not 28, for one with a line of 30
        PaceStore x = raced(FLAT + FLAT + "mile 0 0 8;" + comes(1000, 24) + comes(1001, 24).replace("30 99", "25 99"), 24, 24);
        ranRow("sheltered", x, 1, 2, 500, 24, 99, 1, 0);
        x = raced(FLAT + FLAT + "mile 0 0 8;" + comes(1000, 24) + comes(1006, 24).replace("30 99", "25 99"), 24, 24);
        ranRow("not sheltered", x, 1, 2, 500, 24, 99 - 9, 0, 0);
        // alone, and in mile 0, nobody is
        Checks.due("alone", 0, raced(FLAT + FLAT + STRONG, 20).ran(0, 1, 3));
        x = raced("mile 0 0 8;" + STRONG + STRONG, 24, 24);
        Checks.due("mile 0", 0, x.ran(0, 0, 3) + x.ran(1, 0, 3));
    }

    /** "and that one wants the same PACE or more". */
    private static void shelteredByPace() {
        sheltered("the same", after(1000, 24, 1001, 24), 0, 1);
        sheltered("one more", after(1000, 25, 1001, 24), 0, 1);
        sheltered("one less", after(1000, 23, 1001, 24), 0, 0);
        sheltered("the most", after(1000, 33, 1001, 24), 0, 1);
        sheltered("he wants more", after(1000, 24, 1001, 25), 0, 0);
        // that one wants it, though he is spent out and goes slower
        PaceStore x = raced(FLAT + FLAT + "mile 0 0 8;" + comes(1000, 24).replace("30 99", "24 1") + comes(1001, 24), 24, 24);
        ranRow("the one ahead is spent out", x, 0, 2, 600, 24, 0, 0, 1);
        ranRow("he is sheltered", x, 1, 2, 500, 24, 99, 1, 0);
        // any of several: the nearest wants less, the one 5 ahead of him wants as much
        x = raced(FLAT + FLAT + "mile 0 0 8;" + comes(1006, 24) + comes(1001, 24) + comes(1000, 30), 24, 24, 24);
        Checks.due("by the one 5 ahead", 1, x.ran(0, 2, 3));
        x = raced(FLAT + FLAT + "mile 0 0 8;" + comes(1006, 24) + comes(1001, 23) + comes(1000, 30), 24, 24, 24);
        Checks.due("5 ahead wants less, 6 ahead is too far", 0, x.ran(0, 2, 3));
    }

    /** "Then, all at once": the times up to there, not those that this mile makes. */
    private static void shelterIsByTimesAhead() {
        // like times: neither is ahead, though the first of them has gone the mile when the second goes it
        PaceStore x = raced("mile 0 0 8;mile 0 0 8;" + STRONG + STRONG + "when mile above 0 ease 1;", 24, 24);
        Checks.due("like times", 0, x.ran(0, 1, 3) + x.ran(1, 1, 3));
        // both are 1 behind or ahead as they come: the slower is not sheltered by who goes 5 faster in this mile
        sheltered("all at once", after(1001, 24, 1000, 23), 0, 0);
    }

    private static final long PRIME = 2147483647L;

    /** The paces of all, mile by mile, for a seed, by numbers without end. */
    private static void slips(int seed, int told, int miles, int runners) {
        PaceStore x = Checks.on(FLAT.repeat(miles) + STRONG.repeat(runners));
        int[] paces = new int[runners];
        java.util.Arrays.fill(paces, told);
        Checks.sheet(x, 0, paces);
        x.race(0, 0, seed);
        BigInteger drawn = BigInteger.valueOf(seed);
        for (int m = 0; m < miles; m++) {
            for (int r = 0; r < runners; r++) {
                drawn = drawn.multiply(BigInteger.valueOf(16807)).mod(BigInteger.valueOf(PRIME));
                int rest = drawn.mod(BigInteger.valueOf(7)).intValue();
                paces[r] = Math.max(10, Math.min(40, paces[r] + (rest == 0 ? 1 : rest == 1 ? -1 : 0)));
                Checks.due("seed " + seed + ", runner " + r + ", mile " + m, paces[r], x.ran(r, m, 1));
            }
        }
    }

    private static void noSlipsBySeedZero() {
        PaceStore x = raced(FLAT.repeat(12) + STRONG.repeat(4), 20, 21, 22, 23);
        for (int r = 0; r < 4; r++) {
            for (int m = 0; m < 12; m++) {
                Checks.due("no slips", 20 + r, x.ran(r, m, 1));
            }
        }
    }

    /** "SLIPS by a SEED (0: none; to 999999)": also where X times 16807 is beyond an int. */
    private static void slipsByOtherSeeds() {
        for (int seed : new int[] {1, 2, 3, 7, 127773, 127774, 500000, 999998, 999999}) {
            slips(seed, 20, 12, 4);
            slips(seed, 20, 12, 1);
            slips(seed, 10, 12, 3);
            slips(seed, 40, 12, 2);
        }
        PaceStore x = Checks.on(FLAT + STRONG);
        Checks.sheet(x, 0, 20);
        Checks.due("seed 999999", 0, x.race(0, 0, 999999));
        Checks.due("seed 1000000", Checks.BAD, x.race(0, 0, 1000000));
        Checks.due("seed -1", Checks.BAD, x.race(0, 0, -1));
    }

    /** The first seed whose first draw leaves a rest by 7; 16807 is 7 to the 5th, so the low ones leave 0. */
    private static int seedWith(int rest) {
        for (int seed = 1; seed <= 999999; seed++) {
            if (seed * 16807L % PRIME % 7 == rest) {
                return seed;
            }
        }
        return 0;
    }

    private static int slipped(String rules, int told, int rest) {
        PaceStore x = Checks.on(FLAT + STRONG + rules);
        Checks.sheet(x, 0, told);
        x.race(0, 0, seedWith(rest));
        return x.ran(0, 0, 1);
    }

    /** "behind his rules": the pace is within 10 to 40 in between, too. */
    private static void slipsAreBehindRules() {
        String push = "when mile below 1 push 9;";
        String ease = "when mile below 1 ease 9;";
        Checks.due("35 and 9, then 1 less", 39, slipped(push, 35, 1));
        Checks.due("15 less 9, then 1 more", 11, slipped(ease, 15, 0));
        Checks.due("35 and 9, then 1 more", 40, slipped(push, 35, 0));
        Checks.due("15 less 9, then 1 less", 10, slipped(ease, 15, 1));
        Checks.due("20 and 9, then 1 more", 30, slipped(push, 20, 0));
        // store above 98 holds by what is left, whatever he slips
        Checks.due("a rule, then a slip", 20, slipped("when store above 98 push 1;", 20, 1));
    }

    private static void slipsStayWithinPaces() {
        int[] wanted = {1, -1, 0, 0, 0, 0, 0};
        for (int rest = 0; rest < 7; rest++) {
            Checks.due("20 by rest " + rest, 20 + wanted[rest], slipped("", 20, rest));
            Checks.due("40 by rest " + rest, Math.min(40, 40 + wanted[rest]), slipped("", 40, rest));
            Checks.due("10 by rest " + rest, Math.max(10, 10 + wanted[rest]), slipped("", 10, rest));
            Checks.due("39 by rest " + rest, 39 + wanted[rest], slipped("", 39, rest));
            Checks.due("11 by rest " + rest, 11 + wanted[rest], slipped("", 11, rest));
        }
    }

    private static void places(PaceStore x, int... want) {
        for (int r = 0; r < want.length; r++) {
            Checks.due("place(" + r + ")", want[r], x.place(r));
        }
    }

    /** "PLACES: by time, of like ones by numbers." */
    private static void likeTimes() {
        PaceStore x = raced(FLAT + STRONG.repeat(4), 20, 20, 20, 20);
        Checks.due("who comes first", 0, x.race(0, 0, 0));
        places(x, 0, 1, 2, 3);
        places(raced(FLAT + STRONG.repeat(4), 20, 21, 22, 23), 3, 2, 1, 0);
        places(raced(FLAT + STRONG.repeat(4), 20, 21, 20, 21), 2, 0, 3, 1);
        places(raced(FLAT + STRONG.repeat(4), 21, 20, 20, 21), 0, 2, 3, 1);
        places(raced(FLAT + STRONG.repeat(4), 20, 20, 20, 21), 1, 2, 3, 0);
        places(raced(FLAT + STRONG, 20), 0);
        Checks.due("alone he comes first", 0, raced(FLAT + STRONG, 10).race(0, 0, 5));
        // by time in all, not of the last mile
        x = raced(FLAT + FLAT + STRONG + "when mile above 0 ease 9;" + STRONG, 30, 22);
        places(x, 0, 1);
        // like times by other paces: 12 and 12, 10 and 15
        x = raced(FLAT + FLAT + STRONG + STRONG + "when mile above 0 push 5;", 12, 10);
        Checks.due("like times", 2000, x.ran(0, 1, 5));
        Checks.due("like times", 2000, x.ran(1, 1, 5));
        places(x, 0, 1);
        x = raced(FLAT + FLAT + STRONG + "when mile above 0 push 5;" + STRONG, 10, 12);
        places(x, 0, 1);
    }

    /** "PACES as many ITEMS of a SHEET from i on as there are RUNNERS"; "then BAD: an ITEM not 10 to 40". */
    private static void itemsOfARace() {
        for (int runners = 1; runners <= 4; runners++) {
            PaceStore x = Checks.on(FLAT + STRONG.repeat(runners));
            for (int lane = 0; lane < 3; lane++) {
                x.sheet(0, lane, 40);
                for (int i = 0; i < 40; i++) {
                    x.set(0, i, 10 + i % 31);
                }
                Checks.due("the first items", runners - 1, x.race(0, 0, 0));
                Checks.due("the last pace", 9 + runners, x.ran(runners - 1, 0, 1));
                Checks.due("the last items", 1, x.race(0, 40 - runners, 0) >= 0 ? 1 : 0);
                Checks.due("the last pace", 10 + 39 % 31, x.ran(runners - 1, 0, 1));
                Checks.due("one beyond", Checks.PLACE, x.race(0, 41 - runners, 0));
                Checks.due("one ahead", Checks.PLACE, x.race(0, -1, 0));
            }
            Checks.due("a sheet of too few", runners - 1, x.sheet(1, 2, runners - 1));
            Checks.due("too few", Checks.PLACE, x.race(1, 0, 0));
            for (int r = 0; r < runners; r++) {
                Checks.due("a bad one is made", 9, x.set(0, r, 9));
                Checks.due("9 at " + r, Checks.BAD, x.race(0, 0, 0));
                x.set(0, r, 41);
                Checks.due("41 at " + r, Checks.BAD, x.race(0, 0, 0));
                x.set(0, r, 40);
                Checks.due("40 at " + r, 1, x.race(0, 0, 0) >= 0 ? 1 : 0);
                x.set(0, r, 10);
                Checks.due("10 at " + r, 1, x.race(0, 0, 0) >= 0 ? 1 : 0);
            }
        }
    }

    /** "Of the latest RACE of this COURSE": a refused one is none, and sets are not races. */
    private static void theLatestRace() {
        PaceStore x = raced(FLAT + STRONG, 20);
        x.set(0, 0, 30);
        Checks.due("a changed item is no race", 20, x.ran(0, 0, 1));
        Checks.due("a refused one", Checks.PLACE, x.race(0, 1, 0));
        Checks.due("leaves the one that was", 20, x.ran(0, 0, 1));
        x.set(0, 0, 9);
        Checks.due("a refused one", Checks.BAD, x.race(0, 0, 0));
        Checks.due("leaves the one that was", 20, x.ran(0, 0, 1));
        x.drop(0);
        Checks.due("a refused one", Checks.NULL, x.race(0, 0, 0));
        Checks.due("leaves the one that was", 20, x.ran(0, 0, 1));
        Checks.sheet(x, 0, 31);
        x.race(0, 0, 0);
        Checks.due("the latest", 31, x.ran(0, 0, 1));
        Checks.due("a race", 1, x.count(6));
        Checks.due("the same course again", 1, Checks.read(x, FLAT + STRONG));
        Checks.due("no race of it", Checks.STATE, x.ran(0, 0, 1));
        Checks.due("no place in it", Checks.STATE, x.place(0));
        Checks.due("no race", 0, x.count(6));
    }

    private static void ranAtItsEdges() {
        PaceStore x = raced(FLAT.repeat(12) + STRONG.repeat(4), 20, 20, 20, 21);
        Checks.due("the last of all", 571 * 12, x.ran(3, 11, 5));
        Checks.due("his last mile", 571, x.ran(3, 11, 0));
        Checks.due("runner 4", Checks.BAD, x.ran(4, 11, 5));
        Checks.due("mile 12", Checks.BAD, x.ran(3, 12, 5));
        Checks.due("what 6", Checks.BAD, x.ran(3, 11, 6));
        Checks.due("runner -1", Checks.BAD, x.ran(-1, 11, 5));
        Checks.due("mile -1", Checks.BAD, x.ran(3, -1, 5));
        Checks.due("what -1", Checks.BAD, x.ran(3, 11, -1));
        Checks.due("place(3)", 0, x.place(3));
        Checks.due("place(4)", Checks.BAD, x.place(4));
        Checks.due("place(-1)", Checks.BAD, x.place(-1));
    }
}
