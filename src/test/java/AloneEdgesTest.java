/** Section 3 and promises 13 to 17, 22, 23: each sentence that names an edge, and a test of its own. */
public final class AloneEdgesTest {
    private static final int BAD = Checks.BAD, NONE = Checks.NONE, PLACE = Checks.PLACE, MOST = Integer.MAX_VALUE;
    private static final String FLAT = "mile 0 0 0;", WINDY = "mile 0 0 8;", STEEP = "mile 5 9 9;", DOWN = "mile -5 0 0;";

    public static void main(String[] args) {
        pacesOfTheFirstAndTheLastMile();
        noBest();
        heMayNotBeSpentOut();
        bestWithinPaces();
        ofSeveralTheFirstByPaces();
        tillAboveTheMile();
        justThisPace();
        setsAreBits();
        evens();
        noEven();
        whatWouldBeAboveForty();
        oneStepTooFast();
        coinJustEnough();
        ofSeveralWhatCostsLeast();
        hiredOfAllSets();
        allAreHired();
        noneHired();
        staysUpToTill();
        staysBeyondTheEnd();
        staysWithoutShelter();
        fourMilesAnHour();
        heatsAreAddedThenCut();
        oneHourToTwentyFour();
        theFirstHourOfSeveral();
        noHour();
        feelsBelowAndAbove();
        feelsUpToNinety();
        feelsFromTheEnds();
        feelsTheLeast();
        feelsNoShelterOfARace();
        Checks.end();
    }

    private static void bestRow(String what, PaceStore x, int rabbits, int... want) {
        for (int k = -1; k < want.length - 1; k++) {
            Checks.due(what + ": best(0, " + rabbits + ", " + k + ")", want[k + 1], x.best(0, rabbits, k));
        }
    }

    /** "its time (k = -1), PACE of MILE k; NONE: not so many, too. BAD: k below -1". */
    private static void pacesOfTheFirstAndTheLastMile() {
        PaceStore x = Checks.on(FLAT.repeat(12) + "runner 20 1 1;");
        Checks.due("k -2", BAD, x.best(0, 0, -2));
        Checks.due("k -1", 11 * 600 + 571, x.best(0, 0, -1));
        Checks.due("k 0", 20, x.best(0, 0, 0));
        Checks.due("k 10", 20, x.best(0, 0, 10));
        Checks.due("k 11", 21, x.best(0, 0, 11));
        Checks.due("k 12", NONE, x.best(0, 0, 12));
        Checks.due("k MOST", NONE, x.best(0, 0, MOST));
        Checks.due("k LEAST", BAD, x.best(0, 0, Integer.MIN_VALUE));
        x = Checks.on(FLAT + "runner 20 1 1;");
        Checks.due("k 0 of one mile", 21, x.best(0, 0, 0));
        Checks.due("k 1 of one mile", NONE, x.best(0, 0, 1));
    }

    /** "NONE: there is none": its time, each pace, and what rests on it. */
    private static void noBest() {
        PaceStore x = Checks.on(FLAT + STEEP + "runner 10 99 9;");
        for (int k = -1; k <= 2; k++) {
            Checks.due("best(0, 0, " + k + ")", NONE, x.best(0, 0, k));
        }
        Checks.due("best(0, 0, -2)", BAD, x.best(0, 0, -2));
        Checks.due("early 1", NONE, x.early(0, 1));
        Checks.due("early 20", NONE, x.early(0, 20));
        // need 14 by 10: 16 of the store
        bestRow("just enough", Checks.on("mile 4 0 0;runner 10 16 1;"), 0, 1200, 10);
        bestRow("one too few", Checks.on("mile 4 0 0;runner 10 15 1;"), 0, NONE, NONE);
    }

    /** "He may not be SPENT OUT": what is spent may be all that is left. */
    private static void heMayNotBeSpentOut() {
        bestRow("9 of 9", Checks.on(FLAT + "runner 20 9 1;"), 0, 521, 23);
        bestRow("9 of 8", Checks.on(FLAT + "runner 20 8 1;"), 0, 545, 22);
        bestRow("8 of 8, by two", Checks.on(FLAT + FLAT + "runner 20 8 1;"), 0, 1090, 22, 22);
        bestRow("8 of 7, by two", Checks.on(FLAT + FLAT + "runner 20 7 1;"), 0, 571 + 545, 21, 22);
        bestRow("81 of 99", Checks.on(FLAT + "runner 30 99 9;"), 0, 307, 39);
        bestRow("81 of 80", Checks.on(FLAT + "runner 30 80 9;"), 0, 315, 38);
    }

    private static void bestWithinPaces() {
        bestRow("40 at most", Checks.on(DOWN + "runner 30 99 9;"), 0, 300, 40);
        bestRow("40 for all there is", Checks.on(DOWN + "runner 30 25 9;"), 0, 300, 40);
        bestRow("39", Checks.on(DOWN + "runner 30 24 9;"), 0, 307, 39);
        bestRow("10 at least", Checks.on("mile 1 0 0;runner 10 1 1;"), 0, 1200, 10);
    }

    /** "of several the first by PACES from the first MILE on, the least ones first". */
    private static void ofSeveralTheFirstByPaces() {
        bestRow("two miles", Checks.on(FLAT + FLAT + "runner 20 5 1;"), 0, 571 + 545, 21, 22);
        bestRow("three miles", Checks.on(FLAT.repeat(3) + "runner 20 2 1;"), 0, 600 + 571 + 571, 20, 21, 21);
        bestRow("downhill", Checks.on(DOWN + DOWN + "runner 30 41 1;"), 0, 607, 39, 40);
    }

    /** "a RABBIT of the set with TILL above the MILE". */
    private static void tillAboveTheMile() {
        String runner = "runner 20 1 1;";
        PaceStore x = Checks.on(WINDY.repeat(12) + runner + "rabbit 20 12 1;rabbit 20 11 1;rabbit 20 1 1;");
        Checks.due("till 12", 7200, x.best(0, 1, -1));
        Checks.due("till 12, the last mile", 20, x.best(0, 1, 11));
        Checks.due("till 11", 11 * 600 + 705, x.best(0, 2, -1));
        Checks.due("till 11, mile 10", 20, x.best(0, 2, 10));
        Checks.due("till 11, mile 11", 17, x.best(0, 2, 11));
        Checks.due("till 1", 600 + 10 * 750 + 705, x.best(0, 4, -1));
        Checks.due("till 1, mile 0", 20, x.best(0, 4, 0));
        Checks.due("till 1, mile 1", 16, x.best(0, 4, 1));
        Checks.due("none", 11 * 750 + 705, x.best(0, 0, -1));
    }

    /** "has just this PACE": neither one more nor one less; 10 and 40, too. */
    private static void justThisPace() {
        PaceStore x = Checks.on(WINDY + "runner 20 1 1;rabbit 22 1 1;rabbit 21 1 1;rabbit 18 1 1;");
        bestRow("22 is too fast, sheltered or not", x, 1, 705, 17);
        bestRow("21", x, 2, 571, 21);
        bestRow("18, not 19", x, 4, 666, 18);
        bestRow("both", x, 6, 571, 21);
        bestRow("40", Checks.on("mile -5 0 8;runner 30 50 1;rabbit 40 1 1;"), 1, 300, 40);
        bestRow("40 without", Checks.on("mile -5 0 8;runner 30 50 1;rabbit 40 1 1;"), 0, 315, 38);
        bestRow("10", Checks.on(WINDY + "runner 10 1 1;rabbit 10 1 1;"), 1, 1200, 10);
        bestRow("10 without", Checks.on(WINDY + "runner 10 1 1;rabbit 10 1 1;"), 0, NONE, NONE);
    }

    /** "Sets are bits": none, each, all, and the first that is no set. */
    private static void setsAreBits() {
        PaceStore x = Checks.on(WINDY + "runner 20 1 1;rabbit 17 1 1;rabbit 18 1 1;rabbit 19 1 1;rabbit 20 1 1;rabbit 21 1 1;");
        int[] seconds = {705, 666, 631, 600, 571};
        Checks.due("the empty set", 705, x.best(0, 0, -1));
        for (int k = 0; k < 5; k++) {
            Checks.due("rabbit " + k, seconds[k], x.best(0, 1 << k, -1));
            Checks.due("rabbits up to " + k, seconds[k], x.best(0, (2 << k) - 1, -1));
            Checks.due("even with rabbit " + k, seconds[k], x.even(0, 1 << k, 1));
        }
        Checks.due("all", 571, x.best(0, 31, -1));
        Checks.due("32", BAD, x.best(0, 32, -1));
        Checks.due("-1", BAD, x.best(0, -1, -1));
        Checks.due("even 32", BAD, x.even(0, 32, 0));
        Checks.due("even -1", BAD, x.even(0, -1, 0));
        String rabbits = "";
        for (int n = 0; n < 5; n++) {
            x = Checks.on(WINDY + "runner 20 1 1;" + rabbits);
            Checks.due("the last set of " + n, 705, x.best(0, (1 << n) - 1, -1));
            Checks.due("one beyond of " + n, BAD, x.best(0, 1 << n, -1));
            Checks.due("the last set of " + n, 705, x.even(0, (1 << n) - 1, 1));
            Checks.due("one beyond of " + n, BAD, x.even(0, 1 << n, 1));
            Checks.due("no rabbit of " + n, BAD, x.stays(0, n));
            rabbits += "rabbit 40 1 1;";
        }
    }

    /** "the one PACE for all MILES by which he is not SPENT OUT that takes least". */
    private static void evens() {
        Checks.due("just enough", 22, Checks.on(FLAT + FLAT + "runner 20 8 1;").even(0, 0, 0));
        Checks.due("one too few", 21, Checks.on(FLAT + FLAT + "runner 20 7 1;").even(0, 0, 0));
        Checks.due("40", 40, Checks.on(DOWN + "runner 30 25 1;").even(0, 0, 0));
        Checks.due("its time", 300, Checks.on(DOWN + "runner 30 25 1;").even(0, 0, 1));
        Checks.due("39", 39, Checks.on(DOWN + "runner 30 24 1;").even(0, 0, 0));
        Checks.due("10", 10, Checks.on(FLAT + FLAT + "runner 10 1 1;").even(0, 0, 0));
        Checks.due("its time", 2400, Checks.on(FLAT + FLAT + "runner 10 1 1;").even(0, 0, 1));
        // sheltered in mile 0 alone, so not by 21 all the way
        PaceStore x = Checks.on(WINDY + WINDY + "runner 20 1 1;rabbit 21 1 1;rabbit 21 2 1;rabbit 20 2 1;");
        Checks.due("without", 16, x.even(0, 0, 0));
        Checks.due("till 1", 16, x.even(0, 1, 0));
        Checks.due("21 twice spends 2", 16, x.even(0, 2, 0));
        Checks.due("20 till 2", 20, x.even(0, 4, 0));
        Checks.due("its time", 1200, x.even(0, 4, 1));
        Checks.due("12 miles", 12 * 600, Checks.on(FLAT.repeat(12) + "runner 20 11 1;").even(0, 0, 1));
        Checks.due("12 miles", 12 * 571, Checks.on(FLAT.repeat(12) + "runner 20 12 1;").even(0, 0, 1));
    }

    private static void noEven() {
        PaceStore x = Checks.on("mile 1 0 0;mile 1 0 0;runner 10 1 1;runner 10 2 1;");
        Checks.due("even of none", NONE, x.even(0, 0, 0));
        Checks.due("its time", NONE, x.even(0, 0, 1));
        Checks.due("even of one", 10, x.even(1, 0, 0));
        Checks.due("its time", 2400, x.even(1, 0, 1));
    }

    /** "that of BEST and d more (what would be above 40 is 40)". */
    private static void whatWouldBeAboveForty() {
        PaceStore x = Checks.on(DOWN + DOWN + "runner 30 41 1;runner 30 40 1;runner 30 50 1;");
        // 39, 40 and 40, 39 take as long
        Checks.due("39 and 1", 0, x.early(0, 1));
        Checks.due("39 and 2", 0, x.early(0, 2));
        Checks.due("39 and 20", 0, x.early(0, 20));
        // 40: 39, 39 (32) is 614; 40 leaves 15: 38 (9) is 615
        Checks.due("39 and 1", 1, x.early(1, 1));
        Checks.due("39 and 20", 1, x.early(1, 20));
        Checks.due("40 and 1", 0, x.early(2, 1));
        Checks.due("40 and 20", 0, x.early(2, 20));
        Checks.due("d 0", BAD, x.early(0, 0));
        Checks.due("d 21", BAD, x.early(0, 21));
        x = Checks.on(DOWN + "runner 30 24 1;");
        Checks.due("40 is spent out", NONE, x.early(0, 1));
        Checks.due("40 is spent out", NONE, x.early(0, 20));
    }

    /** "by how much more BEST takes"; "NONE: there is none so". */
    private static void oneStepTooFast() {
        // 22, 22; 23 leaves none of 9 and then 20; 23 of 8 is spent out
        PaceStore x = Checks.on(FLAT + FLAT + "runner 20 9 3;runner 20 8 3;");
        Checks.due("23, 20", 521 + 600 - 1090, x.early(0, 1));
        Checks.due("24", NONE, x.early(0, 2));
        Checks.due("23 of 8", NONE, x.early(1, 1));
        // not spent out in mile 0, but there is none from there on: 11 in mile 1 needs all of the store
        x = Checks.on(FLAT + "mile 3 0 0;runner 10 9 1;");
        Checks.due("10, then all", 2400, x.best(0, 0, -1));
        Checks.due("11, then none", NONE, x.early(0, 1));
        x = Checks.on(FLAT + "mile 3 0 0;runner 10 10 1;");
        Checks.due("11, then 10", 1090 + 1200, x.best(0, 0, -1));
    }

    private static void hiredRow(String what, PaceStore x, int coin, int... want) {
        for (int k = 0; k < 3; k++) {
            Checks.due(what + ": hired(0, " + coin + ", " + k + ")", want[k], x.hired(0, coin, k));
        }
    }

    /** "of all sets of RABBITS that cost no more in COIN together". */
    private static void coinJustEnough() {
        PaceStore x = Checks.on(WINDY + "runner 20 1 1;rabbit 19 1 5;rabbit 20 1 9;rabbit 21 1 99;");
        hiredRow("no coin", x, 0, 0, 705, 0);
        hiredRow("one too few", x, 4, 0, 705, 0);
        hiredRow("just enough", x, 5, 1, 631, 5);
        hiredRow("one too few for the next", x, 8, 1, 631, 5);
        hiredRow("just enough for the next", x, 9, 2, 600, 9);
        hiredRow("one too few for the last", x, 98, 2, 600, 9);
        hiredRow("just enough for the last", x, 99, 4, 571, 99);
        hiredRow("more than all", x, 999, 4, 571, 99);
        Checks.due("coin -1", BAD, x.hired(0, -1, 0));
        Checks.due("coin 1000", BAD, x.hired(0, 1000, 0));
        // together: 20 in mile 0, 19 in mile 1 cost 4 and 6
        x = Checks.on(WINDY + WINDY + "runner 20 1 1;rabbit 20 1 4;rabbit 19 2 6;");
        hiredRow("one too few for both", x, 9, 2, 1262, 6);
        hiredRow("just enough for both", x, 10, 3, 1231, 10);
        x = Checks.on(WINDY + "runner 20 1 1;rabbit 20 1 0;");
        hiredRow("one for nothing", x, 0, 1, 600, 0);
        hiredRow("no rabbits", Checks.on(WINDY + "runner 20 1 1;"), 999, 0, 705, 0);
    }

    /** "of several that which costs least, then the least bits". */
    private static void ofSeveralWhatCostsLeast() {
        String start = WINDY + "runner 20 1 1;";
        hiredRow("the dearer first", Checks.on(start + "rabbit 20 1 7;rabbit 20 1 5;"), 99, 2, 600, 5);
        hiredRow("the cheaper first", Checks.on(start + "rabbit 20 1 5;rabbit 20 1 7;"), 99, 1, 600, 5);
        hiredRow("as dear", Checks.on(start + "rabbit 20 1 5;rabbit 20 1 5;"), 99, 1, 600, 5);
        hiredRow("for nothing, of no use, ahead", Checks.on(start + "rabbit 40 1 0;rabbit 20 1 5;"), 99, 2, 600, 5);
        hiredRow("for nothing, of no use, behind", Checks.on(start + "rabbit 20 1 5;rabbit 40 1 0;"), 99, 1, 600, 5);
        hiredRow("all for nothing", Checks.on(start + "rabbit 40 1 0;rabbit 20 1 0;rabbit 20 1 0;"), 0, 2, 600, 0);
        hiredRow("none of use", Checks.on(start + "rabbit 40 1 0;rabbit 30 1 3;"), 99, 0, 705, 0);
        hiredRow("the last of five", Checks.on(start + "rabbit 40 1 1;".repeat(4) + "rabbit 21 1 1;"), 99, 16, 571, 1);
    }

    /** The answer is the best of best() over all sets, up to all five at 99 each. */
    private static void hiredOfAllSets() {
        PaceStore x = Checks.on("mile 0 0 9;mile 1 0 9;mile 0 2 8;mile -1 0 8;mile 0 0 9;runner 30 12 2;"
                + "rabbit 33 1 99;rabbit 32 2 99;rabbit 31 3 99;rabbit 30 4 99;rabbit 29 5 99;");
        int most = 0;
        for (int coin : new int[] {0, 98, 99, 197, 198, 296, 297, 395, 396, 494, 495, 999}) {
            int[] want = {0, x.best(0, 0, -1), 0};
            for (int set = 1; set < 32; set++) {
                int cost = 99 * Integer.bitCount(set);
                int time = cost <= coin ? x.best(0, set, -1) : MOST;
                if (time < want[1] || time == want[1] && cost < want[2]) {
                    want = new int[] {set, time, cost};
                }
            }
            hiredRow("of all sets", x, coin, want);
            most = Math.max(most, want[0]);
        }
        Checks.due("a set of several is the best", 1, Integer.bitCount(most) > 2 ? 1 : 0);
    }

    /** Each of five hills has a rabbit of its own: the last of the sets is the best. */
    private static void allAreHired() {
        PaceStore x = Checks.on("mile -4 0 8;mile -2 0 8;mile 0 0 8;mile 2 0 8;mile 4 0 8;runner 20 1 1;"
                + "rabbit 24 5 99;rabbit 22 5 99;rabbit 20 5 99;rabbit 18 5 99;rabbit 16 5 99;");
        hiredRow("one coin too few for all", x, 494, 30, x.best(0, 30, -1), 396);
        hiredRow("just enough for all", x, 495, 31, x.best(0, 31, -1), 495);
        hiredRow("more than for all", x, 999, 31, x.best(0, 31, -1), 495);
        Checks.due("all take less than four", 1, x.best(0, 31, -1) < x.best(0, 30, -1) ? 1 : 0);
    }

    /** "NONE: no BEST by any." */
    private static void noneHired() {
        // by 10 the mile needs 23, sheltered 19: 81 of the store
        hiredRow("none", Checks.on(STEEP + "runner 10 80 9;rabbit 10 1 0;"), 999, NONE, NONE, NONE);
        hiredRow("just one", Checks.on(STEEP + "runner 10 81 9;rabbit 10 1 0;"), 999, 1, 1200, 0);
        PaceStore x = Checks.on(WINDY + "runner 10 1 1;rabbit 10 1 3;");
        hiredRow("none for 2", x, 2, NONE, NONE, NONE);
        hiredRow("one for 3", x, 3, 1, 1200, 3);
    }

    /** "whether he is not SPENT OUT up to TILL; if so, his time up to there, and the least from there to the end". */
    private static void staysUpToTill() {
        PaceStore x = Checks.on(FLAT + FLAT + "runner 20 4 1;runner 20 8 1;runner 20 7 1;"
                + "rabbit 22 1 0;rabbit 22 2 0;rabbit 21 2 0;rabbit 10 1 0;rabbit 40 1 0;");
        Checks.due("till 1, just enough", 545 + 600, x.stays(0, 0));
        Checks.due("till 2, spent out in the last of them", NONE, x.stays(0, 1));
        Checks.due("till 2, just enough", 1090, x.stays(1, 1));
        Checks.due("till 2, one too few", NONE, x.stays(2, 1));
        Checks.due("till 2, to the end", 1142, x.stays(0, 2));
        Checks.due("the slowest", 1200 + 545, x.stays(0, 3));
        Checks.due("the fastest", NONE, x.stays(0, 4));
        Checks.due("rabbit 5", BAD, x.stays(0, 5));
        Checks.due("rabbit -1", BAD, x.stays(0, -1));
        // "or there is no such time": behind 10 or 11 in mile 0, mile 1 needs 9 of the store
        x = Checks.on(FLAT + "mile 3 0 0;runner 10 9 1;rabbit 10 1 0;rabbit 11 1 0;");
        Checks.due("just enough from there", 2400, x.stays(0, 0));
        Checks.due("too few from there", NONE, x.stays(0, 1));
        // what he fills as a rabbit is left to him, up to his store
        x = Checks.on("mile 1 0 0;" + FLAT + FLAT + "runner 20 9 1;rabbit 20 1 0;rabbit 20 2 0;rabbit 19 2 0;");
        Checks.due("one spent", 600 + 545 + 545, x.stays(0, 0));
        Checks.due("one spent, none filled", 1200 + 545, x.stays(0, 1));
        Checks.due("none spent, the store is full", 1262 + 521, x.stays(0, 2));
    }

    /** "(by TILL beyond the last MILE: to the end)". */
    private static void staysBeyondTheEnd() {
        PaceStore x = Checks.on(FLAT + FLAT + "runner 20 8 1;runner 20 7 1;rabbit 22 2 0;rabbit 22 3 0;rabbit 22 12 0;");
        Checks.due("till just the end", 1090, x.stays(0, 0));
        Checks.due("till one beyond", 1090, x.stays(0, 1));
        Checks.due("till 12", 1090, x.stays(0, 2));
        Checks.due("spent out", NONE, x.stays(1, 2));
        x = Checks.on(FLAT.repeat(12) + "runner 20 12 1;runner 20 11 1;rabbit 21 12 0;rabbit 21 11 0;");
        Checks.due("12 of 12 miles", 12 * 571, x.stays(0, 0));
        Checks.due("12 of 12 miles, one too few", NONE, x.stays(1, 0));
        Checks.due("11 of 12 miles", 11 * 571 + 600, x.stays(1, 1));
    }

    /** "goes as a RABBIT by PACE, not SHELTERED"; from there "ALONE without RABBITS". */
    private static void staysWithoutShelter() {
        PaceStore x = Checks.on(WINDY + WINDY + "runner 20 1 1;rabbit 16 1 0;rabbit 20 2 0;rabbit 17 1 0;rabbit 18 1 0;");
        Checks.due("16, then 17, not 20", 750 + 705, x.stays(0, 0));
        Checks.due("20 is not sheltered by himself", NONE, x.stays(0, 1));
        Checks.due("17, then 16", 705 + 750, x.stays(0, 2));
        Checks.due("18 spends 4", NONE, x.stays(0, 3));
    }

    private static int hour(String text, int what, int... heats) {
        PaceStore x = Checks.on(text);
        Checks.sheet(x, 0, heats);
        return x.hour(0, 0, 0, heats.length - 2, what);
    }

    /** "for the hour that is as many later as MILE by 4 (cut) is". */
    private static void fourMilesAnHour() {
        String runner = "runner 20 1 1;";
        Checks.due("4 miles, the next hours hot", 3 * 600 + 571, hour(FLAT.repeat(4) + runner, 1, 0, 20, 20));
        Checks.due("4 miles, the first hour warm", 3 * 631 + 600, hour(FLAT.repeat(4) + runner, 1, 2, 0, 0));
        Checks.due("5 miles, the second hour warm", 4 * 600 + 600, hour(FLAT.repeat(5) + runner, 1, 0, 2, 20));
        Checks.due("5 miles, the third hour hot", 4 * 600 + 571, hour(FLAT.repeat(5) + runner, 1, 0, 0, 20));
        Checks.due("8 miles, the third hour hot", 7 * 600 + 571, hour(FLAT.repeat(8) + runner, 1, 0, 0, 20));
        Checks.due("9 miles, the third hour warm", 8 * 600 + 600, hour(FLAT.repeat(9) + runner, 1, 0, 0, 2));
        Checks.due("12 miles, the third hour warm", 8 * 600 + 3 * 631 + 600, hour(FLAT.repeat(12) + runner, 1, 0, 0, 2));
        Checks.due("12 miles, the second hour warm", 8 * 600 + 3 * 631 + 600, hour(FLAT.repeat(12) + runner, 1, 0, 2, 0));
        Checks.due("12 miles, cool", 11 * 600 + 571, hour(FLAT.repeat(12) + runner, 1, 0, 0, 0));
    }

    /** "HEAT of MILES is as told, and as a row tells": 0 and 20, cut as one heat. */
    private static void heatsAreAddedThenCut() {
        Checks.due("0 and 1", 571, hour(FLAT + "runner 20 1 1;", 1, 1, 0, 0));
        Checks.due("0 and 2", 600, hour(FLAT + "runner 20 1 1;", 1, 2, 0, 0));
        Checks.due("1 and 1", 600, hour("mile 0 1 0;runner 20 1 1;", 1, 1, 0, 0));
        Checks.due("1 and 0", 571, hour("mile 0 1 0;runner 20 1 1;", 1, 0, 0, 0));
        // 29 by 2 is 14: 17 needs 31
        Checks.due("9 and 20", 705, hour("mile 0 9 0;runner 30 1 1;", 1, 20, 20, 20));
        Checks.due("8 and 20", 705, hour("mile 0 8 0;runner 30 1 1;", 1, 20, 20, 20));
        Checks.due("9 and 19", 705, hour("mile 0 9 0;runner 30 1 1;", 1, 19, 20, 20));
        Checks.due("8 and 19", 666, hour("mile 0 8 0;runner 30 1 1;", 1, 19, 20, 20));
        PaceStore x = Checks.on("mile 0 9 0;runner 30 1 1;");
        Checks.sheet(x, 0, 20, 20, 20);
        Checks.due("an hour", 705, x.hour(0, 0, 0, 1, 1));
        Checks.due("the course's heat stays", 30 + 4, x.need(0, 30, 0));
        Checks.due("and its best", 444, x.best(0, 0, -1));
        x.set(0, 2, 21);
        Checks.due("an item of 21 that no mile meets", BAD, x.hour(0, 0, 0, 1, 1));
        x.set(0, 2, -1);
        Checks.due("an item of -1 that no mile meets", BAD, x.hour(0, 0, 0, 1, 1));
    }

    /** "n hours (1 to 24), n and 2 ITEMS of a SHEET from i on". */
    private static void oneHourToTwentyFour() {
        PaceStore x = Checks.on(FLAT.repeat(12) + "runner 20 1 1;runner 30 99 9;");
        x.sheet(0, 0, 26);
        for (int i = 0; i < 23; i++) {
            x.set(0, i, 4);
        }
        Checks.due("the 24th hour", 23, x.hour(0, 0, 0, 24, 0));
        Checks.due("BEST then", 11 * 600 + 571, x.hour(0, 0, 0, 24, 1));
        Checks.due("of 23 hours", 22, x.hour(0, 0, 0, 23, 0));
        Checks.due("0 hours", BAD, x.hour(0, 0, 0, 0, 0));
        Checks.due("25 hours", BAD, x.hour(0, 0, 0, 25, 0));
        Checks.due("24 of too few", PLACE, x.hour(0, 0, 1, 24, 0));
        Checks.due("one hour, the last items", 0, x.hour(0, 0, 23, 1, 0));
        Checks.due("one hour beyond", PLACE, x.hour(0, 0, 24, 1, 0));
        Checks.due("the last two hours", 1, x.hour(0, 0, 22, 2, 0));
        x.sheet(1, 1, 2);
        Checks.due("one hour of two items", PLACE, x.hour(0, 1, 0, 1, 0));
        x.sheet(1, 1, 3);
        Checks.due("one hour of three items", 0, x.hour(1, 1, 0, 1, 0));
        Checks.due("what 2", BAD, x.hour(0, 0, 0, 1, 2));
        Checks.due("what -1", BAD, x.hour(0, 0, 0, 1, -1));
        x.sheet(2, 2, 40);
        x.set(2, 13, 21);
        Checks.due("24 at the end of 40", 0, x.hour(0, 2, 14, 24, 0));
        Checks.due("one beyond", PLACE, x.hour(0, 2, 15, 24, 0));
        Checks.due("a bad one within", BAD, x.hour(0, 2, 13, 24, 0));
    }

    /** "of several the first". */
    private static void theFirstHourOfSeveral() {
        Checks.due("all alike", 0, hour(FLAT + "runner 20 1 1;", 0, 5, 5, 5, 5, 5));
        Checks.due("two alike", 1, hour(FLAT + "runner 20 1 1;", 0, 6, 2, 4, 2, 0));
        Checks.due("alike when cut", 1, hour(FLAT + "runner 20 1 1;", 0, 6, 3, 2, 9, 0));
        // "of those told": the two items behind the hours are no hours
        Checks.due("not the items behind", 0, hour(FLAT + "runner 20 1 1;", 0, 6, 0, 0));
    }

    private static void noHour() {
        Checks.due("which", NONE, hour(STEEP + "runner 10 99 9;", 0, 0, 0, 0, 0));
        Checks.due("BEST then", NONE, hour(STEEP + "runner 10 99 9;", 1, 0, 0, 0, 0));
        // 10 by line 10 with 1 to spend: a heat of 3 goes, one of 4 does not
        Checks.due("the only one", 1, hour(FLAT + "runner 10 1 1;", 0, 4, 3, 4, 0, 0));
        Checks.due("BEST then", 1200, hour(FLAT + "runner 10 1 1;", 1, 4, 3, 4, 0, 0));
        PaceStore x = Checks.on(WINDY + "runner 10 1 1;rabbit 10 1 0;");
        x.sheet(0, 0, 3);
        Checks.due("without RABBITS", NONE, x.hour(0, 0, 0, 1, 0));
        Checks.due("NONE is no finding", 0, x.status());
    }

    private static void feels(String what, String runner, int pace, int rules, int time) {
        PaceStore x = Checks.on(FLAT + runner);
        Checks.due(what + ": the rules", rules, x.feeling(0, pace, 0));
        Checks.due(what + ": his time", time, x.feeling(0, pace, 1));
    }

    /** 'store below a', 'store above b': less, and more. */
    private static void feelsBelowAndAbove() {
        feels("10 is not above 10", "runner 20 10 1;", 23, 1, 521);
        feels("11 is above 10", "runner 20 11 1;", 23, 2, 521);
        feels("10 is not below 10", "runner 20 10 1;", 24, 20, 521);
        feels("9 is below 10", "runner 20 9 1;", 24, 10, 521);
        // both hold: the first of them, ease
        feels("above 0 and below 20", "runner 20 15 1;", 24, 20, 521);
        feels("push at once", "runner 20 16 1;", 23, 0, 500);
    }

    /** "with a, b of 0, 10, 20 .. to 90". */
    private static void feelsUpToNinety() {
        feels("89 is below 90", "runner 20 89 1;", 30, 90, 413);
        feels("85 is below 90", "runner 20 85 1;", 30, 90, 413);
        feels("90 is not below 90, and there is no 100", "runner 20 90 1;", 30, 0, 600);
        feels("90 is not above 90", "runner 20 90 1;", 29, 9, 413);
        feels("91 is above 90, and there is no 100", "runner 20 91 1;", 29, 0, 600);
        // mile 0 by 23 just so, with all of 90; mile 1 by one less, with 81: the last rules of all
        PaceStore x = Checks.on(FLAT + "mile 5 4 0;runner 20 90 1;");
        Checks.due("90 below, 90 above: the rules", 99, x.feeling(0, 23, 0));
        Checks.due("90 below, 90 above: his time", 521 + 545, x.feeling(0, 23, 1));
    }

    /** From 10 and from 40, beyond which no rule goes. */
    private static void feelsFromTheEnds() {
        feels("from 10", "runner 20 9 1;", 10, 0, 1090);
        feels("from 40, spent out by all", "runner 20 9 1;", 40, 0, 600);
        PaceStore x = Checks.on(DOWN + "runner 30 25 1;runner 30 24 1;");
        Checks.due("from 40, pushed to 40", 0, x.feeling(0, 40, 0));
        Checks.due("his time", 300, x.feeling(0, 40, 1));
        Checks.due("from 40, eased to 39", 30, x.feeling(1, 40, 0));
        Checks.due("his time", 307, x.feeling(1, 40, 1));
        Checks.due("from 39, 24 is not above 30", 3, x.feeling(1, 39, 0));
        Checks.due("pace 9", BAD, x.feeling(0, 9, 0));
        Checks.due("pace 41", BAD, x.feeling(0, 41, 0));
        x = Checks.on("mile 5 9 9;mile 5 9 9;runner 10 1 1;");
        Checks.due("from 10, eased to 10", 0, x.feeling(0, 10, 0));
        Checks.due("his time", 2400, x.feeling(0, 10, 1));
    }

    /** "of several the least a, then b": and his own rules do not hold there. */
    private static void feelsTheLeast() {
        feels("all alike", "runner 10 1 1;", 40, 0, 1200);
        feels("his own rules", "runner 20 9 1;when mile below 9 push 9;", 22, 0, 521);
        PaceStore x = Checks.on("mile 0 0 8;" + "runner 20 9 1;runner 20 9 1;rabbit 23 1 1;");
        Checks.due("him alone, without rabbits", 631, x.feeling(1, 18, 1));
        Checks.due("what 2", BAD, x.feeling(0, 20, 2));
        Checks.due("what -1", BAD, x.feeling(0, 20, -1));
    }

    /** "in a RACE of him alone": the shelter in which he ended the latest RACE is not his. */
    private static void feelsNoShelterOfARace() {
        PaceStore x = Checks.on(DOWN + DOWN + "mile -5 0 8;runner 30 99 1;when mile above 0 ease 2;runner 30 99 1;");
        int rules = x.feeling(0, 40, 0);
        int time = x.feeling(0, 40, 1);
        Checks.sheet(x, 0, 40, 39);
        Checks.due("who comes first", 1, x.race(0, 0, 0));
        Checks.due("he ends it sheltered", 1, x.ran(0, 2, 3));
        Checks.due("the rules", rules, x.feeling(0, 40, 0));
        Checks.due("his time", time, x.feeling(0, 40, 1));
    }
}
