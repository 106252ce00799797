/** Promises 13 to 17 and 22, 23: a runner alone, his rabbits, the hour and the rule of feeling. */
public final class AloneTest {
    private static final int BAD = Checks.BAD, NONE = Checks.NONE;
    private static final String FLAT = "mile 0 0 0;", WINDY = "mile 0 0 8;", STEEP = "mile 5 9 9;";

    public static void main(String[] args) {
        refusals();
        bests();
        bestsWithRabbits();
        evens();
        earlies();
        hireds();
        stays();
        hours();
        feelings();
        Checks.end();
    }

    private static void refusals() {
        PaceStore x = Checks.on(FLAT + "runner 20 9 3; rabbit 20 1 1; rabbit 21 1 1;");
        Checks.due("best runner", BAD, x.best(1, 0, -1));
        Checks.due("best runner", BAD, x.best(-1, 0, -1));
        Checks.due("best rabbits", BAD, x.best(0, 4, -1));
        Checks.due("best rabbits", BAD, x.best(0, -1, -1));
        Checks.due("best k", BAD, x.best(0, 3, -2));
        Checks.due("best k", NONE, x.best(0, 3, 1));
        Checks.due("best k", NONE, x.best(0, 3, Integer.MAX_VALUE));
        Checks.due("even runner", BAD, x.even(1, 0, 0));
        Checks.due("even rabbits", BAD, x.even(0, 4, 0));
        Checks.due("even what", BAD, x.even(0, 0, 2));
        Checks.due("even what", BAD, x.even(0, 0, -1));
        Checks.due("early runner", BAD, x.early(1, 1));
        Checks.due("early d", BAD, x.early(0, 0));
        Checks.due("early d", BAD, x.early(0, 21));
        Checks.due("hired runner", BAD, x.hired(-1, 0, 0));
        Checks.due("hired coin", BAD, x.hired(0, -1, 0));
        Checks.due("hired coin", BAD, x.hired(0, 1000, 0));
        Checks.due("hired what", BAD, x.hired(0, 999, 3));
        Checks.due("hired what", BAD, x.hired(0, 999, -1));
        Checks.due("stays runner", BAD, x.stays(1, 0));
        Checks.due("stays rabbit", BAD, x.stays(0, 2));
        Checks.due("stays rabbit", BAD, x.stays(0, -1));
        Checks.due("hour runner", BAD, x.hour(1, 0, 0, 1, 0));
        Checks.due("hour sheet", BAD, x.hour(0, 8, 0, 1, 0));
        Checks.due("hour n", BAD, x.hour(0, 0, 0, 0, 0));
        Checks.due("hour n", BAD, x.hour(0, 0, 0, 25, 0));
        Checks.due("hour what", BAD, x.hour(0, 0, 0, 1, 2));
        Checks.due("hour NULL", Checks.NULL, x.hour(0, 7, 0, 24, 1));
        Checks.due("hour NULL", Checks.NULL, x.hour(0, 0, 0, 24, 1));
        Checks.due("feeling runner", BAD, x.feeling(1, 20, 0));
        Checks.due("feeling pace", BAD, x.feeling(0, 9, 0));
        Checks.due("feeling pace", BAD, x.feeling(0, 41, 0));
        Checks.due("feeling what", BAD, x.feeling(0, 20, 2));
        Checks.due("feeling what", BAD, x.feeling(0, 20, -1));
    }

    private static void bestRow(PaceStore x, int runner, int rabbits, int... want) {
        for (int k = -1; k < want.length - 1; k++) {
            Checks.due("best(" + runner + ", " + rabbits + ", " + k + ")", want[k + 1], x.best(runner, rabbits, k));
        }
    }

    private static void bests() {
        // 9 to spend: by 23, or by 22, 22 (8), or, with one filled, 20, 23
        bestRow(Checks.on(FLAT + "runner 20 9 3;"), 0, 0, 521, 23);
        bestRow(Checks.on(FLAT + FLAT + "runner 20 9 3;"), 0, 0, 1090, 22, 22);
        // like times: the least paces first
        bestRow(Checks.on(FLAT + FLAT + "runner 20 5 1;"), 0, 0, 545 + 571, 21, 22);
        bestRow(Checks.on(FLAT + FLAT + FLAT + "runner 20 1 1;"), 0, 0, 600 + 600 + 571, 20, 20, 21);
        // a shorter course behind a longer one
        PaceStore shorter = Checks.on(FLAT + FLAT + FLAT + "runner 20 9 3;");
        Checks.due("three miles", 3, shorter.count(1));
        Checks.due("their best", NONE, shorter.best(0, 0, 3));
        Checks.read(shorter, FLAT + FLAT + "runner 20 9 3; rabbit 22 1 1;");
        bestRow(shorter, 0, 0, 1090, 22, 22);
        Checks.due("stays", 1090, shorter.stays(0, 0));
        // nothing above 40
        bestRow(Checks.on("mile -5 0 0;" + "runner 30 99 1;"), 0, 0, 300, 40);
        PaceStore x = Checks.on(STEEP + FLAT + "runner 10 9 1;");
        bestRow(x, 0, 0, NONE, NONE, NONE);
        Checks.due("even", NONE, x.even(0, 0, 0));
        Checks.due("even", NONE, x.even(0, 0, 1));
        Checks.due("early", NONE, x.early(0, 1));
        Checks.due("hired", NONE, x.hired(0, 999, 0));
        Checks.due("hired", NONE, x.hired(0, 999, 2));
    }

    private static void bestsWithRabbits() {
        // in the wind 4 are lost, but for the pace of a rabbit up to its till
        PaceStore x = Checks.on(WINDY + WINDY + "runner 20 1 1; rabbit 20 1 1; rabbit 21 2 1; rabbit 19 12 1; rabbit 30 12 1;");
        bestRow(x, 0, 0, 750 + 705, 16, 17);
        bestRow(x, 0, 1, 600 + 705, 20, 17);
        bestRow(x, 0, 2, 571 + 750, 16, 21);
        bestRow(x, 0, 3, 600 + 571, 20, 21);
        bestRow(x, 0, 4, 631 + 631, 19, 19);
        bestRow(x, 0, 6, 631 + 571, 19, 21);
        bestRow(x, 0, 8, 750 + 705, 16, 17);
        Checks.due("even 0", 16, x.even(0, 0, 0));
        Checks.due("even 1", 16, x.even(0, 1, 0));
        Checks.due("even 4", 19, x.even(0, 4, 0));
        Checks.due("even 4", 1262, x.even(0, 4, 1));
        Checks.due("even 2", 16, x.even(0, 2, 0));
        Checks.due("even 2", 1500, x.even(0, 2, 1));
    }

    private static void evens() {
        PaceStore x = Checks.on(FLAT + FLAT + "runner 20 8 3; runner 20 7 3;");
        Checks.due("even 22", 22, x.even(0, 0, 0));
        Checks.due("even 22", 1090, x.even(0, 0, 1));
        Checks.due("even 21", 21, x.even(1, 0, 0));
        // a greater pace may go where a lesser one does not: sheltered
        x = Checks.on(WINDY + "runner 20 1 1; rabbit 21 1 1;");
        Checks.due("even by a rabbit", 21, x.even(0, 1, 0));
        Checks.due("even without", 17, x.even(0, 0, 0));
    }

    private static void earlies() {
        // 22, 22 is best (1090); 23 first leaves 0, then 20
        PaceStore x = Checks.on(FLAT + FLAT + "runner 20 9 3; runner 30 99 3;");
        Checks.due("early 1", 521 + 600 - 1090, x.early(0, 1));
        Checks.due("early 2", NONE, x.early(0, 2));
        // 99: 37, 37 (98) is 648; 38 leaves 35: 35 (25); 39 leaves 18: 34; 40 is above 99 spent
        bestRow(x, 1, 0, 648, 37, 37);
        Checks.due("early 1", 315 + 342 - 648, x.early(1, 1));
        Checks.due("early 2", 307 + 352 - 648, x.early(1, 2));
        Checks.due("early 3", NONE, x.early(1, 3));
        // what would be above 40 is 40
        x = Checks.on("mile -5 0 0; mile -5 0 0; runner 30 99 3;");
        bestRow(x, 0, 0, 600, 40, 40);
        Checks.due("early 20", 0, x.early(0, 20));
    }

    private static void hireds() {
        PaceStore x = Checks.on(WINDY + WINDY + "runner 20 1 1; rabbit 20 1 5; rabbit 21 2 7; rabbit 19 12 4; rabbit 20 1 5; rabbit 20 1 3;");
        hiredRow(x, 0, 0, 1455, 0);
        hiredRow(x, 2, 0, 1455, 0);
        hiredRow(x, 3, 16, 1305, 3);
        // rabbit 2 alone 1262 for 4; rabbits 1 and 2 1202 for 11; 1 and 4 1171 for 10
        hiredRow(x, 4, 4, 1262, 4);
        // rabbits 2 and 4: 20, 19, for 7
        hiredRow(x, 7, 20, 1231, 7);
        hiredRow(x, 9, 20, 1231, 7);
        hiredRow(x, 10, 18, 1171, 10);
        hiredRow(x, 999, 18, 1171, 10);
        // like times and costs: the least bits
        x = Checks.on(WINDY + "runner 20 1 1; rabbit 21 1 5; rabbit 30 1 0; rabbit 21 1 5;");
        hiredRow(x, 99, 1, 571, 5);
        hiredRow(x, 4, 0, 705, 0);
        // a rabbit makes a best where there is none without
        x = Checks.on("mile 0 0 8; runner 10 9 1; rabbit 10 1 9;");
        hiredRow(x, 8, NONE, NONE, NONE);
        hiredRow(x, 9, 1, 1200, 9);
    }

    private static void hiredRow(PaceStore x, int coin, int... want) {
        for (int what = 0; what < 3; what++) {
            Checks.due("hired(0, " + coin + ", " + what + ")", want[what], x.hired(0, coin, what));
        }
    }

    private static void stays() {
        PaceStore x = Checks.on(FLAT + FLAT + WINDY + "runner 20 9 3; runner 20 3 3; rabbit 21 2 0; rabbit 22 2 0; rabbit 19 12 0;"
                + "rabbit 10 1 0; rabbit 16 3 0;");
        // 21, 21 leave 7: in the wind 16 is 20, so 18 (4)
        Checks.due("stays(0, 0)", 571 * 2 + 666, x.stays(0, 0));
        // 22, 22 leave 1: 17
        Checks.due("stays(0, 1)", 545 * 2 + 705, x.stays(0, 1));
        // 19 in the wind is 23: 9
        Checks.due("stays(0, 2)", 631 * 3, x.stays(0, 2));
        Checks.due("stays(1, 2)", NONE, x.stays(1, 2));
        Checks.due("stays(1, 1)", NONE, x.stays(1, 1));
        Checks.due("stays(1, 0)", 571 * 2 + 705, x.stays(1, 0));
        Checks.due("stays(0, 4), just to the end", 750 * 3, x.stays(0, 4));
        // behind till 1: 20 (stays 9), then 23 or as 22, 17 .. whatever is least
        Checks.due("stays(0, 3)", 1200 + Math.min(Math.min(521 + 750, 545 + 666), Math.min(571 + 666, 600 + 631)), x.stays(0, 3));
        // no such time from there on
        x = Checks.on(FLAT + STEEP + "runner 10 9 1; rabbit 10 1 0;");
        Checks.due("no time from there", NONE, x.stays(0, 0));
    }

    private static void hours() {
        PaceStore x = Checks.on(FLAT.repeat(9) + "runner 20 1 1;");
        // 4 miles by the hour, 4 by the next one, 1 by the one behind that
        Checks.sheet(x, 0, 20, 9, 4, 0, 0, 9, 20, 21);
        Checks.due("hour 3", 3, x.hour(0, 0, 0, 5, 0));
        Checks.due("the second of two", 1, x.hour(0, 0, 0, 2, 0));
        Checks.due("hour of one", 0, x.hour(0, 0, 0, 1, 0));
        Checks.due("from i on", 2, x.hour(0, 0, 1, 4, 0));
        PaceStore cool = Checks.on(FLAT.repeat(8) + "mile 0 9 0; runner 20 1 1;");
        Checks.due("BEST then", cool.best(0, 0, -1), x.hour(0, 0, 0, 5, 1));
        Checks.due("PLACE", Checks.PLACE, x.hour(0, 0, 0, 7, 0));
        Checks.due("PLACE", Checks.PLACE, x.hour(0, 0, -1, 1, 0));
        Checks.due("an item of 21", BAD, x.hour(0, 0, 0, 6, 0));
        x.set(0, 7, -1);
        Checks.due("an item of -1", BAD, x.hour(0, 0, 0, 6, 0));
        x.set(0, 7, 20);
        Checks.due("an item of 20", 3, x.hour(0, 0, 0, 6, 0));
        Checks.sheet(x, 1, 3, 3, 3, 3);
        Checks.due("of several the first", 0, x.hour(0, 1, 0, 2, 0));
        // the sum is cut, not each: 1 and 1 by 2 is 1
        PaceStore odd = Checks.on("mile 0 1 0; runner 20 1 1;");
        Checks.sheet(odd, 0, 1, 0, 0);
        Checks.due("the sum is cut", 600, odd.hour(0, 0, 0, 1, 1));
        Checks.sheet(odd, 0, 0, 0, 0);
        Checks.due("the sum is cut", 571, odd.hour(0, 0, 0, 1, 1));
        PaceStore hot = Checks.on("mile 0 0 0; runner 10 1 1; rabbit 10 1 1;");
        Checks.sheet(hot, 0, 20, 20, 20, 20);
        Checks.due("NONE", NONE, hot.hour(0, 0, 0, 2, 0));
        Checks.due("NONE", NONE, hot.hour(0, 0, 0, 2, 1));
        Checks.sheet(hot, 0, 20, 0, 20, 20);
        Checks.due("the one that is", 1, hot.hour(0, 0, 0, 2, 0));
        Checks.due("no heat stays behind", 1090, hot.best(0, 0, -1));
    }

    private static void feelings() {
        // from 20 by 9: push at once by b of 0: 21 (8), 22 (4), 23 (out) ..
        PaceStore x = Checks.on(FLAT + FLAT + FLAT + "runner 20 9 3; when mile below 9 push 9;");
        Checks.due("feeling", 0, x.feeling(0, 20, 0));
        Checks.due("its time", 571 + 545 + 600, x.feeling(0, 20, 1));
        // from 22 by 4: above 0 would be 23, out; b of 10 keeps 22, but a of 0 never eases
        x = Checks.on(FLAT + "runner 20 4 3;");
        Checks.due("feeling keeps", 1, x.feeling(0, 22, 0));
        Checks.due("its time", 545, x.feeling(0, 22, 1));
        // from 23 by 4: ease at once by a of 10, whatever b
        Checks.due("feeling eases", 10, x.feeling(0, 23, 0));
        Checks.due("its time", 545, x.feeling(0, 23, 1));
        Checks.due("nothing helps", 0, x.feeling(0, 40, 0));
        Checks.due("nothing helps", 600, x.feeling(0, 40, 1));
    }
}
