/** Promises 9 to 12, 26 to 29, 24 and 25: races, the steps of a race, and images of them. */
public final class RacesTest {
    private static final int BAD = Checks.BAD, STATE = Checks.STATE, NONE = Checks.NONE;

    public static void main(String[] args) {
        needs();
        refusals();
        stores();
        rules();
        shelter();
        shelteredAndSpentOut();
        slips();
        places();
        kinds();
        asks();
        images();
        Checks.end();
    }

    private static void ranRow(PaceStore x, int runner, int mile, int... want) {
        for (int what = 0; what < want.length; what++) {
            Checks.due("ran(" + runner + ", " + mile + ", " + what + ")", want[what], x.ran(runner, mile, what));
        }
    }

    private static void needs() {
        PaceStore x = Checks.on("mile -5 9 9; mile 5 0 1; runner 20 9 1;");
        Checks.due("need down", 20 - 5 + 4 + 4, x.need(0, 20, 0));
        Checks.due("need down, sheltered", 20 - 5 + 4, x.need(0, 20, 1));
        Checks.due("need up", 45, x.need(1, 40, 0));
        Checks.due("need least", 10 - 5 + 4, x.need(0, 10, 1));
        Checks.due("mile -1", BAD, x.need(-1, 20, 0));
        Checks.due("mile 2", BAD, x.need(2, 20, 0));
        Checks.due("pace 9", BAD, x.need(0, 9, 0));
        Checks.due("pace 41", BAD, x.need(0, 41, 0));
        Checks.due("sheltered 2", BAD, x.need(0, 20, 2));
        Checks.due("sheltered -1", BAD, x.need(0, 20, -1));
    }

    private static void refusals() {
        PaceStore x = new PaceStore();
        Checks.due("BAD seed ahead of STATE", BAD, x.race(0, 0, -1));
        Checks.due("STATE ahead of NULL", STATE, x.race(0, 0, 999999));
        Checks.read(x, "mile 0 0 0; runner 20 9 1; runner 20 9 1;");
        Checks.due("NULL", Checks.NULL, x.race(0, -1, 0));
        Checks.sheet(x, 0, 10, 40, 41, 9);
        Checks.due("race(-1)", BAD, x.race(-1, 0, 0));
        Checks.due("race(8)", BAD, x.race(8, 0, 0));
        Checks.due("seed", BAD, x.race(0, 0, 1000000));
        Checks.due("PLACE -1", Checks.PLACE, x.race(0, -1, 0));
        Checks.due("PLACE 3", Checks.PLACE, x.race(0, 3, 0));
        Checks.due("PLACE MAX", Checks.PLACE, x.race(0, Integer.MAX_VALUE, 0));
        Checks.due("PLACE MIN", Checks.PLACE, x.race(0, Integer.MIN_VALUE, 0));
        Checks.due("an item of 41", BAD, x.race(0, 1, 0));
        Checks.due("an item of 9", BAD, x.race(0, 2, 0));
        Checks.due("no race yet", 0, x.count(6));
        Checks.due("place, no race", STATE, x.place(0));
        Checks.due("ran, no race", STATE, x.ran(1, 0, 5));
        Checks.due("ran, BAD ahead of STATE", BAD, x.ran(0, 1, 0));
        Checks.due("10 and 40", 1, x.race(0, 0, 0));
        Checks.due("an item of 41 later", BAD, x.race(0, 1, 0));
        ranRow(x, 0, 0, 1200, 10);
        Checks.due("runner 2", BAD, x.ran(2, 0, 0));
        Checks.due("runner -1", BAD, x.ran(-1, 0, 0));
        Checks.due("mile 1", BAD, x.ran(0, 1, 0));
        Checks.due("mile -1", BAD, x.ran(0, -1, 0));
        Checks.due("what 6", BAD, x.ran(0, 0, 6));
        Checks.due("what -1", BAD, x.ran(0, 0, -1));
        Checks.due("place(2)", BAD, x.place(2));
        Checks.due("place(-1)", BAD, x.place(-1));
    }

    /** Line 20: 22 spends 4 a mile, 10 fills by 3, at most to the store. */
    private static void stores() {
        PaceStore x = Checks.on("mile 0 0 0; mile 0 0 0; mile 0 0 0; runner 20 9 3; when mile above 1 ease 9;");
        Checks.sheet(x, 0, 22);
        x.race(0, 0, 0);
        ranRow(x, 0, 0, 545, 22, 5, 0, 0, 545);
        ranRow(x, 0, 1, 545, 22, 1, 0, 0, 1090);
        ranRow(x, 0, 2, 923, 13, 4, 0, 0, 2013);
        Checks.read(x, "mile 0 0 0; mile 0 0 0; mile 5 9 9; runner 20 9 3; when mile above 0 push 1;");
        x.set(0, 0, 18);
        x.race(0, 0, 0);
        ranRow(x, 0, 0, 666, 18, 9, 0, 0, 666);
        ranRow(x, 0, 1, 631, 19, 9, 0, 0, 1297);
        ranRow(x, 0, 2, 1200, 20, 0, 0, 1, 2497);
    }

    private static void rules() {
        String miles = "mile 0 0 0;".repeat(3);
        PaceStore x = Checks.on(miles + "runner 20 99 3; when store below 99 push 9; when mile above 0 ease 9; when store above 98 push 1;");
        Checks.sheet(x, 0, 25, 30);
        x.race(0, 0, 0);
        ranRow(x, 0, 0, 461, 26, 63);
        ranRow(x, 0, 1, 600, 35, 0, 0, 1);
        ranRow(x, 0, 2, 600, 40, 0, 0, 1);
        Checks.read(x, miles + "runner 20 99 3; when mile below 9 ease 9;");
        x.race(0, 0, 0);
        ranRow(x, 0, 0, 750, 16);
        ranRow(x, 0, 1, 1200, 10);
        Checks.read(x, miles + "runner 20 99 3; when behind above 50 push 2; runner 30 99 3; when behind below 1 ease 1;");
        x.set(0, 0, 25);
        x.race(0, 0, 0);
        ranRow(x, 0, 0, 480, 25, 74, 0, 0, 480);
        ranRow(x, 1, 0, 413, 29, 99, 0, 0, 413);
        ranRow(x, 0, 1, 444, 27, 25, 0, 0, 924);
        ranRow(x, 1, 1, 428, 28, 99, 0, 0, 841);
        ranRow(x, 0, 2, 600, 29, 0, 0, 1, 1524);
        ranRow(x, 1, 2, 444, 27, 99, 0, 0, 1285);
    }

    /**
     * Three runners who come by 24, 24 and 25, 23 and 26, 22 into a windy mile 2, at 1000, 1001 and 1006;
     * there they want 24, a told pace, and 24.
     */
    private static PaceStore threeInTheWind(int paceOfSecond) {
        PaceStore x = Checks.on("mile 0 0 0; mile 0 0 0; mile 0 0 8; runner 24 20 1;"
                + "runner 24 20 1; when mile below 1 push 1; when mile below 2 ease 2; when mile above 1 "
                + (paceOfSecond > 23 ? "push " : "ease ") + Math.abs(paceOfSecond - 23) + ";"
                + "runner 24 20 1; when mile below 1 push 2; when mile below 2 ease 4; when mile above 1 push 2;");
        Checks.sheet(x, 0, 24, 24, 24);
        Checks.due("who comes first", 0, x.race(0, 0, 0));
        return x;
    }

    private static void shelter() {
        PaceStore x = threeInTheWind(24);
        ranRow(x, 0, 1, 500, 24, 20, 0, 0, 1000);
        ranRow(x, 1, 1, 521, 23, 20, 0, 0, 1001);
        ranRow(x, 2, 1, 545, 22, 17, 0, 0, 1006);
        ranRow(x, 0, 2, 500, 24, 4, 0, 0, 1500);
        ranRow(x, 1, 2, 500, 24, 20, 1, 0, 1501);
        ranRow(x, 2, 2, 500, 24, 17, 1, 0, 1506);
        x = threeInTheWind(22);
        ranRow(x, 0, 2, 500, 24, 4, 0, 0, 1500);
        ranRow(x, 1, 2, 545, 22, 20, 1, 0, 1546);
        // the one 5 ahead wants less, the one who wants as much is 6 ahead
        ranRow(x, 2, 2, 500, 24, 1, 0, 0, 1506);
        x = threeInTheWind(25);
        ranRow(x, 1, 2, 600, 25, 0, 0, 1, 1601);
        ranRow(x, 2, 2, 500, 24, 17, 1, 0, 1506);
        Checks.due("BEHIND", 3, x.kind(2, 2));
        Checks.due("DEAD", 4, x.kind(1, 2));
        Checks.due("its place", 2, x.place(1));
    }

    /** Sheltered by the rule, and spent out all the same: he goes it, and is told, not sheltered. */
    private static void shelteredAndSpentOut() {
        PaceStore x = Checks.on("mile 0 0 0; mile 0 0 0; mile 5 0 8; runner 30 99 1;"
                + "runner 24 20 1; when mile below 1 push 1; when mile below 2 ease 2; when mile above 1 push 1;");
        Checks.sheet(x, 0, 24, 24);
        x.race(0, 0, 0);
        ranRow(x, 1, 2, 800, 24, 0, 0, 1, 1801);
        Checks.due("DEAD", 4, x.kind(1, 2));
        // a hard mile by which he is not spent out stays a sheltered one
        x = Checks.on("mile 0 0 0; mile 0 0 0; mile 2 0 8; runner 30 99 1;"
                + "runner 24 20 1; when mile below 1 push 1; when mile below 2 ease 2; when mile above 1 push 1;");
        Checks.sheet(x, 0, 24, 24);
        x.race(0, 0, 0);
        ranRow(x, 1, 2, 500, 24, 16, 1, 0, 1501);
        Checks.due("SURGED", 5, x.kind(1, 2));
    }

    private static void slips() {
        // X by 16807: 1 -> 16807 (rest 0 by 7: 1 more), 282475249 (rest by 7 is 0: 1 more)
        PaceStore x = Checks.on("mile 0 0 0; mile 0 0 0; mile 0 0 0; runner 30 9 1;");
        Checks.sheet(x, 0, 20);
        long drawn = 1;
        int pace = 20;
        x.race(0, 0, 1);
        for (int mile = 0; mile < 3; mile++) {
            drawn = drawn * 16807 % 2147483647L;
            pace += drawn % 7 == 0 ? 1 : drawn % 7 == 1 ? -1 : 0;
            Checks.due("a slip", pace, x.ran(0, mile, 1));
        }
        x.race(0, 0, 0);
        Checks.due("no slips", 20, x.ran(0, 2, 1));
        x.set(0, 0, 40);
        x.race(0, 0, 1);
        Checks.due("40 at most", 40, x.ran(0, 1, 1));
    }

    private static void places() {
        PaceStore x = Checks.on("mile 0 0 0; runner 30 9 1; runner 30 9 1; runner 30 9 1; runner 30 9 1;");
        Checks.sheet(x, 0, 20, 25, 20, 26);
        Checks.due("who comes first", 3, x.race(0, 0, 0));
        Checks.due("place(0)", 2, x.place(0));
        Checks.due("place(1)", 1, x.place(1));
        Checks.due("place(2)", 3, x.place(2));
        Checks.due("place(3)", 0, x.place(3));
        x.set(0, 3, 25);
        x.sheet(7, 0, 40);
        for (int i = 36; i < 40; i++) {
            x.set(7, i, i - 16);
        }
        Checks.due("the last items of the last sheet", 3, x.race(7, 36, 0));
        Checks.due("beyond", Checks.PLACE, x.race(7, 37, 0));
        Checks.due("of it", 23, x.ran(3, 0, 1));
        Checks.due("of like ones the least", 1, x.race(0, 0, 0));
        Checks.due("place(3)", 1, x.place(3));
    }

    private static void kinds() {
        PaceStore x = Checks.on("mile 0 0 0; mile 0 0 0; mile 0 0 0; runner 20 9 3; when mile above 1 push 9; when mile above 0 push 2;");
        Checks.due("kind, no race", STATE, x.kind(0, 0));
        Checks.due("as, no race", STATE, x.as(0, 0, 0));
        Checks.due("kind, BAD ahead of STATE", BAD, x.kind(0, 3));
        Checks.sheet(x, 0, 20);
        x.race(0, 0, 0);
        Checks.due("EASY", 1, x.kind(0, 0));
        Checks.due("SURGED", 5, x.kind(0, 1));
        Checks.due("DEAD ahead of SURGED", 4, x.kind(0, 2));
        Checks.due("kind(1, 0)", BAD, x.kind(1, 0));
        Checks.due("kind(-1, 0)", BAD, x.kind(-1, 0));
        Checks.due("kind(0, -1)", BAD, x.kind(0, -1));
        asRow(x, 0, 600, 600, Checks.KIND, Checks.KIND, Checks.KIND, Checks.KIND);
        asRow(x, 1, 545, Checks.KIND, 545, Checks.KIND, Checks.KIND, 545);
        asRow(x, 2, 600, Checks.KIND, 600, Checks.KIND, 600, Checks.KIND);
        Checks.due("as(0, 0, -1)", BAD, x.as(0, 0, -1));
        Checks.due("as(0, 0, 6)", BAD, x.as(0, 0, 6));
        Checks.due("as(1, 0, 0)", BAD, x.as(1, 0, 0));
        Checks.due("as(0, 3, 0)", BAD, x.as(0, 3, 0));
        x.set(0, 0, 22);
        x.race(0, 0, 0);
        Checks.due("HARD: none is SURGED in mile 0", 2, x.kind(0, 0));
        asRow(x, 0, 545, Checks.KIND, 545, Checks.KIND, Checks.KIND, Checks.KIND);
    }

    private static void asRow(PaceStore x, int mile, int... want) {
        for (int kind = 0; kind < want.length; kind++) {
            Checks.due("as(0, " + mile + ", " + kind + ")", want[kind], x.as(0, mile, kind));
        }
    }

    private static void asked(PaceStore x, int runner, int mile, int what, int want, int... trace) {
        Checks.due("ask(" + runner + ", " + mile + ", " + what + ")", want, x.ask(runner, mile, what));
        for (int i = 0; i < trace.length; i++) {
            Checks.due("trace(" + i + ")", trace[i], x.trace(i));
        }
        Checks.due("trace at its end", NONE, x.trace(trace.length));
    }

    private static void asks() {
        PaceStore x = Checks.on("mile 0 0 0; mile 0 0 0; mile 0 0 0; runner 20 9 3; when mile above 1 push 9; when mile above 0 push 2;");
        Checks.due("ask, no race", STATE, x.ask(0, 0, 0));
        Checks.sheet(x, 0, 20);
        x.race(0, 0, 0);
        asked(x, 0, 0, 0, 600 - 9, 13, 10);
        asked(x, 0, 0, 1, 0 + 591, 23, 20, 13, 10);
        asked(x, 0, 1, 0, 545 + 1 + 22 + 100, 11, 10, 22, 21, 20);
        asked(x, 0, 1, 1, 1 + 22 + 100, 22, 21, 20);
        asked(x, 0, 2, 1, 2 + 31, 21, 20);
        asked(x, 0, 2, 0, 2 * (600 + 2 + 31), 12, 11, 10, 21, 20);
        Checks.due("ask(0, 0, 2)", BAD, x.ask(0, 0, 2));
        Checks.due("ask(0, 0, -1)", BAD, x.ask(0, 0, -1));
        Checks.due("ask(1, 0, 0)", BAD, x.ask(1, 0, 0));
        Checks.due("ask(0, 3, 0)", BAD, x.ask(0, 3, 0));
        Checks.due("a refused ask leaves the trace", 12, x.trace(0));
        Checks.due("trace(-1)", NONE, x.trace(-1));
        Checks.due("trace(MIN)", NONE, x.trace(Integer.MIN_VALUE));
        Checks.read(x, "mile 0 0 0; runner 20 9 3;");
        Checks.due("ask, STATE", STATE, x.ask(0, 0, 0));
        Checks.due("STATE leaves the trace", 20, x.trace(4));
        x.race(0, 0, 0);
        asked(x, 0, 0, 0, 591, 13, 10);
        behindAsked();
    }

    private static void behindAsked() {
        PaceStore x = threeInTheWind(24);
        Checks.due("BEHIND", 3, x.kind(2, 2));
        Checks.due("as STEP", 500, x.as(2, 2, 0));
        Checks.due("as EASY", 500, x.as(2, 2, 1));
        Checks.due("as HARD", Checks.KIND, x.as(2, 2, 2));
        Checks.due("as BEHIND", 500, x.as(2, 2, 3));
        Checks.due("as DEAD", Checks.KIND, x.as(2, 2, 4));
        Checks.due("as SURGED", Checks.KIND, x.as(2, 2, 5));
        asked(x, 2, 2, 0, 500 - 17 - 1, 14, 13, 10);
        asked(x, 2, 2, 1, -(2 + 500 - 17 - 1), 24, 23, 20, 14, 13, 10);
        Checks.due("HARD", 2, x.kind(0, 2));
        asked(x, 0, 2, 0, 500 + 2 + 24, 11, 10, 21, 20);
        asked(x, 0, 2, 1, 2 + 24, 21, 20);
    }

    private static void images() {
        PaceStore x = new PaceStore();
        Checks.due("image(-1)", BAD, x.image(-1));
        Checks.due("image(2)", BAD, x.image(2));
        Checks.due("image(1)", STATE, x.image(1));
        Checks.due("restore(-1)", BAD, x.restore(-1));
        Checks.due("restore(2)", BAD, x.restore(2));
        Checks.due("restore(1)", STATE, x.restore(1));
        Checks.read(x, "mile 1 2 3; mile 0 0 0; runner 20 9 3; when store above 0 push 1; rabbit 20 2 3;");
        Checks.due("image(0)", 1, x.image(0));
        Checks.sheet(x, 0, 20, 21);
        x.race(0, 0, 0);
        Checks.due("image(1)", 1, x.image(1));
        Checks.due("a course anew", 1, Checks.read(x, "mile 0 0 0; runner 30 99 9; runner 29 98 8;"));
        Checks.due("race", 1, x.race(0, 0, 0));
        Checks.due("restore(1)", 1, x.restore(1));
        Checks.due("runners", 1, x.count(2));
        Checks.due("rabbits", 1, x.count(3));
        Checks.due("rules", 1, x.count(4));
        Checks.due("need", 20 + 1 + 1 + 1, x.need(0, 20, 0));
        Checks.due("ran", 21, x.ran(0, 1, 1));
        Checks.due("place", 0, x.place(0));
        Checks.due("a later race", 0, x.race(0, 1, 0));
        Checks.due("of it", 22, x.ran(0, 1, 1));
        Checks.due("restore(1) again", 1, x.restore(1));
        // he wants 21: it needs 24, then 21 with nothing left; spent out he goes by 17, then by 20
        ranRow(x, 0, 0, 705, 21, 0, 0, 1, 705);
        ranRow(x, 0, 1, 600, 21, 0, 0, 1, 1305);
        Checks.due("its kind", 4, x.kind(0, 1));
        Checks.due("an easy race", 1, Checks.read(x, "mile 0 0 0; runner 30 99 9;"));
        Checks.due("of one mile", 0, x.race(0, 0, 0));
        Checks.due("its kind", 1, x.kind(0, 0));
        Checks.due("restore(1) again", 1, x.restore(1));
        Checks.due("the kind kept", 4, x.kind(0, 0));
        ranRow(x, 0, 0, 705, 21, 0, 0, 1, 705);
        Checks.due("restore(0)", 1, x.restore(0));
        Checks.due("no race then", STATE, x.ran(0, 1, 1));
        Checks.due("no race then", 0, x.count(6));
        Checks.due("sheets stay", 1, x.count(0));
        Checks.due("kept over", 1, Checks.read(x, "mile 0 0 0; runner 30 99 9;"));
        Checks.due("image(0) over it", 1, x.image(0));
        Checks.due("restore(1)", 1, x.restore(1));
        Checks.due("restore(0)", 1, x.restore(0));
        Checks.due("miles", 1, x.count(1));
    }
}
