/** Kinds and asks of steps, images and status(): promises 24 to 31, each sentence that names an edge. */
public final class StepEdgesTest {
    private static final int BAD = Checks.BAD, NONE = Checks.NONE, STATE = Checks.STATE, KIND = Checks.KIND;
    private static final int EASY = 1, HARD = 2, BEHIND = 3, DEAD = 4, SURGED = 5;
    private static final String FLAT = "mile 0 0 0;", STRONG = "runner 30 99 1;";

    public static void main(String[] args) {
        easyUpToTheLine();
        deadBeyondWhatIsLeft();
        surgedAboveTheMileAhead();
        noneIsSurgedInMileZero();
        behindIfSheltered();
        takenAsEachKind();
        sizesAndMarks();
        theTraceIsEmptyAhead();
        theFirstSixteen();
        traceBeyondItsEnds();
        stepsOfTheLatestRace();
        bothImages();
        imagesAreKeptOver();
        imagesOfNoRace();
        whatNoImageKeeps();
        imagesAreCopies();
        statusOfAs();
        statusOfAllCallsWithASheet();
        Checks.end();
    }

    private static PaceStore raced(String text, int... paces) {
        PaceStore x = Checks.on(text);
        Checks.sheet(x, 0, paces);
        Checks.due("a race of " + text, 1, x.race(0, 0, 0) >= 0 ? 1 : 0);
        return x;
    }

    /** "EASY: NEED was no more than LINE; HARD: it was above." */
    private static void easyUpToTheLine() {
        Checks.due("19 by 20", EASY, raced(FLAT + "runner 20 9 1;", 19).kind(0, 0));
        Checks.due("20 by 20", EASY, raced(FLAT + "runner 20 9 1;", 20).kind(0, 0));
        Checks.due("21 by 20", HARD, raced(FLAT + "runner 20 9 1;", 21).kind(0, 0));
        // by NEED, not by PACE
        Checks.due("16 in the wind", EASY, raced("mile 0 0 8;runner 20 9 1;", 16).kind(0, 0));
        Checks.due("17 in the wind", HARD, raced("mile 0 0 8;runner 20 9 1;", 17).kind(0, 0));
        Checks.due("25 downhill", EASY, raced("mile -5 0 0;runner 20 9 1;", 25).kind(0, 0));
        Checks.due("10, above all lines", DEAD, raced("mile 5 9 9;runner 10 9 1;", 10).kind(0, 0));
    }

    /** "DEAD, a HARD one: SPENT OUT": not where all that is left is spent. */
    private static void deadBeyondWhatIsLeft() {
        Checks.due("9 of 9", HARD, raced(FLAT + "runner 20 9 1;", 23).kind(0, 0));
        Checks.due("9 of 8", DEAD, raced(FLAT + "runner 20 8 1;", 23).kind(0, 0));
        // nothing left and nothing wanted
        PaceStore x = raced(FLAT + FLAT + "runner 20 9 1;when mile above 0 ease 3;", 23);
        Checks.due("with nothing left, by 20", EASY, x.kind(0, 1));
        x = raced(FLAT + FLAT + "runner 20 9 1;when mile above 0 ease 2;", 23);
        Checks.due("with nothing left, by 21", DEAD, x.kind(0, 1));
    }

    private static int kindBy(String rule, int told) {
        return raced(FLAT + FLAT + "runner 20 99 1;" + rule, told).kind(0, 1);
    }

    /** "SURGED, a HARD one: PACE above that of the MILE ahead": the pace that was wanted there. */
    private static void surgedAboveTheMileAhead() {
        Checks.due("22, then 22", HARD, kindBy("", 22));
        Checks.due("22, then 23", SURGED, kindBy("when mile above 0 push 1;", 22));
        Checks.due("22, then 21", HARD, kindBy("when mile above 0 ease 1;", 22));
        Checks.due("20, then 21", SURGED, kindBy("when mile above 0 push 1;", 20));
        Checks.due("19, then 20: an easy one", EASY, kindBy("when mile above 0 push 1;", 19));
        Checks.due("31, then 40: dead", DEAD, kindBy("when mile above 0 push 9;", 31));
        Checks.due("35 (spent out), then 26 of nothing", DEAD, kindBy("when mile above 0 ease 9;", 35));
        // behind a mile that he is spent out in nothing is left: what is hard there is dead, whatever was wanted
        PaceStore x = raced(FLAT + "mile -5 0 0;mile -4 0 0;runner 20 99 9;when mile above 1 push 1;when mile above 0 ease 6;", 31);
        Checks.due("wanted 31 (121 of 99)", DEAD, x.kind(0, 0));
        Checks.due("went 20, wanted 31, then 25", EASY, x.kind(0, 1));
        Checks.due("25, then 26, of nothing", DEAD, x.kind(0, 2));
        x = raced("mile 5 9 9;mile -5 0 0;" + FLAT + "runner 20 30 9;when mile above 1 ease 1;when mile above 0 ease 9;", 31);
        Checks.due("went 10, wanted 31, then 22", EASY, x.kind(0, 1));
        Checks.due("22, then 21", HARD, x.kind(0, 2));
        // 40 at most: no pace above that of the mile ahead
        x = raced("mile -5 0 0;mile -5 0 0;runner 30 99 1;when mile above 0 push 9;", 40);
        Checks.due("40, then 40", HARD, x.kind(0, 1));
    }

    /** "(in MILE 0 none is)". */
    private static void noneIsSurgedInMileZero() {
        Checks.due("by what was told", HARD, raced(FLAT + STRONG, 35).kind(0, 0));
        Checks.due("by a rule", HARD, raced(FLAT + STRONG + "when mile below 1 push 9;", 30).kind(0, 0));
        // nor by the last mile of the runner ahead of him in number
        PaceStore x = raced(FLAT + FLAT + STRONG + STRONG, 20, 35);
        Checks.due("runner 1", HARD, x.kind(1, 0));
        Checks.due("runner 1, mile 1", HARD, x.kind(1, 1));
    }

    /** Runner 0 comes by 1000, runner 1 by 1001 or 1006 into a mile of wind (8) and a hill; both want 24 there. */
    private static PaceStore intoTheWind(int hill, int by, String second) {
        return raced(FLAT + FLAT + "mile " + hill + " 0 8;" + STRONG + second
                + "when mile below 1 push " + by + ";when mile below 2 ease " + 2 * by + ";when mile above 1 push " + by + ";", 24, 24);
    }

    /** "BEHIND, an EASY one: SHELTERED." */
    private static void behindIfSheltered() {
        Checks.due("sheltered, 24 by 24", BEHIND, intoTheWind(0, 1, "runner 24 20 1;").kind(1, 2));
        Checks.due("6 behind, 28 by 24", SURGED, intoTheWind(0, 2, "runner 24 20 1;").kind(1, 2));
        Checks.due("6 behind, 28 by 28", EASY, intoTheWind(0, 2, "runner 28 20 1;").kind(1, 2));
        Checks.due("sheltered, 25 by 24", SURGED, intoTheWind(1, 1, "runner 24 20 1;").kind(1, 2));
        Checks.due("sheltered, 25 by 24, told so", 1, intoTheWind(1, 1, "runner 24 20 1;").ran(1, 2, 3));
        Checks.due("sheltered as he wanted, spent out", DEAD, intoTheWind(5, 1, "runner 24 20 1;").kind(1, 2));
        Checks.due("sheltered as he wanted, spent out, told so", 0, intoTheWind(5, 1, "runner 24 20 1;").ran(1, 2, 3));
        // 24 by 24 with nothing but shelter to make it so
        PaceStore x = intoTheWind(0, 1, "runner 24 20 1;");
        Checks.due("what is left", 20, x.ran(1, 2, 2));
    }

    private static void asRow(String what, PaceStore x, int runner, int mile, int... kinds) {
        int seconds = x.ran(runner, mile, 0);
        for (int kind = 0; kind <= 5; kind++) {
            boolean isOne = false;
            for (int k : kinds) {
                isOne |= k == kind;
            }
            Checks.due(what + " as " + kind, isOne ? seconds : KIND, x.as(runner, mile, kind));
            Checks.due(what + " as " + kind + ": status()", isOne ? 0 : 3, x.status());
        }
        Checks.due(what + " as -1", BAD, x.as(runner, mile, -1));
        Checks.due(what + " as 6", BAD, x.as(runner, mile, 6));
    }

    /** "told as a KIND, it is what that is one of, too": of each kind all six. */
    private static void takenAsEachKind() {
        PaceStore x = raced(FLAT.repeat(4) + "runner 20 30 1;when mile above 2 push 9;when mile above 1 push 2;when mile above 0 push 1;", 20);
        asRow("EASY", x, 0, 0, 0, EASY);
        asRow("SURGED", x, 0, 1, 0, HARD, SURGED);
        asRow("SURGED", x, 0, 2, 0, HARD, SURGED);
        // it is above the pace ahead, but told as DEAD
        asRow("DEAD", x, 0, 3, 0, HARD, DEAD);
        asRow("HARD", raced(FLAT + STRONG, 35), 0, 0, 0, HARD);
        asRow("BEHIND", intoTheWind(0, 1, "runner 24 20 1;"), 1, 2, 0, EASY, BEHIND);
        asRow("DEAD, not BEHIND", intoTheWind(5, 1, "runner 24 20 1;"), 1, 2, 0, HARD, DEAD);
        asRow("SURGED, not BEHIND", intoTheWind(1, 1, "runner 24 20 1;"), 1, 2, 0, HARD, SURGED);
    }

    private static void asked(String what, PaceStore x, int runner, int mile, int ask, int want, int... trace) {
        Checks.due(what + ": ask", want, x.ask(runner, mile, ask));
        for (int i = 0; i < trace.length; i++) {
            Checks.due(what + ": trace(" + i + ")", trace[i], x.trace(i));
        }
        for (int i : new int[] {trace.length, 15, 16, Integer.MAX_VALUE, -1}) {
            Checks.due(what + ": trace(" + i + ")", NONE, x.trace(i));
        }
    }

    /** Each kind by SIZE and by MARK, with its bodies in the order in which they begin. */
    private static void sizesAndMarks() {
        PaceStore x = raced(FLAT.repeat(3) + "runner 20 9 1;when mile above 1 push 9;when mile above 0 push 2;", 20);
        asked("EASY, SIZE", x, 0, 0, 0, 600 - 9, 13, 10);
        asked("EASY, MARK", x, 0, 0, 1, 0 + 591, 23, 20, 13, 10);
        asked("SURGED, SIZE", x, 0, 1, 0, 545 + 1 + 22 + 100, 11, 10, 22, 21, 20);
        asked("SURGED, MARK", x, 0, 1, 1, 1 + 22 + 100, 22, 21, 20);
        asked("DEAD, SIZE", x, 0, 2, 0, 2 * (600 + 2 + 31), 12, 11, 10, 21, 20);
        asked("DEAD, MARK", x, 0, 2, 1, 2 + 31, 21, 20);
        x = raced(FLAT + "runner 20 99 1;", 23);
        asked("HARD, SIZE", x, 0, 0, 0, 521 + 0 + 23, 11, 10, 21, 20);
        asked("HARD, MARK", x, 0, 0, 1, 0 + 23, 21, 20);
        x = intoTheWind(0, 1, "runner 24 20 1;");
        asked("BEHIND, SIZE", x, 1, 2, 0, 500 - 20 - 1, 14, 13, 10);
        asked("BEHIND, MARK", x, 1, 2, 1, -(2 + 479), 24, 23, 20, 14, 13, 10);
        // what was left behind the mile, not ahead of it: nothing at all, and all of 99
        x = raced(FLAT.repeat(2) + "runner 20 9 1;when mile above 0 ease 3;", 23);
        asked("EASY, nothing left", x, 0, 1, 0, 600 - 0, 13, 10);
        asked("EASY, 99 left", raced(FLAT + "runner 20 99 1;", 10), 0, 0, 0, 1200 - 99, 13, 10);
    }

    /** "THE TRACE is empty ahead of it (where that is refused it stays)." */
    private static void theTraceIsEmptyAhead() {
        PaceStore x = Checks.on(FLAT + FLAT + "runner 20 9 1;");
        Checks.due("no trace yet", NONE, x.trace(0));
        Checks.due("STATE", STATE, x.ask(0, 0, 0));
        Checks.due("no trace yet", NONE, x.trace(0));
        Checks.sheet(x, 0, 20);
        x.race(0, 0, 0);
        Checks.due("no race leaves one", NONE, x.trace(0));
        asked("a long one", x, 0, 0, 1, 591, 23, 20, 13, 10);
        asked("a short one behind it", x, 0, 0, 0, 591, 13, 10);
        asked("a long one", x, 0, 1, 1, 592, 23, 20, 13, 10);
        for (int[] bad : new int[][] {{1, 0, 0}, {-1, 0, 0}, {0, 2, 0}, {0, -1, 0}, {0, 0, 2}, {0, 0, -1}}) {
            Checks.due("BAD", BAD, x.ask(bad[0], bad[1], bad[2]));
            Checks.due("the trace stays", 23, x.trace(0));
            Checks.due("the trace stays", 10, x.trace(3));
        }
        x.kind(0, 0);
        x.as(0, 0, 1);
        x.as(0, 0, 2);
        Checks.due("kind, as leave it", 23, x.trace(0));
        Checks.read(x, FLAT + "runner 20 9 1;");
        Checks.due("STATE", STATE, x.ask(0, 0, 0));
        Checks.due("the trace stays", 23, x.trace(0));
    }

    /** "(the first 16)": no ask leaves more than six, over all kinds, so none is ever cut, and none wraps around. */
    private static void theFirstSixteen() {
        PaceStore x = intoTheWind(0, 1, "runner 24 20 1;");
        for (int round = 0; round < 20; round++) {
            Checks.due("asked again and again", -481, x.ask(1, 2, 1));
        }
        int[] trace = {24, 23, 20, 14, 13, 10};
        for (int i = 0; i < 20; i++) {
            Checks.due("trace(" + i + ")", i < 6 ? trace[i] : NONE, x.trace(i));
        }
    }

    private static void traceBeyondItsEnds() {
        PaceStore x = new PaceStore();
        for (int i : new int[] {0, -1, 15, 16, Integer.MIN_VALUE, Integer.MAX_VALUE}) {
            Checks.due("an empty one: trace(" + i + ")", NONE, x.trace(i));
        }
        Checks.due("no finding", 0, x.status());
    }

    private static void stepsOfTheLatestRace() {
        PaceStore x = raced(FLAT.repeat(12) + STRONG.repeat(4), 20, 20, 20, 35);
        Checks.due("the last step of all", DEAD, x.kind(3, 11));
        Checks.due("runner 4", BAD, x.kind(4, 11));
        Checks.due("mile 12", BAD, x.kind(3, 12));
        Checks.due("runner 4", BAD, x.as(4, 11, 0));
        Checks.due("mile 12", BAD, x.as(3, 12, 0));
        Checks.due("its size", 2 * (400 + 11 + 35), x.ask(3, 11, 0));
        x.set(0, 3, 30);
        x.race(0, 0, 0);
        Checks.due("of the latest race", EASY, x.kind(3, 11));
        Checks.due("its size", 400 - 99, x.ask(3, 11, 0));
    }

    /** "An IMAGE (0, 1) is kept of COURSE and RACE"; "STATE: none was kept". */
    private static void bothImages() {
        PaceStore x = new PaceStore();
        for (int k : new int[] {0, 1}) {
            Checks.due("no course", STATE, x.image(k));
            Checks.due("none was kept", STATE, x.restore(k));
        }
        for (int k : new int[] {-1, 2, Integer.MIN_VALUE, Integer.MAX_VALUE}) {
            Checks.due("image " + k, BAD, x.image(k));
            Checks.due("restore " + k, BAD, x.restore(k));
        }
        Checks.read(x, "mile 1 0 0;runner 20 9 1;");
        Checks.due("a course that was not kept", STATE, x.restore(0));
        Checks.due("image 1", 1, x.image(1));
        Checks.due("the other was not kept", STATE, x.restore(0));
        Checks.read(x, "mile 2 0 0;runner 20 9 1;");
        Checks.due("image 0", 1, x.image(0));
        Checks.read(x, "mile 3 0 0;runner 20 9 1;");
        Checks.due("restore 1", 1, x.restore(1));
        Checks.due("of it", 21, x.need(0, 20, 0));
        Checks.due("restore 0", 1, x.restore(0));
        Checks.due("of it", 22, x.need(0, 20, 0));
        Checks.due("restore 0 again", 1, x.restore(0));
        Checks.due("of it", 22, x.need(0, 20, 0));
    }

    private static void imagesAreKeptOver() {
        PaceStore x = raced("mile 1 0 0;runner 20 9 1;", 20);
        x.image(0);
        x.set(0, 0, 15);
        x.race(0, 0, 0);
        x.image(0);
        Checks.read(x, "mile 0 0 0;runner 20 9 1;");
        x.restore(0);
        Checks.due("the later one", 15, x.ran(0, 0, 1));
    }

    /** An image without a race takes the race away, one with a race brings it back. */
    private static void imagesOfNoRace() {
        PaceStore x = Checks.on("mile 1 0 0;runner 20 9 1;");
        x.image(0);
        Checks.sheet(x, 0, 15);
        x.race(0, 0, 0);
        x.image(1);
        Checks.due("restore 0", 1, x.restore(0));
        Checks.due("no race", 0, x.count(6));
        Checks.due("no race", STATE, x.ran(0, 0, 0));
        Checks.due("no race", STATE, x.place(0));
        Checks.due("no race", STATE, x.kind(0, 0));
        Checks.due("no race", STATE, x.as(0, 0, 0));
        Checks.due("no race", STATE, x.ask(0, 0, 0));
        Checks.due("restore 1", 1, x.restore(1));
        Checks.due("a race", 1, x.count(6));
        Checks.due("of it", 800, x.ran(0, 0, 0));
        Checks.due("of it", EASY, x.kind(0, 0));
    }

    /** Sheets, the tape, fault(), THE TRACE and status() are no part of COURSE and RACE. */
    private static void whatNoImageKeeps() {
        PaceStore x = raced(FLAT + "runner 20 9 1;", 20);
        x.ask(0, 0, 1);
        x.image(0);
        Checks.read(x, "mile 6");
        x.race(0, 0, 0);
        x.ask(0, 0, 0);
        x.set(0, 0, 30);
        Checks.feed(x, "mile");
        x.drop(3);
        Checks.due("restore", 1, x.restore(0));
        Checks.due("fault()", 2, x.fault());
        Checks.due("THE TRACE", 13, x.trace(0));
        Checks.due("status()", 1, x.status());
        Checks.due("bytes", 4, x.count(5));
        Checks.due("sheets", 1, x.count(0));
        x.race(0, 0, 0);
        Checks.due("the item", 30, x.ran(0, 0, 1));
        Checks.due("a refused image", BAD, x.image(2));
        Checks.due("the tape goes on", 1, Checks.read(x, " 0 0 0;runner 20 9 1;"));
    }

    /** What comes behind does not change what was kept. */
    private static void imagesAreCopies() {
        PaceStore x = raced("mile 1 2 3;mile 2 3 4;runner 20 9 1;when mile above 0 push 1;runner 21 8 2;rabbit 20 2 3;", 20, 21);
        x.image(0);
        int[] ahead = row(x);
        Checks.read(x, "mile 5 9 9;mile 5 9 9;mile 0 0 0;runner 30 99 9;runner 29 98 8;runner 28 97 7;rabbit 40 12 99;rabbit 39 1 1;");
        Checks.sheet(x, 0, 30, 31, 32);
        x.race(0, 0, 999999);
        x.restore(0);
        same("restored", ahead, row(x));
        Checks.sheet(x, 0, 12, 13);
        x.race(0, 0, 5);
        x.restore(0);
        same("restored behind a race of it", ahead, row(x));
    }

    private static int[] row(PaceStore x) {
        int[] row = new int[40];
        int n = 0;
        for (int what = 1; what <= 6; what++) {
            row[n++] = x.count(what);
        }
        for (int r = 0; r < 2; r++) {
            row[n++] = x.place(r);
            row[n++] = x.best(r, 1, -1);
            for (int m = 0; m < 2; m++) {
                for (int what = 0; what <= 5; what++) {
                    row[n++] = x.ran(r, m, what);
                }
                row[n++] = x.kind(r, m);
            }
        }
        row[n++] = x.need(0, 20, 0);
        row[n++] = x.need(1, 20, 1);
        return row;
    }

    private static void same(String what, int[] want, int[] got) {
        for (int i = 0; i < want.length; i++) {
            Checks.due(what + ", " + i, want[i], got[i]);
        }
    }

    /** "or as()": KIND is 3, all else of it 0, and what is refused leaves status() as it was. */
    private static void statusOfAs() {
        PaceStore x = Checks.on(FLAT + "runner 20 9 1;");
        x.drop(0);
        Checks.due("STATE", STATE, x.as(0, 0, 0));
        Checks.due("leaves it", 1, x.status());
        Checks.sheet(x, 0, 20);
        x.race(0, 0, 0);
        x.drop(1);
        Checks.due("as", 600, x.as(0, 0, 0));
        Checks.due("0", 0, x.status());
        Checks.due("KIND", KIND, x.as(0, 0, 3));
        Checks.due("3", 3, x.status());
        Checks.due("BAD", BAD, x.as(0, 0, 6));
        Checks.due("leaves it", 3, x.status());
        x.kind(0, 0);
        x.ask(0, 0, 0);
        x.trace(0);
        x.ran(0, 0, 0);
        x.best(0, 0, -1);
        x.wins(0, 0, 0, 0);
        x.image(0);
        x.restore(0);
        Checks.due("calls without a sheet leave it", 3, x.status());
    }

    /** The answer, and what status() tells behind it; then it is made other than what was told. */
    private static void tells(PaceStore x, String call, int want, int answer) {
        Checks.due(call, want, answer);
        Checks.due("status() behind " + call, want <= Checks.NULL && want >= Checks.STORE ? -1000010 - want : 0, x.status());
        boolean isFound = x.status() != 0;
        x.copy(0, 0, 0, 0, isFound ? 0 : -1);
        Checks.due("another status()", isFound ? 0 : 2, x.status());
    }

    /** Each call with a sheet sets it, by what it finds or by 0. */
    private static void statusOfAllCallsWithASheet() {
        PaceStore x = Checks.on(FLAT + "runner 20 9 1;");
        x.sheet(0, 2, 16);
        tells(x, "set", 20, x.set(0, 0, 20));
        tells(x, "set, NULL", Checks.NULL, x.set(1, 0, 0));
        tells(x, "set, PLACE", Checks.PLACE, x.set(0, 16, 0));
        tells(x, "sheet, SIZE", Checks.SIZE, x.sheet(1, 0, -1));
        tells(x, "sheet", 3, x.sheet(2, 1, 3));
        tells(x, "copy", 1, x.copy(0, 0, 0, 0, 1));
        tells(x, "copy, NULL", Checks.NULL, x.copy(0, 0, 1, 0, 1));
        tells(x, "copy, STORE", Checks.STORE, x.copy(0, 0, 2, 0, 1));
        tells(x, "copy, PLACE", Checks.PLACE, x.copy(0, 16, 0, 0, 1));
        tells(x, "race", 0, x.race(0, 0, 0));
        tells(x, "race, NULL", Checks.NULL, x.race(1, 0, 0));
        tells(x, "race, PLACE", Checks.PLACE, x.race(0, 16, 0));
        tells(x, "line", NONE, x.line(0, 0, 0));
        tells(x, "line, NULL", Checks.NULL, x.line(0, 1, 0));
        tells(x, "line, PLACE", Checks.PLACE, x.line(0, 0, 16));
        tells(x, "parts", 5, x.parts(0, 0, 0, 0));
        tells(x, "parts, NULL", Checks.NULL, x.parts(1, 0, 0, 0));
        tells(x, "parts, PLACE", Checks.PLACE, x.parts(0, 1, 0, 0));
        tells(x, "hour", 1, x.hour(0, 0, 0, 14, 0));
        tells(x, "hour, NULL", Checks.NULL, x.hour(0, 1, 0, 1, 0));
        tells(x, "hour, PLACE", Checks.PLACE, x.hour(0, 0, 14, 1, 0));
        tells(x, "drop, NULL", Checks.NULL, x.drop(1));
        tells(x, "drop", 3, x.drop(2));
        x.set(0, 16, 0);
        Checks.due("race, BAD", BAD, x.race(0, 0, -1));
        Checks.due("race, an item that is BAD", BAD, x.race(0, 1, 0));
        Checks.due("parts, BAD", BAD, x.parts(0, 0, 4, 0));
        Checks.due("hour, BAD", BAD, x.hour(0, 0, 0, 0, 0));
        Checks.due("line, BAD", BAD, x.line(1, 0, 0));
        Checks.due("status() stays", 2, x.status());
    }
}
