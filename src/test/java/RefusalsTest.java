import java.util.function.ToIntFunction;

/**
 * Of each call each number: the last that is allowed on either side and the first that is not; in which
 * order refusals come; and that "what is refused, or found, changes nothing but status()".
 */
public final class RefusalsTest {
    private static final int BAD = Checks.BAD, STATE = Checks.STATE, FULL = Checks.FULL, NONE = Checks.NONE;
    private static final int NULL = Checks.NULL, PLACE = Checks.PLACE, KIND = Checks.KIND, SIZE = Checks.SIZE, STORE = Checks.STORE;
    private static final int MOST = Integer.MAX_VALUE, LEAST = Integer.MIN_VALUE;
    private static final States ALL = States.RACED;

    private interface Numbered {
        int on(PaceStore x, int v);
    }

    public static void main(String[] args) {
        sheets();
        places();
        copies();
        feeds();
        coursesAndRaces();
        alone();
        gamesSplitsRecords();
        asked();
        badAheadOfState();
        stateAheadOfFindings();
        badAheadOfFindings();
        findingsInTime();
        badItems();
        noCourse();
        noRace();
        faultyCourses();
        looks();
        Checks.end();
    }

    /** From low to high it is not refused, and one beyond, as far as there is one, is BAD. */
    private static void bounds(String name, int low, int high, Numbered call) {
        notRefused(name, low, call);
        notRefused(name, high, call);
        refusedAt(name, BAD, call, low > LEAST ? low - 1 : high + 1, high < MOST ? high + 1 : low - 1);
        refusedAt(name, BAD, call, LEAST, high < MOST ? MOST : LEAST);
    }

    private static void notRefused(String name, int v, Numbered call) {
        int answer = call.on(ALL.make(), v);
        boolean isRefused = answer <= BAD && answer >= FULL || answer <= NULL && answer >= STORE;
        Checks.due(name + " " + v + " answered " + answer + ": refused", 0, isRefused ? 1 : 0);
    }

    private static void refusedAt(String name, int want, Numbered call, int... values) {
        for (int v : values) {
            ALL.refuses(name + " " + v, want, x -> call.on(x, v));
        }
    }

    private static void sheets() {
        bounds("sheet(SHEET)", 0, 7, (x, v) -> x.sheet(v, 0, 1));
        bounds("sheet(LANE)", 0, 2, (x, v) -> x.sheet(0, v, 1));
        notRefused("sheet(n)", 0, (x, v) -> x.sheet(0, 0, v));
        notRefused("sheet(n)", 40, (x, v) -> x.sheet(0, 0, v));
        refusedAt("sheet(n)", BAD, (x, v) -> x.sheet(States.INTS_40, 2, v), 41, MOST);
        refusedAt("sheet(n)", SIZE, (x, v) -> x.sheet(States.INTS_40, 2, v), -1, LEAST);
        refusedAt("sheet(n) of a missing one", SIZE, (x, v) -> x.sheet(States.MISSING, 2, v), -1);
        States.NEW.refuses("sheet(0, 0, -1)", SIZE, x -> x.sheet(0, 0, -1));
        notRefused("set(SHEET)", 0, (x, v) -> x.set(v, 0, 1));
        notRefused("set(SHEET)", 7, (x, v) -> x.set(v, 0, 1));
        notRefused("drop(SHEET)", 0, (x, v) -> x.drop(v));
        notRefused("drop(SHEET)", 7, (x, v) -> x.drop(v));
        refusedAt("set(SHEET)", BAD, (x, v) -> x.set(v, 0, 1), -1, 8, LEAST, MOST);
        refusedAt("set(SHEET)", NULL, (x, v) -> x.set(v, 0, 1), States.MISSING);
        refusedAt("drop(SHEET)", BAD, (x, v) -> x.drop(v), -1, 8, LEAST, MOST);
        refusedAt("drop(SHEET)", NULL, (x, v) -> x.drop(v), States.MISSING);
        for (int s = 0; s < 8; s++) {
            int sheet = s;
            States.NEW.refuses("set(" + s + ")", NULL, x -> x.set(sheet, 0, 1));
            States.NEW.refuses("drop(" + s + ")", NULL, x -> x.drop(sheet));
            States.NEW.refuses("copy(" + s + ")", NULL, x -> x.copy(sheet, 0, sheet, 0, 0));
        }
    }

    private static void places() {
        Numbered setSixBytes = (x, v) -> x.set(States.SIX_BYTES, v, 33);
        notRefused("set(i) of 6", 0, setSixBytes);
        notRefused("set(i) of 6", 5, setSixBytes);
        refusedAt("set(i) of 6", PLACE, setSixBytes, -1, 6, 39, 40, LEAST, MOST);
        Numbered setInts = (x, v) -> x.set(States.INTS_40, v, 33);
        notRefused("set(i) of 40", 0, setInts);
        notRefused("set(i) of 40", 39, setInts);
        refusedAt("set(i) of 40", PLACE, setInts, -1, 40);
        refusedAt("set(i) of none", PLACE, (x, v) -> x.set(States.EMPTY, v, 33), -1, 0, 1);

        Numbered race = (x, v) -> x.race(States.SIX_BYTES, v, 0);
        notRefused("race(i), 4 of 6", 0, race);
        notRefused("race(i), 4 of 6", 2, race);
        refusedAt("race(i), 4 of 6", PLACE, race, -1, 3, 6, LEAST, MOST);
        refusedAt("race(i) of none", PLACE, (x, v) -> x.race(States.EMPTY, v, 0), 0);

        Numbered line = (x, v) -> x.line(0, States.SIX_BYTES, v);
        notRefused("line(i), 3 of 6", 0, line);
        notRefused("line(i), 3 of 6", 3, line);
        refusedAt("line(i), 3 of 6", PLACE, line, -1, 4, 6, LEAST, MOST);
        refusedAt("line(i) of none", PLACE, (x, v) -> x.line(0, States.EMPTY, v), 0);

        Numbered parts = (x, v) -> x.parts(States.INTS_40, v, 0, 0);
        notRefused("parts(i), 16 of 40", 0, parts);
        notRefused("parts(i), 16 of 40", 24, parts);
        refusedAt("parts(i), 16 of 40", PLACE, parts, -1, 25, 40, LEAST, MOST);
        notRefused("parts(i), 16 of 16", 0, (x, v) -> x.parts(States.SHORTS_16, v, 0, 0));
        refusedAt("parts(i), 16 of 16", PLACE, (x, v) -> x.parts(States.SHORTS_16, v, 0, 0), -1, 1);
        refusedAt("parts(i) of none", PLACE, (x, v) -> x.parts(States.EMPTY, v, 0, 0), 0);
    }

    private static void copies() {
        notRefused("copy(a), copy(b)", 0, (x, v) -> x.copy(v, 0, v, 0, 1));
        notRefused("copy(a), copy(b)", 7, (x, v) -> x.copy(v, 0, v, 0, 1));
        refusedAt("copy(a)", BAD, (x, v) -> x.copy(v, 0, States.INTS_40, 0, 1), -1, 8, LEAST, MOST);
        refusedAt("copy(b)", BAD, (x, v) -> x.copy(States.INTS_40, 0, v, 0, 1), -1, 8, LEAST, MOST);
        refusedAt("copy(a)", NULL, (x, v) -> x.copy(v, 0, States.INTS_40, 0, 1), States.MISSING);
        refusedAt("copy(b)", NULL, (x, v) -> x.copy(States.INTS_40, 0, v, 0, 1), States.MISSING);
        refusedAt("copy(b) of another lane", STORE, (x, v) -> x.copy(States.INTS_40, 0, v, 0, 1), 0, 1, 7);
        refusedAt("copy(a) of another lane, no item", STORE, (x, v) -> x.copy(v, 0, States.INTS_40, 0, 0), 0, 1, 3, 7);
        int from = States.FIVE_INTS;
        int to = States.INTS_40;
        Numbered ofI = (x, v) -> x.copy(from, v, to, 0, 2);
        notRefused("copy(i), 2 of 5", 0, ofI);
        notRefused("copy(i), 2 of 5", 3, ofI);
        refusedAt("copy(i), 2 of 5", PLACE, ofI, -1, 4, 5, LEAST, MOST);
        Numbered ofJ = (x, v) -> x.copy(from, 0, to, v, 2);
        notRefused("copy(j), 2 of 40", 0, ofJ);
        notRefused("copy(j), 2 of 40", 38, ofJ);
        refusedAt("copy(j), 2 of 40", PLACE, ofJ, -1, 39, 40, LEAST, MOST);
        Numbered ofN = (x, v) -> x.copy(from, 0, to, 0, v);
        notRefused("copy(n) of 5", 0, ofN);
        notRefused("copy(n) of 5", 5, ofN);
        refusedAt("copy(n) of 5", PLACE, ofN, -1, 6, 40, LEAST, MOST);
        Numbered none = (x, v) -> x.copy(from, v, to, 40, 0);
        notRefused("copy of none from its end to its end", 5, none);
        refusedAt("copy of none beyond a's end", PLACE, none, 6, -1);
        refusedAt("copy of none beyond b's end", PLACE, (x, v) -> x.copy(from, 0, to, v, 0), 41, -1);
        notRefused("copy of none of none", 0, (x, v) -> x.copy(States.EMPTY, 0, States.EMPTY, 0, v));
        refusedAt("copy of one of none", PLACE, (x, v) -> x.copy(States.EMPTY, 0, States.SIX_BYTES, 0, v), 1);
        refusedAt("copy of one to none", PLACE, (x, v) -> x.copy(States.SIX_BYTES, 0, States.EMPTY, 0, v), 1);
    }

    private static void feeds() {
        bounds("feed(n)", 1, 8, (x, v) -> x.feed(0x2020202020202020L, v));
        for (int n = 1; n <= 8; n++) {
            int bytes = n;
            States.FULL_TAPE.refuses("feed(" + n + ")", FULL, x -> x.feed(-1L, bytes));
        }
        States.FULL_TAPE.refuses("feed(0)", BAD, x -> x.feed(-1L, 0));
        States.FULL_TAPE.refuses("feed(9)", BAD, x -> x.feed(-1L, 9));
        States.NEW.refuses("feed(0)", BAD, x -> x.feed(-1L, 0));
        States.NEW.refuses("feed(9)", BAD, x -> x.feed(-1L, 9));
    }

    private static void coursesAndRaces() {
        bounds("need(MILE)", 0, 2, (x, v) -> x.need(v, 20, 0));
        bounds("need(PACE)", 10, 40, (x, v) -> x.need(0, v, 0));
        bounds("need(SHELTERED)", 0, 1, (x, v) -> x.need(0, 20, v));
        notRefused("race(SHEET)", 0, (x, v) -> x.race(v, 0, 0));
        notRefused("race(SHEET)", 7, (x, v) -> x.race(v, 0, 0));
        refusedAt("race(SHEET)", BAD, (x, v) -> x.race(v, 0, 0), -1, 8, LEAST, MOST);
        refusedAt("race(SHEET)", NULL, (x, v) -> x.race(v, 0, 0), States.MISSING);
        bounds("race(SEED)", 0, 999999, (x, v) -> x.race(States.SIX_BYTES, 0, v));
        bounds("ran(RUNNER)", 0, 3, (x, v) -> x.ran(v, 0, 0));
        bounds("ran(MILE)", 0, 2, (x, v) -> x.ran(0, v, 0));
        bounds("ran(what)", 0, 5, (x, v) -> x.ran(0, 0, v));
        bounds("place(RUNNER)", 0, 3, (x, v) -> x.place(v));
    }

    private static void alone() {
        bounds("best(RUNNER)", 0, 3, (x, v) -> x.best(v, 0, -1));
        bounds("best(RABBITS)", 0, 31, (x, v) -> x.best(0, v, -1));
        bounds("best(k)", -1, MOST, (x, v) -> x.best(0, 0, v));
        bounds("even(RUNNER)", 0, 3, (x, v) -> x.even(v, 0, 0));
        bounds("even(RABBITS)", 0, 31, (x, v) -> x.even(0, v, 0));
        bounds("even(what)", 0, 1, (x, v) -> x.even(0, 0, v));
        bounds("early(RUNNER)", 0, 3, (x, v) -> x.early(v, 1));
        bounds("early(d)", 1, 20, (x, v) -> x.early(0, v));
        bounds("hired(RUNNER)", 0, 3, (x, v) -> x.hired(v, 0, 0));
        bounds("hired(coin)", 0, 999, (x, v) -> x.hired(0, v, 0));
        bounds("hired(what)", 0, 2, (x, v) -> x.hired(0, 0, v));
        bounds("stays(RUNNER)", 0, 3, (x, v) -> x.stays(v, 0));
        bounds("stays(RABBIT)", 0, 4, (x, v) -> x.stays(0, v));
    }

    private static void gamesSplitsRecords() {
        bounds("rests(a)", 0, 2, (x, v) -> x.rests(v, 3, -1));
        bounds("rests(b)", 1, 3, (x, v) -> x.rests(0, v, -1));
        bounds("rests(i)", -1, MOST, (x, v) -> x.rests(0, 1, v));
        refusedAt("rests(a, a)", BAD, (x, v) -> x.rests(v, v, -1), 0, 1, 2, 3, 4, -1);
        refusedAt("rests(a, a, i)", BAD, (x, v) -> x.rests(1, 1, v), 0, -1, -2, 16);
        refusedAt("rests(a)", BAD, (x, v) -> x.rests(v, 0, -1), 4, -1);
        refusedAt("rests(b)", BAD, (x, v) -> x.rests(0, v, -1), 4, -1);
        bounds("wins(a)", 0, 2, (x, v) -> x.wins(v, 3, 0, 0));
        bounds("wins(b)", 1, 3, (x, v) -> x.wins(0, v, 0, 0));
        bounds("wins(planA)", 0, 3, (x, v) -> x.wins(0, 1, v, 0));
        bounds("wins(planB)", 0, 3, (x, v) -> x.wins(0, 1, 0, v));
        refusedAt("wins(a, a)", BAD, (x, v) -> x.wins(v, v, 0, 1), 0, 1, 2, 3, 4, -1);
        refusedAt("wins(a)", BAD, (x, v) -> x.wins(v, 0, 0, 0), 4, -1);
        refusedAt("wins(b)", BAD, (x, v) -> x.wins(0, v, 0, 0), 4, -1);
        bounds("line(RUNNER)", 0, 3, (x, v) -> x.line(v, States.SIX_BYTES, 0));
        notRefused("line(SHEET)", 0, (x, v) -> x.line(0, v, 0));
        notRefused("line(SHEET)", 7, (x, v) -> x.line(0, v, 0));
        refusedAt("line(SHEET)", BAD, (x, v) -> x.line(0, v, 0), -1, 8, LEAST, MOST);
        refusedAt("line(SHEET)", NULL, (x, v) -> x.line(0, v, 0), States.MISSING);
        refusedAt("parts(SHEET)", BAD, (x, v) -> x.parts(v, 0, 0, 0), -1, 8, LEAST, MOST);
        refusedAt("parts(SHEET)", NULL, (x, v) -> x.parts(v, 0, 0, 0), States.MISSING);
        bounds("parts(help)", 0, 3, (x, v) -> x.parts(States.SHORTS_16, 0, v, 0));
        bounds("parts(what)", 0, 1, (x, v) -> x.parts(States.SHORTS_16, 0, 0, v));
        hours();
        bounds("feeling(RUNNER)", 0, 3, (x, v) -> x.feeling(v, 20, 0));
        bounds("feeling(PACE)", 10, 40, (x, v) -> x.feeling(0, v, 0));
        bounds("feeling(what)", 0, 1, (x, v) -> x.feeling(0, 20, v));
        bounds("image(k)", 0, 1, (x, v) -> x.image(v));
        bounds("restore(k)", 0, 1, (x, v) -> x.restore(v));
    }

    /** The items of a state go up to 22, those of the first hours not above 20. */
    private static void hours() {
        ToIntFunction<PaceStore> cool = x -> x.sheet(States.INTS_40, 2, 40);
        for (int runner : new int[] {-1, 4, LEAST, MOST}) {
            ALL.refusesBehind("hour(RUNNER) " + runner, cool, BAD, x -> x.hour(runner, States.INTS_40, 0, 1, 0));
        }
        for (int n : new int[] {0, 25, -1, LEAST, MOST, MOST - 1}) {
            ALL.refusesBehind("hour(n) " + n, cool, BAD, x -> x.hour(0, States.INTS_40, 0, n, 0));
        }
        for (int what : new int[] {-1, 2, LEAST, MOST}) {
            ALL.refusesBehind("hour(what) " + what, cool, BAD, x -> x.hour(0, States.INTS_40, 0, 1, what));
        }
        for (int i : new int[] {-1, 15, 40, LEAST, MOST}) {
            ALL.refusesBehind("hour(i), 26 of 40, " + i, cool, PLACE, x -> x.hour(0, States.INTS_40, i, 24, 0));
        }
        for (int i : new int[] {-1, 38, 40}) {
            ALL.refusesBehind("hour(i), 3 of 40, " + i, cool, PLACE, x -> x.hour(0, States.INTS_40, i, 1, 0));
        }
        PaceStore x = ALL.make();
        cool.applyAsInt(x);
        Checks.due("hour(0) of 24", 0, x.hour(0, States.INTS_40, 0, 24, 0));
        Checks.due("hour(14) of 24", 0, x.hour(0, States.INTS_40, 14, 24, 0));
        Checks.due("hour(37) of 1", 0, x.hour(3, States.INTS_40, 37, 1, 0));
        Checks.due("status() behind it", 0, x.status());
        refusedAt("hour(SHEET)", BAD, (y, v) -> y.hour(0, v, 0, 1, 0), -1, 8, LEAST, MOST);
        refusedAt("hour(SHEET)", NULL, (y, v) -> y.hour(0, v, 0, 1, 0), States.MISSING);
        refusedAt("hour(i) of none", PLACE, (y, v) -> y.hour(0, States.EMPTY, v, 1, 0), 0);
    }

    private static void asked() {
        bounds("kind(RUNNER)", 0, 3, (x, v) -> x.kind(v, 0));
        bounds("kind(MILE)", 0, 2, (x, v) -> x.kind(0, v));
        bounds("as(RUNNER)", 0, 3, (x, v) -> x.as(v, 0, 0));
        bounds("as(MILE)", 0, 2, (x, v) -> x.as(0, v, 0));
        refusedAt("as(KIND)", BAD, (x, v) -> x.as(0, 0, v), -1, 6, LEAST, MOST);
        bounds("ask(RUNNER)", 0, 3, (x, v) -> x.ask(v, 0, 0));
        bounds("ask(MILE)", 0, 2, (x, v) -> x.ask(0, v, 0));
        bounds("ask(what)", 0, 1, (x, v) -> x.ask(0, 0, v));
        bounds("count(what)", 0, 6, (x, v) -> x.count(v));
        // told as EASY, HARD, SURGED .. it is not what it is told not to be
        int kind = ALL.make().kind(0, 2);
        int other = kind == 1 || kind == 3 ? 2 : 1;
        ALL.refuses("as(.., " + other + ") of a step told as " + kind, KIND, x -> x.as(0, 2, other));
    }

    /** "the first of these that fits": BAD, then STATE. */
    private static void badAheadOfState() {
        for (States state : new States[] {States.NEW, States.NO_COURSE}) {
            state.refuses("race(8, ..)", BAD, x -> x.race(8, 0, 0));
            state.refuses("race(-1, ..)", BAD, x -> x.race(-1, 0, 0));
            state.refuses("race(.., 1000000)", BAD, x -> x.race(0, 0, 1000000));
            state.refuses("race(.., -1)", BAD, x -> x.race(0, 0, -1));
            state.refuses("image(2)", BAD, x -> x.image(2));
            state.refuses("image(-1)", BAD, x -> x.image(-1));
            state.refuses("restore(2)", BAD, x -> x.restore(2));
            state.refuses("restore(-1)", BAD, x -> x.restore(-1));
            // line() alone has them the other way round
            state.refuses("line(RUNNER, SHEET)", STATE, x -> x.line(9, 9, 0));
            state.refuses("line(-1, -1)", STATE, x -> x.line(-1, -1, -1));
        }
        States none = States.NO_RACE;
        none.refuses("ran(4, ..)", BAD, x -> x.ran(4, 0, 0));
        none.refuses("ran(.., 3, ..)", BAD, x -> x.ran(0, 3, 0));
        none.refuses("ran(.., 6)", BAD, x -> x.ran(0, 0, 6));
        none.refuses("place(4)", BAD, x -> x.place(4));
        none.refuses("kind(4, 0)", BAD, x -> x.kind(4, 0));
        none.refuses("kind(0, 3)", BAD, x -> x.kind(0, 3));
        none.refuses("as(4, ..)", BAD, x -> x.as(4, 0, 0));
        none.refuses("as(.., 3, ..)", BAD, x -> x.as(0, 3, 0));
        none.refuses("as(.., 6)", BAD, x -> x.as(0, 0, 6));
        none.refuses("ask(4, ..)", BAD, x -> x.ask(4, 0, 0));
        none.refuses("ask(.., 3, ..)", BAD, x -> x.ask(0, 3, 0));
        none.refuses("ask(.., 2)", BAD, x -> x.ask(0, 0, 2));
    }

    private static void stateAheadOfFindings() {
        States.NO_COURSE.refuses("race, missing", STATE, x -> x.race(States.MISSING, 0, 0));
        States.NO_COURSE.refuses("race, no place", STATE, x -> x.race(States.EMPTY, -1, 0));
        States.NO_COURSE.refuses("race", STATE, x -> x.race(States.SIX_BYTES, 0, 999999));
        States.NO_COURSE.refuses("line, missing", STATE, x -> x.line(0, States.MISSING, 0));
        States.NO_COURSE.refuses("line, no place", STATE, x -> x.line(0, States.EMPTY, -1));
        States.NEW.refuses("race", STATE, x -> x.race(7, 0, 0));
        States.NEW.refuses("line", STATE, x -> x.line(0, 7, 0));
        // as(): of no race it cannot be found to be of another kind
        States.NO_RACE.refuses("as, STATE ahead of KIND", STATE, x -> x.as(0, 0, 5));
    }

    private static void badAheadOfFindings() {
        ALL.refuses("sheet(8, .., -1)", BAD, x -> x.sheet(8, 0, -1));
        ALL.refuses("sheet(-1, .., -1)", BAD, x -> x.sheet(-1, 0, -1));
        ALL.refuses("sheet(.., 3, -1)", BAD, x -> x.sheet(0, 3, -1));
        ALL.refuses("sheet(.., -1, -1)", BAD, x -> x.sheet(0, -1, -1));
        ALL.refuses("set(8, -1)", BAD, x -> x.set(8, -1, 0));
        ALL.refuses("copy(MISSING, .., 8)", BAD, x -> x.copy(States.MISSING, -1, 8, -1, -1));
        ALL.refuses("copy(8, .., MISSING)", BAD, x -> x.copy(8, -1, States.MISSING, -1, -1));
        ALL.refuses("race(MISSING, .., -1)", BAD, x -> x.race(States.MISSING, 0, -1));
        ALL.refuses("race(EMPTY, .., 1000000)", BAD, x -> x.race(States.EMPTY, 0, 1000000));
        ALL.refuses("line(4, MISSING)", BAD, x -> x.line(4, States.MISSING, 0));
        ALL.refuses("line(-1, EMPTY)", BAD, x -> x.line(-1, States.EMPTY, 0));
        ALL.refuses("parts(MISSING, help)", BAD, x -> x.parts(States.MISSING, 0, 4, 0));
        ALL.refuses("parts(EMPTY, what)", BAD, x -> x.parts(States.EMPTY, 0, 0, 2));
        ALL.refuses("hour(4, MISSING)", BAD, x -> x.hour(4, States.MISSING, 0, 1, 0));
        ALL.refuses("hour(MISSING, n)", BAD, x -> x.hour(0, States.MISSING, 0, 25, 0));
        ALL.refuses("hour(EMPTY, n)", BAD, x -> x.hour(0, States.EMPTY, 0, 0, 0));
        ALL.refuses("hour(EMPTY, what)", BAD, x -> x.hour(0, States.EMPTY, 0, 1, 2));
    }

    /** "FINDINGS, of several the first in time". */
    private static void findingsInTime() {
        ALL.refuses("set, NULL ahead of PLACE", NULL, x -> x.set(States.MISSING, -1, 0));
        ALL.refuses("race, NULL ahead of PLACE", NULL, x -> x.race(States.MISSING, -1, 0));
        ALL.refuses("line, NULL ahead of PLACE", NULL, x -> x.line(0, States.MISSING, -1));
        ALL.refuses("parts, NULL ahead of PLACE", NULL, x -> x.parts(States.MISSING, -1, 0, 0));
        ALL.refuses("hour, NULL ahead of PLACE", NULL, x -> x.hour(0, States.MISSING, -1, 1, 0));
        ALL.refuses("copy, NULL of a ahead of PLACE", NULL, x -> x.copy(States.MISSING, -1, States.SIX_BYTES, 0, 1));
        ALL.refuses("copy, NULL of b ahead of PLACE", NULL, x -> x.copy(States.SIX_BYTES, 0, States.MISSING, 0, 99));
        ALL.refuses("copy, NULL of both", NULL, x -> x.copy(States.MISSING, 0, States.SPARE, 0, 0));
        ALL.refuses("copy, STORE ahead of PLACE of a", STORE, x -> x.copy(States.SIX_BYTES, 6, States.INTS_40, 0, 1));
        ALL.refuses("copy, STORE ahead of PLACE of b", STORE, x -> x.copy(States.SIX_BYTES, 0, States.INTS_40, 40, 1));
        ALL.refuses("copy, STORE ahead of PLACE of n", STORE, x -> x.copy(States.SIX_BYTES, 0, States.SHORTS_16, 0, -1));
    }

    /** "then BAD: an ITEM": at the first place and the last, behind the findings; those beside are not looked at. */
    private static void badItems() {
        for (int k : new int[] {1, 2, 4}) {
            for (int pace : new int[] {9, 41, -1, 0, 127}) {
                ALL.refusesBehind("race by " + pace + " at " + k, x -> x.set(States.SIX_BYTES, k, pace), BAD,
                        x -> x.race(States.SIX_BYTES, 1, 0));
            }
        }
        for (int k : new int[] {20, 27, 35}) {
            for (int time : new int[] {-1, 100000, LEAST, MOST}) {
                ALL.refusesBehind("parts by " + time + " at " + k, x -> x.set(States.INTS_40, k, time), BAD,
                        x -> x.parts(States.INTS_40, 20, 3, 1));
            }
        }
        for (int k : new int[] {0, 1, 3}) {
            for (int heat : new int[] {-1, 21, LEAST, MOST}) {
                ALL.refusesBehind("hour by " + heat + " at " + k, x -> setCool(x, k, heat), BAD,
                        x -> x.hour(0, States.FIVE_INTS, 0, 2, 0));
            }
        }
        ALL.refusesBehind("race, PLACE ahead of a bad item", x -> x.set(States.SIX_BYTES, 5, 9), PLACE,
                x -> x.race(States.SIX_BYTES, 3, 0));
        ALL.refusesBehind("parts, PLACE ahead of a bad item", x -> x.set(States.INTS_40, 39, -1), PLACE,
                x -> x.parts(States.INTS_40, 25, 0, 0));
        ALL.refusesBehind("hour, PLACE ahead of a bad item", x -> setCool(x, 4, 21), PLACE,
                x -> x.hour(0, States.FIVE_INTS, 3, 1, 0));
        PaceStore x = ALL.make();
        x.set(States.SIX_BYTES, 0, 9);
        x.set(States.SIX_BYTES, 5, 41);
        Checks.due("race beside bad items", 1, x.race(States.SIX_BYTES, 1, 0) >= 0 ? 1 : 0);
        x.set(States.INTS_40, 19, -1);
        x.set(States.INTS_40, 36, 100000);
        Checks.due("parts beside bad items", 1, x.parts(States.INTS_40, 20, 3, 1) > 0 ? 1 : 0);
        setCool(x, 0, 21);
        x.set(States.FIVE_INTS, 4, -1);
        Checks.due("hour beside bad items", 0, x.hour(0, States.FIVE_INTS, 1, 1, 0));
    }

    private static int setCool(PaceStore x, int at, int heat) {
        x.sheet(States.FIVE_INTS, 2, 5);
        return x.set(States.FIVE_INTS, at, heat);
    }

    /** With no course there is no mile, runner or rabbit: BAD; STATE where it is told. */
    private static void noCourse() {
        for (States state : new States[] {States.NEW, States.NO_COURSE}) {
            state.refuses("need", BAD, x -> x.need(0, 20, 0));
            state.refuses("race", STATE, x -> x.race(0, 0, 0));
            state.refuses("ran", BAD, x -> x.ran(0, 0, 0));
            state.refuses("place", BAD, x -> x.place(0));
            state.refuses("best", BAD, x -> x.best(0, 0, -1));
            state.refuses("even", BAD, x -> x.even(0, 0, 0));
            state.refuses("early", BAD, x -> x.early(0, 1));
            state.refuses("hired", BAD, x -> x.hired(0, 0, 0));
            state.refuses("stays", BAD, x -> x.stays(0, 0));
            state.refuses("rests", BAD, x -> x.rests(0, 1, -1));
            state.refuses("wins", BAD, x -> x.wins(0, 1, 0, 0));
            state.refuses("line", STATE, x -> x.line(0, 0, 0));
            state.refuses("hour", BAD, x -> x.hour(0, States.INTS_40, 0, 1, 0));
            state.refuses("feeling", BAD, x -> x.feeling(0, 20, 0));
            state.refuses("image(0)", STATE, x -> x.image(0));
            state.refuses("image(1)", STATE, x -> x.image(1));
            state.refuses("restore(0)", STATE, x -> x.restore(0));
            state.refuses("restore(1)", STATE, x -> x.restore(1));
            state.refuses("kind", BAD, x -> x.kind(0, 0));
            state.refuses("as", BAD, x -> x.as(0, 0, 0));
            state.refuses("ask", BAD, x -> x.ask(0, 0, 0));
        }
        PaceStore x = States.NO_COURSE.make();
        Checks.due("parts needs no course", 1, x.parts(States.SHORTS_16, 0, 0, 1) > 0 ? 1 : 0);
        Checks.due("status() behind it", 0, x.status());
    }

    private static void noRace() {
        States none = States.NO_RACE;
        for (int runner : new int[] {0, 3}) {
            for (int mile : new int[] {0, 2}) {
                none.refuses("ran", STATE, x -> x.ran(runner, mile, 5));
                none.refuses("kind", STATE, x -> x.kind(runner, mile));
                none.refuses("as", STATE, x -> x.as(runner, mile, 0));
                none.refuses("ask", STATE, x -> x.ask(runner, mile, 1));
            }
            none.refuses("place", STATE, x -> x.place(runner));
        }
        none.refuses("restore(1), none was kept", STATE, x -> x.restore(1));
        Checks.due("restore(0), one was", 1, none.make().restore(0));
        // a refused race is none
        none.refuses("race", PLACE, x -> x.race(States.EMPTY, 0, 0));
    }

    /** "all but the tape, and what fault() tells, stays": the half text of a state ends at its 13th byte. */
    private static void faultyCourses() {
        for (States state : new States[] {States.NO_COURSE, States.NO_RACE, States.RACED}) {
            PaceStore x = state.make();
            Checks.due("fault() ahead of it", 2, x.fault());
            Checks.due("course() of " + state, -1000111, x.course());
            Checks.due("fault()", 1, x.fault());
            Checks.due("the tape", 0, x.count(5));
            Checks.due("status()", States.STATUS, x.status());
            Checks.same("what a fault of " + state + " leaves", States.seen(state.make(), false), States.seen(x, false));
        }
        PaceStore x = States.FULL_TAPE.make();
        Checks.due("course() of 600 bytes", -1000111, x.course());
        Checks.due("the tape", 0, x.count(5));
        Checks.due("there is room again", 8, x.feed(0, 8));
    }

    /** What only looks changes nothing: not the race, not THE TRACE, not status() but of calls with a sheet. */
    private static void looks() {
        int status = States.STATUS;
        ALL.answers("need", 22, status, x -> x.need(0, 20, 0));
        ALL.answers("best, not so many", NONE, status, x -> x.best(0, 31, 3));
        ALL.answers("rests, not so many", NONE, status, x -> x.rests(0, 1, 16));
        ALL.answers("count", 5, status, x -> x.count(3));
        ALL.answers("trace(16)", NONE, status, x -> x.trace(16));
        ALL.answers("trace(-1)", NONE, status, x -> x.trace(-1));
        ALL.answers("fault", 2, status, x -> x.fault());
        ALL.answers("line that fits nothing", NONE, 0, x -> x.line(0, States.SIX_BYTES, 0));
        ALL.answers("copy of none", 0, 0, x -> x.copy(States.INTS_40, 40, States.FIVE_INTS, 5, 0));
        looksOnly("best", status, x -> x.best(1, 31, 2));
        looksOnly("even", status, x -> x.even(1, 31, 1));
        looksOnly("early", status, x -> x.early(2, 1));
        looksOnly("hired", status, x -> x.hired(2, 999, 1));
        looksOnly("stays", status, x -> x.stays(2, 2));
        looksOnly("rests", status, x -> x.rests(3, 0, -1));
        looksOnly("wins", status, x -> x.wins(3, 0, 1, 2));
        looksOnly("feeling", status, x -> x.feeling(3, 20, 1));
        looksOnly("parts", 0, x -> x.parts(States.INTS_40, 7, 2, 0));
        looksOnly("kind", status, x -> x.kind(3, 2));
        looksOnly("as", 0, x -> x.as(3, 2, 0));
    }

    private static void looksOnly(String name, int status, ToIntFunction<PaceStore> call) {
        ALL.answers(name, call.applyAsInt(ALL.make()), status, call);
    }
}
