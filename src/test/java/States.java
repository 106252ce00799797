import java.util.EnumMap;
import java.util.Map;
import java.util.function.ToIntFunction;

/**
 * Objects in known states, each (but a new one) with STORE as its latest finding, and all that can be seen
 * of one: what a refused call leaves is compared with an object that was never asked. To make a state, to
 * ask it once and to look at it take no more than the 512 calls of one object.
 */
enum States {
    /** Nothing at all. */
    NEW,
    /** Sheets, half a text on the tape, a fault; no course. */
    NO_COURSE,
    /** That, and 600 bytes on the tape. */
    FULL_TAPE,
    /** Sheets, half a text, a fault, a course, a trace, image 0; no race, no image 1. */
    NO_RACE,
    /** All there is: a race, image 0 with a race, image 1 without, a trace. */
    RACED;

    /** Sheets of a state: 6 bytes, 16 shorts, 40 ints, no byte, 5 ints, 4 shorts; the rest is missing. */
    static final int SIX_BYTES = 0, SHORTS_16 = 1, INTS_40 = 2, EMPTY = 3, MISSING = 4, SPARE = 5, FIVE_INTS = 6, FOUR_SHORTS = 7;

    static final int STATUS = 5;

    private static final String KEPT = "mile 1 2 3;runner 20 9 3;runner 19 8 2;";
    private static final String KEPT_TOO = "mile 0 0 0;mile 2 0 0;runner 15 5 1;rabbit 15 1 1;";
    private static final String COURSE = "mile 0 0 4;mile 1 3 8;mile -2 0 9;"
            + "runner 20 30 3;when mile above 1 push 4;runner 21 40 2;when store below 9 ease 2;when behind above 20 push 1;"
            + "runner 19 99 9;when mile above 0 push 2;runner 22 5 1;"
            + "rabbit 20 3 5;rabbit 21 2 7;rabbit 19 12 0;rabbit 22 1 99;rabbit 24 2 3;";
    private static final String BEGUN = "mile 5 1 0;mi", REST = "le 1 0 7;runner 11 1 1;";
    private static final String FOUR_WITHOUT_RULES = "mile 0 0 0;" + "runner 30 99 1;".repeat(4);

    private static final Map<States, String> UNASKED = new EnumMap<>(States.class);

    /** All that is seen, as one text. */
    private static final class Look {
        private final StringBuilder seen = new StringBuilder();

        int at(String what, int answer) {
            seen.append(what).append(' ').append(answer).append('\n');
            return answer;
        }
    }

    PaceStore make() {
        PaceStore x = new PaceStore();
        if (this == NEW) {
            return x;
        }
        fillSheets(x);
        if (this == NO_RACE || this == RACED) {
            Checks.read(x, KEPT);
            x.race(SIX_BYTES, 0, 0);
            x.ask(1, 0, 0);
            x.image(0);
        }
        if (this == RACED) {
            Checks.read(x, KEPT_TOO);
            x.image(1);
        }
        Checks.due("a fault to be told", -1000105, Checks.read(x, "mile 9"));
        if (this == NO_RACE || this == RACED) {
            Checks.due("the course of a state", 3, Checks.read(x, COURSE));
        }
        if (this == RACED) {
            x.race(SHORTS_16, 3, 77);
            x.ask(0, 2, 0);
        }
        Checks.feed(x, BEGUN);
        for (int n = BEGUN.length(); this == FULL_TAPE && n < 600; n += 8) {
            x.feed(0x2020202020202020L, Math.min(8, 600 - n));
        }
        Checks.due("STORE to be told", Checks.STORE, x.copy(SIX_BYTES, 0, SHORTS_16, 0, 1));
        return x;
    }

    private static void fillSheets(PaceStore x) {
        x.sheet(SIX_BYTES, 0, 6);
        x.sheet(SHORTS_16, 1, 16);
        x.sheet(INTS_40, 2, 40);
        x.sheet(EMPTY, 0, 0);
        x.sheet(FIVE_INTS, 2, 5);
        x.sheet(FOUR_SHORTS, 1, 4);
        for (int i = 0; i < 6; i++) {
            x.set(SIX_BYTES, i, 16 + i * 7 % 5);
        }
        for (int i = 0; i < 5; i++) {
            x.set(FIVE_INTS, i, 17 + i * 3 % 5);
        }
        for (int i = 0; i < 4; i++) {
            x.set(FOUR_SHORTS, i, 19 + i);
        }
        for (int i = 0; i < 40; i += 5) {
            x.copy(FIVE_INTS, 0, INTS_40, i, 5);
        }
        for (int i = 0; i < 16; i += 4) {
            x.copy(FOUR_SHORTS, 0, SHORTS_16, i, 4);
        }
    }

    /** The answer, what status() tells behind it, and that nothing else is other than it was. */
    void refuses(String name, int want, ToIntFunction<PaceStore> call) {
        boolean isFinding = want <= Checks.NULL && want >= Checks.STORE;
        answers(name, want, isFinding ? -1000010 - want : this == NEW ? 0 : STATUS, call);
    }

    /** A call that changes nothing that can be seen but status(). */
    void answers(String name, int want, int status, ToIntFunction<PaceStore> call) {
        PaceStore x = make();
        Checks.due(name + " of " + this, want, call.applyAsInt(x));
        Checks.due("status() behind " + name + " of " + this, status, x.status());
        if (!UNASKED.containsKey(this)) {
            UNASKED.put(this, seen(make(), true));
        }
        Checks.same("what " + name + " of " + this + " leaves", UNASKED.get(this), seen(x, true));
    }

    /** A refusal behind a call that makes the state fit for it. */
    void refusesBehind(String name, ToIntFunction<PaceStore> ahead, int want, ToIntFunction<PaceStore> call) {
        PaceStore x = make();
        PaceStore unasked = make();
        ahead.applyAsInt(x);
        ahead.applyAsInt(unasked);
        boolean isFinding = want <= Checks.NULL && want >= Checks.STORE;
        int status = isFinding ? -1000010 - want : x.status();
        Checks.due(name + " of " + this, want, call.applyAsInt(x));
        Checks.due("status() behind " + name + " of " + this, status, x.status());
        Checks.same("what " + name + " of " + this + " leaves", seen(unasked, true), seen(x, true));
    }

    /** Destroys what it looks at. */
    static String seen(PaceStore x, boolean isTapeSeen) {
        Look look = new Look();
        seeCourse(x, look);
        seeAlone(x, look);
        for (int i = 0; i < 7; i++) {
            look.at("trace", x.trace(i));
        }
        seeLanes(x, look);
        if (isTapeSeen) {
            seeTape(x, look);
        } else {
            x.course();
        }
        seeItems(x, look);
        for (int s = 0; s < 8; s++) {
            look.at("drop " + s, x.drop(s));
        }
        for (int k = 0; k < 2; k++) {
            look.at("restore " + k, x.restore(k));
            seeCourse(x, look);
        }
        return look.seen.toString();
    }

    private static void seeCourse(PaceStore x, Look look) {
        look.at("sheets", x.count(0));
        int miles = look.at("miles", x.count(1));
        int runners = look.at("runners", x.count(2));
        look.at("rabbits", x.count(3));
        look.at("rules", x.count(4));
        look.at("races", x.count(6));
        for (int m = 0; m < miles; m++) {
            look.at("need", x.need(m, 20, 0));
            look.at("need", x.need(m, 20, 1));
        }
        for (int r = 0; r < runners; r++) {
            look.at("place", x.place(r));
            for (int m = 0; m < miles; m++) {
                look.at("kind", x.kind(r, m));
                for (int what = 0; what < 6; what++) {
                    look.at("ran " + r + " " + m + " " + what, x.ran(r, m, what));
                }
            }
        }
    }

    private static void seeAlone(PaceStore x, Look look) {
        int runners = x.count(2);
        int all = (1 << x.count(3)) - 1;
        for (int r = 0; r < runners; r++) {
            look.at("best", x.best(r, all, -1));
            look.at("hired", x.hired(r, 50, 0));
            look.at("stays", x.stays(r, 0));
        }
    }

    /** By copies of no item: NULL, STORE, or 0. */
    private static void seeLanes(PaceStore x, Look look) {
        look.at("the spare sheet", x.drop(SPARE));
        for (int lane = 0; lane < 3; lane++) {
            x.sheet(SPARE, lane, 0);
            for (int s = 0; s < 8; s++) {
                look.at("lane " + lane + " of " + s, x.copy(s, 0, SPARE, 0, 0));
            }
        }
        x.drop(SPARE);
    }

    /** By what is read when the half text is made whole; the tape is empty then. */
    private static void seeTape(PaceStore x, Look look) {
        look.at("fault", x.fault());
        look.at("bytes", x.count(5));
        Checks.feed(x, REST);
        look.at("bytes", x.count(5));
        look.at("course", x.course());
        look.at("fault", x.fault());
        seeCourse(x, look);
    }

    /** By races of four whom no rule changes: four items a race, then the last ones. */
    private static void seeItems(PaceStore x, Look look) {
        Checks.due("a course to see items by", 1, Checks.read(x, FOUR_WITHOUT_RULES));
        for (int s = 0; s < 8; s++) {
            int i = 0;
            while (i <= 36 && seesItems(x, look, s, i)) {
                i += 4;
            }
            for (int back = 1; back < 4 && i <= 36 && !seesItems(x, look, s, i - back); back++) {
                look.at("no items of " + s, i - back);
            }
        }
    }

    private static boolean seesItems(PaceStore x, Look look, int sheet, int i) {
        if (look.at("race by " + sheet + " from " + i, x.race(sheet, i, 0)) < 0) {
            return false;
        }
        for (int r = 0; r < 4; r++) {
            look.at("item", x.ran(r, 0, 1));
        }
        return true;
    }
}
