import java.util.Random;

/**
 * All promises: calls with drawn and with extreme numbers in drawn states. None may throw, the same
 * calls give the same answers, and a call that is refused or found changes nothing but status().
 */
public final class SturdyTest {
    private static final int[] EDGES = {Integer.MIN_VALUE, -1000000, -2, -1, 41, 600, 999999, 1000000, Integer.MAX_VALUE};
    private static final String[] TEXTS = {
        "mile 0 0 0; runner 20 9 1;",
        "mile 5 9 9; mile -5 0 3; runner 12 40 3; when store below 9 ease 2; when behind above 3 push 1;"
            + "runner 13 30 2; runner 12 99 9; runner 14 1 1; rabbit 12 2 5; rabbit 13 12 0;",
        "mile 0 0 8;mile 0 0 8;mile 0 0 8;mile 0 0 8;"
            + "runner 30 99 9;runner 29 99 9;rabbit 30 12 1;rabbit 31 6 2;rabbit 32 3 3;rabbit 33 1 4;rabbit 40 9 99;",
        "mile 0 0 0; runner 20 9", "mile 0 0 0; runner 31 9 1;", "when", ";", "",
    };

    private final Random draw;
    private final PaceStore x = new PaceStore();

    private SturdyTest(int seed) {
        draw = new Random(seed);
    }

    private int number() {
        return draw.nextInt(12) == 0 ? EDGES[draw.nextInt(EDGES.length)] : draw.nextInt(5) - (draw.nextInt(9) == 0 ? 1 : 0);
    }

    private int item() {
        return draw.nextInt(10) == 0 ? number() : 10 + draw.nextInt(31);
    }

    private int call(int which) {
        switch (which) {
            case 0: return x.sheet(number(), number(), draw.nextInt(3) == 0 ? number() : draw.nextInt(41));
            case 1: return x.set(number(), draw.nextInt(2) == 0 ? number() : draw.nextInt(40), item());
            case 2: return x.copy(number(), number(), number(), number(), number());
            case 3: return draw.nextInt(4) == 0 ? x.drop(number()) : 0;
            case 4: return x.feed(draw.nextLong(), number());
            case 5: return x.course();
            case 6: return x.fault();
            case 7: return x.need(number(), item(), number());
            case 8: return x.race(number(), number(), draw.nextInt(3) == 0 ? number() : draw.nextInt(1000000));
            case 9: return x.ran(number(), number(), number());
            case 10: return x.place(number());
            case 11: return x.best(number(), number(), number());
            case 12: return x.even(number(), number(), number());
            case 13: return x.early(number(), number());
            case 14: return x.hired(number(), draw.nextInt(120) - 1, number());
            case 15: return x.stays(number(), number());
            case 16: return x.rests(number(), number(), number());
            case 17: return x.wins(number(), number(), number(), number());
            case 18: return x.line(number(), number(), number());
            case 19: return x.parts(number(), number(), number(), number());
            case 20: return x.hour(number(), number(), number(), number(), number());
            case 21: return x.feeling(number(), item(), number());
            case 22: return x.image(number());
            case 23: return x.restore(number());
            case 24: return x.kind(number(), number());
            case 25: return x.as(number(), number(), number());
            case 26: return x.ask(number(), number(), number());
            case 27: return x.trace(number());
            case 28: return x.count(number());
            case 29: return x.status();
            default:
                if (draw.nextInt(3) == 0) {
                    Checks.feed(x, TEXTS[draw.nextInt(TEXTS.length)]);
                    return x.course();
                }
                return 0;
        }
    }

    /** So many calls on a new object; the answers, as one number. */
    private long run(int calls) {
        long answers = 0;
        for (int n = 0; n < calls; n++) {
            int status = x.status();
            int which = draw.nextInt(32);
            int answer = call(which);
            answers = answers * 31 + answer;
            if (answer <= PaceStore.BAD && answer >= PaceStore.FULL) {
                Checks.due("what call " + which + " refuses leaves status()", status, x.status());
            }
            if (isFinding(answer) && which < 30) {
                Checks.due("status() of call " + which, -1000010 - answer, x.status());
            }
        }
        return answers;
    }

    private static boolean isFinding(int answer) {
        return answer <= -1000011 && answer >= -1000015;
    }

    private static boolean isRefused(int answer) {
        return answer <= PaceStore.BAD && answer >= PaceStore.FULL || isFinding(answer);
    }

    /** Of one that went so many calls and one that went one more, which was refused: all that can be seen. */
    private static void leavesAll(int seed, int calls) {
        SturdyTest asked = new SturdyTest(seed);
        asked.run(calls);
        int which = asked.draw.nextInt(32);
        if (!isRefused(asked.call(which))) {
            return;
        }
        SturdyTest unasked = new SturdyTest(seed);
        unasked.run(calls);
        Checks.same("what call " + which + " leaves", States.seen(unasked.x, true), States.seen(asked.x, true));
    }

    public static void main(String[] args) {
        for (int seed = 0; seed < 1500; seed++) {
            Checks.due("the same calls, the same answers", new SturdyTest(seed).run(90), new SturdyTest(seed).run(90));
        }
        for (int seed = 0; seed < 200; seed++) {
            for (int calls = 0; calls < 24; calls++) {
                leavesAll(seed, calls);
            }
        }
        Checks.end();
    }
}
