import java.util.ArrayList;
import java.util.HashMap;
import java.util.List;
import java.util.Map;
import java.util.Random;

/**
 * Promises 9 to 23 and 26 over many drawn courses, against a second telling of the document:
 * slow, by lists and maps, and sharing nothing with the class. It also counts how often what is
 * rare came up, so that a draw that never meets it is seen.
 */
public final class OracleTest {
    private static final int NONE = Checks.NONE;
    private static final Random DRAW = new Random(7);

    private final int[][] miles;
    private final int[][] runners;
    private final List<List<int[]>> rules = new ArrayList<>();
    private final int[][] rabbits;
    private int[] warmer = new int[12];

    private static int sheltered;
    private static int outOfShelter;
    private static int spentOut;
    private static int noBest;
    private static int restsMany;
    private static int[] kindsSeen = new int[6];

    private OracleTest(int milesAtMost) {
        miles = new int[1 + DRAW.nextInt(milesAtMost)][];
        boolean isWild = DRAW.nextInt(4) == 0;
        for (int m = 0; m < miles.length; m++) {
            miles[m] = isWild ? new int[] {between(-5, 5), between(0, 9), between(0, 9)}
                    : new int[] {between(-1, 1), between(0, 3), between(0, 9)};
        }
        runners = new int[between(1, 4)][];
        int about = between(12, 28);
        for (int r = 0; r < runners.length; r++) {
            runners[r] = new int[] {Math.min(30, about + between(-2, 2)), between(1, 99), between(1, 9)};
            rules.add(new ArrayList<>());
            int n = DRAW.nextInt(5);
            for (int k = 0; k < n; k++) {
                int what = DRAW.nextInt(3);
                int number = what == 0 ? between(0, 99) : what == 1 ? between(0, 60) : between(0, 11);
                rules.get(r).add(new int[] {what, DRAW.nextInt(2), number, DRAW.nextInt(2), between(1, isWild ? 9 : 2)});
            }
        }
        rabbits = new int[between(0, 5)][];
        for (int r = 0; r < rabbits.length; r++) {
            rabbits[r] = new int[] {Math.min(40, Math.max(10, about + between(-4, 8))), between(1, 12), between(0, 12)};
        }
    }

    private static int between(int low, int high) {
        return low + DRAW.nextInt(high - low + 1);
    }

    private String text() {
        StringBuilder s = new StringBuilder();
        for (int[] m : miles) {
            s.append("mile ").append(m[0]).append(' ').append(m[1]).append(' ').append(m[2]).append(';');
        }
        for (int r = 0; r < runners.length; r++) {
            s.append("runner ").append(runners[r][0]).append(' ').append(runners[r][1]).append(' ').append(runners[r][2]).append(';');
            for (int[] rule : rules.get(r)) {
                s.append("when ").append(new String[] {"store", "behind", "mile"}[rule[0]]);
                s.append(rule[1] == 0 ? " below " : " above ").append(rule[2]);
                s.append(rule[3] == 0 ? " ease " : " push ").append(rule[4]).append(';');
            }
        }
        for (int[] r : rabbits) {
            s.append("rabbit ").append(r[0]).append(' ').append(r[1]).append(' ').append(r[2]).append(';');
        }
        return s.toString();
    }

    private int need(int mile, int pace, boolean isSheltered) {
        int n = pace + miles[mile][0] + (miles[mile][1] + warmer[mile]) / 2;
        return isSheltered ? n : n + miles[mile][2] / 2;
    }

    private static int seconds(int pace) {
        return 12000 / pace;
    }

    private static int clamp(int pace) {
        return pace < 10 ? 10 : pace > 40 ? 40 : pace;
    }

    /** What is left of a store behind a need; null: spent out. */
    private static Integer behind(int left, int need, int line, int[] runner) {
        if (need > line) {
            int spent = (need - line) * (need - line);
            return spent <= left ? left - spent : null;
        }
        int more = line - need < runner[2] ? line - need : runner[2];
        return left + more > runner[1] ? runner[1] : left + more;
    }

    private int easy(int mile, int line) {
        int greatest = 10;
        for (int p = 10; p <= 40; p++) {
            if (need(mile, p, false) <= line) {
                greatest = p;
            }
        }
        return greatest;
    }

    /** One mile for some runners: times and lefts move, and the rows told of it are given back. */
    private int[][] leg(int mile, int[] who, int[] wants, int[] times, int[] lefts) {
        int n = who.length;
        int[][] told = new int[n][];
        int[] before = times.clone();
        for (int i = 0; i < n; i++) {
            boolean isSheltered = false;
            for (int j = 0; j < n; j++) {
                int gap = before[i] - before[j];
                isSheltered |= gap >= 1 && gap <= 5 && wants[j] >= wants[i];
            }
            int[] runner = runners[who[i]];
            int need = need(mile, wants[i], isSheltered);
            Integer then = behind(lefts[i], need, runner[0], runner);
            int took = seconds(then == null ? easy(mile, runner[0]) : wants[i]);
            lefts[i] = then == null ? 0 : then;
            times[i] += took;
            int goesSheltered = then != null && isSheltered ? 1 : 0;
            told[i] = new int[] {took, wants[i], lefts[i], goesSheltered, then == null ? 1 : 0, times[i], need > runner[0] ? 1 : 0};
            sheltered += told[i][3];
            spentOut += told[i][4];
            outOfShelter += then == null && isSheltered ? 1 : 0;
        }
        return told;
    }

    private void checkRace(PaceStore x) {
        int n = runners.length;
        int[] paces = new int[n];
        int[] who = new int[n];
        int[] lefts = new int[n];
        int[] times = new int[n];
        int about = runners[0][0];
        for (int r = 0; r < n; r++) {
            paces[r] = clamp(about + between(-3, 4));
            who[r] = r;
            lefts[r] = runners[r][1];
        }
        Checks.sheet(x, 0, paces);
        int seed = DRAW.nextBoolean() ? 0 : between(1, 999999);
        int first = x.race(0, 0, seed);
        long drawn = seed;
        int[][] ahead = null;
        for (int m = 0; m < miles.length; m++) {
            int least = Integer.MAX_VALUE;
            for (int t : times) {
                least = Math.min(least, t);
            }
            for (int r = 0; r < n; r++) {
                paces[r] = clamp(paces[r] + byRules(r, m, lefts[r], times[r] - least));
                if (seed != 0) {
                    drawn = drawn * 16807L % 2147483647L;
                    paces[r] = clamp(paces[r] + (drawn % 7 == 0 ? 1 : drawn % 7 == 1 ? -1 : 0));
                }
            }
            int[][] told = leg(m, who, paces, times, lefts);
            checkMile(x, m, told, ahead);
            ahead = told;
        }
        checkPlaces(x, times, first);
    }

    private int byRules(int runner, int mile, int left, int behind) {
        for (int[] rule : rules.get(runner)) {
            int felt = new int[] {left, behind, mile}[rule[0]];
            if (rule[1] == 0 && felt < rule[2] || rule[1] == 1 && felt > rule[2]) {
                return rule[3] == 0 ? -rule[4] : rule[4];
            }
        }
        return 0;
    }

    private void checkMile(PaceStore x, int mile, int[][] told, int[][] ahead) {
        for (int r = 0; r < told.length; r++) {
            for (int what = 0; what < 6; what++) {
                Checks.due("ran(" + r + ", " + mile + ", " + what + ") of " + text(), told[r][what], x.ran(r, mile, what));
            }
            int kind = told[r][6] == 0 ? told[r][3] == 1 ? 3 : 1
                    : told[r][4] == 1 ? 4 : ahead != null && told[r][1] > ahead[r][1] ? 5 : 2;
            kindsSeen[kind]++;
            Checks.due("kind(" + r + ", " + mile + ") of " + text(), kind, x.kind(r, mile));
        }
    }

    private void checkPlaces(PaceStore x, int[] times, int first) {
        for (int r = 0; r < times.length; r++) {
            int place = 0;
            for (int o = 0; o < times.length; o++) {
                place += times[o] < times[r] || times[o] == times[r] && o < r ? 1 : 0;
            }
            Checks.due("place(" + r + ") of " + text(), place, x.place(r));
            if (place == 0) {
                Checks.due("race() of " + text(), r, first);
            }
        }
    }

    /** By what is left behind a mile: the least time, and of like ones the first paces, as a text that sorts so. */
    private record Way(int time, String paces) {
        boolean isBetter(Way other) {
            return other == null || time < other.time || time == other.time && paces.compareTo(other.paces) < 0;
        }
    }

    private Way best(int runner, int set, int from, int left, int firstPace) {
        Map<Integer, Way> ways = new HashMap<>();
        ways.put(left, new Way(0, ""));
        for (int m = from; m < miles.length; m++) {
            Map<Integer, Way> then = new HashMap<>();
            for (Map.Entry<Integer, Way> e : ways.entrySet()) {
                for (int p = 10; p <= 40; p++) {
                    if (m == 0 && firstPace > 0 && p != firstPace) {
                        continue;
                    }
                    Integer now = behind(e.getKey(), need(m, p, isWithRabbit(set, m, p)), runners[runner][0], runners[runner]);
                    if (now == null) {
                        continue;
                    }
                    Way way = new Way(e.getValue().time + seconds(p), e.getValue().paces + (char) p);
                    if (way.isBetter(then.get(now))) {
                        then.put(now, way);
                    }
                }
            }
            ways = then;
        }
        Way best = null;
        for (Way way : ways.values()) {
            best = way.isBetter(best) ? way : best;
        }
        return best;
    }

    private boolean isWithRabbit(int set, int mile, int pace) {
        for (int r = 0; r < rabbits.length; r++) {
            if ((set >> r & 1) == 1 && rabbits[r][1] > mile && rabbits[r][0] == pace) {
                return true;
            }
        }
        return false;
    }

    private void checkAlone(PaceStore x, int runner) {
        int set = DRAW.nextInt(1 << rabbits.length);
        Way best = best(runner, set, 0, runners[runner][1], 0);
        noBest += best == null ? 1 : 0;
        Checks.due("best(.., -1) of " + text(), best == null ? NONE : best.time, x.best(runner, set, -1));
        for (int k = 0; k <= miles.length; k++) {
            int want = best == null || k == miles.length ? NONE : best.paces.charAt(k);
            Checks.due("best(" + runner + ", " + set + ", " + k + ") of " + text(), want, x.best(runner, set, k));
        }
        int even = NONE;
        for (int p = 10; p <= 40; p++) {
            Integer left = runners[runner][1];
            for (int m = 0; m < miles.length && left != null; m++) {
                left = behind(left, need(m, p, isWithRabbit(set, m, p)), runners[runner][0], runners[runner]);
            }
            even = left != null && (even == NONE || seconds(p) < seconds(even)) ? p : even;
        }
        Checks.due("even 0 of " + text(), even, x.even(runner, set, 0));
        Checks.due("even 1 of " + text(), even == NONE ? NONE : miles.length * seconds(even), x.even(runner, set, 1));
        int d = between(1, 20);
        Way plain = best(runner, 0, 0, runners[runner][1], 0);
        Way hasty = plain == null ? null : best(runner, 0, 0, runners[runner][1], Math.min(40, plain.paces.charAt(0) + d));
        Checks.due("early of " + text(), hasty == null ? NONE : hasty.time - plain.time, x.early(runner, d));
    }

    private void checkHired(PaceStore x, int runner) {
        int coin = DRAW.nextInt(40);
        int[] found = {NONE, NONE, NONE};
        for (int set = (1 << rabbits.length) - 1; set >= 0; set--) {
            int cost = 0;
            for (int r = 0; r < rabbits.length; r++) {
                cost += (set >> r & 1) == 1 ? rabbits[r][2] : 0;
            }
            Way best = cost > coin ? null : best(runner, set, 0, runners[runner][1], 0);
            if (best != null && (found[0] == NONE || best.time < found[1] || best.time == found[1] && cost <= found[2])) {
                found = new int[] {set, best.time, cost};
            }
        }
        for (int what = 0; what < 3; what++) {
            Checks.due("hired(.., " + coin + ", " + what + ") of " + text(), found[what], x.hired(runner, coin, what));
        }
    }

    private void checkStays(PaceStore x, int runner) {
        for (int r = 0; r < rabbits.length; r++) {
            Integer left = runners[runner][1];
            int time = 0;
            int m = 0;
            while (m < rabbits[r][1] && m < miles.length && left != null) {
                left = behind(left, need(m, rabbits[r][0], false), runners[runner][0], runners[runner]);
                time += seconds(rabbits[r][0]);
                m++;
            }
            Way rest = left == null ? null : best(runner, 0, m, left, 0);
            Checks.due("stays(" + runner + ", " + r + ") of " + text(), rest == null ? NONE : time + rest.time, x.stays(runner, r));
        }
    }

    private int score(int a, int b, int planA, int planB) {
        int[] who = {a, b};
        int[] plans = {planA, planB};
        int[] times = new int[2];
        int[] lefts = {runners[a][1], runners[b][1]};
        int[][] steps = {{0, 0}, {3, -2}, {-2, 3}, {1, 1}};
        for (int m = 0; m < miles.length; m++) {
            int[] wants = new int[2];
            for (int i = 0; i < 2; i++) {
                wants[i] = clamp(easy(0, runners[who[i]][0]) + steps[plans[i]][m < miles.length / 2 ? 0 : 1]);
            }
            leg(m, who, wants, times, lefts);
        }
        return times[0] < times[1] ? 1 : times[0] > times[1] ? -1 : 0;
    }

    private void checkGame(PaceStore x) {
        if (runners.length < 2) {
            return;
        }
        int a = DRAW.nextInt(runners.length);
        int b = (a + 1 + DRAW.nextInt(runners.length - 1)) % runners.length;
        int[][] scores = new int[4][4];
        for (int p = 0; p < 4; p++) {
            for (int q = 0; q < 4; q++) {
                scores[p][q] = score(a, b, p, q);
                int want = scores[p][q] == 1 ? 0 : scores[p][q] == -1 ? 1 : NONE;
                Checks.due("wins(" + a + ", " + b + ", " + p + ", " + q + ") of " + text(), want, x.wins(a, b, p, q));
            }
        }
        List<Integer> rests = new ArrayList<>();
        for (int p = 0; p < 4; p++) {
            for (int q = 0; q < 4; q++) {
                boolean isRest = true;
                for (int o = 0; o < 4; o++) {
                    isRest &= scores[o][q] <= scores[p][q] && scores[p][o] >= scores[p][q];
                }
                if (isRest) {
                    rests.add(4 * p + q);
                }
            }
        }
        restsMany += rests.size() > 1 && rests.size() < 16 ? 1 : 0;
        Checks.due("rests(.., -1) of " + text(), rests.size(), x.rests(a, b, -1));
        for (int i = 0; i <= rests.size(); i++) {
            Checks.due("rests(.., " + i + ") of " + text(), i < rests.size() ? rests.get(i) : NONE, x.rests(a, b, i));
        }
    }

    private void checkLine(PaceStore x, int runner) {
        int[] splits = new int[miles.length];
        int about = between(10, 37);
        for (int m = 0; m < splits.length; m++) {
            splits[m] = seconds(Math.min(40, about + between(0, 3))) + (DRAW.nextInt(100) == 0 ? 1 : 0);
        }
        int want = NONE;
        for (int line = 60; line >= 10; line--) {
            Integer left = runners[runner][1];
            for (int m = 0; m < splits.length && left != null; m++) {
                int pace = 0;
                for (int p = 40; p >= 10; p--) {
                    pace = seconds(p) == splits[m] ? p : pace;
                }
                left = pace == 0 ? null : behind(left, need(m, pace, false), line, runners[runner]);
            }
            want = left == null ? want : line;
        }
        Checks.sheet(x, 1, splits);
        Checks.due("line of " + text(), want, x.line(runner, 1, 0));
    }

    private void checkHour(PaceStore x, int runner) {
        int n = between(1, 6);
        int[] row = new int[n + 2];
        for (int i = 0; i < row.length; i++) {
            row[i] = DRAW.nextInt(21);
        }
        int[] found = {NONE, NONE};
        for (int h = 0; h < n; h++) {
            for (int m = 0; m < miles.length; m++) {
                warmer[m] = row[h + m / 4];
            }
            Way best = best(runner, 0, 0, runners[runner][1], 0);
            if (best != null && (found[0] == NONE || best.time < found[1])) {
                found = new int[] {h, best.time};
            }
        }
        warmer = new int[12];
        Checks.sheet(x, 2, row);
        Checks.due("hour 0 of " + text(), found[0], x.hour(runner, 2, 0, n, 0));
        Checks.due("hour 1 of " + text(), found[1], x.hour(runner, 2, 0, n, 1));
    }

    private void checkFeeling(PaceStore x, int runner) {
        int from = clamp(runners[runner][0] + between(-6, 6));
        int[] found = {0, Integer.MAX_VALUE};
        for (int a = 90; a >= 0; a -= 10) {
            for (int b = 90; b >= 0; b -= 10) {
                int[] pace = {from};
                int[] times = {0};
                int[] lefts = {runners[runner][1]};
                for (int m = 0; m < miles.length; m++) {
                    pace[0] = lefts[0] < a ? clamp(pace[0] - 1) : lefts[0] > b ? clamp(pace[0] + 1) : pace[0];
                    leg(m, new int[] {runner}, pace, times, lefts);
                }
                found = times[0] <= found[1] ? new int[] {a + b / 10, times[0]} : found;
            }
        }
        Checks.due("feeling 0 of " + text(), found[0], x.feeling(runner, from, 0));
        Checks.due("feeling 1 of " + text(), found[1], x.feeling(runner, from, 1));
    }

    private static void checkParts() {
        PaceStore x = new PaceStore();
        int[] times = new int[16];
        int most = DRAW.nextBoolean() ? 12 : 99999;
        for (int i = 0; i < 16; i++) {
            times[i] = between(0, most);
        }
        Checks.sheet(x, 0, times);
        int[] sums = new int[4];
        for (int code = 0; code < 256; code++) {
            int[] order = {code & 3, code >> 2 & 3, code >> 4 & 3, code >> 6 & 3};
            int all = 1 << order[0] | 1 << order[1] | 1 << order[2] | 1 << order[3];
            int set = 0;
            for (int k = 0; k < 4 && all == 15; k++) {
                sums[order[k]] += times[set] - times[set | 1 << order[k]];
                set |= 1 << order[k];
            }
        }
        for (int help = 0; help < 4; help++) {
            int below = 24;
            for (int by = 24; by >= 2; by--) {
                if (sums[help] % by == 0 && below % by == 0) {
                    sums[help] /= by;
                    below /= by;
                    by = 25;
                }
            }
            Checks.due("parts 0", sums[help], x.parts(0, 0, help, 0));
            Checks.due("parts 1", below, x.parts(0, 0, help, 1));
        }
    }

    private static void met(String what, int times) {
        if (times < 5) {
            Checks.due("draws that met " + what, 5, times);
        }
    }

    private static PaceStore on(OracleTest o) {
        return o.text().length() > 600 ? null : Checks.on(o.text());
    }

    public static void main(String[] args) {
        for (int round = 0; round < 1500; round++) {
            OracleTest o = new OracleTest(12);
            PaceStore x = on(o);
            if (x != null) {
                o.checkRace(x);
                o.checkGame(x);
                o.checkLine(x, DRAW.nextInt(o.runners.length));
                o.checkFeeling(x, DRAW.nextInt(o.runners.length));
            }
            checkParts();
        }
        for (int round = 0; round < 250; round++) {
            OracleTest o = new OracleTest(round % 6 == 0 ? 12 : 5);
            PaceStore x = on(o);
            if (x != null) {
                int runner = DRAW.nextInt(o.runners.length);
                o.checkAlone(x, runner);
                o.checkStays(x, runner);
                o.checkHour(x, runner);
                o.checkHired(x, runner);
            }
        }
        met("shelter", sheltered);
        met("spent out ones", spentOut);
        met("ones spent out who would be sheltered", outOfShelter);
        met("no best", noBest);
        met("games that rest at some", restsMany);
        for (int kind = 1; kind <= 5; kind++) {
            met("kind " + kind, kindsSeen[kind]);
        }
        Checks.end();
    }
}
