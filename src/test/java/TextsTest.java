/** Promises 6, 7, 8 and 30: the tape, the texts, their faults, and what is counted of a course. */
public final class TextsTest {
    private static final String MILE = "mile 0 0 0;", RUNNER = "runner 20 9 1;", RULE = "when store below 5 ease 1;";
    private static final String RABBIT = "rabbit 20 3 5;";

    public static void main(String[] args) {
        tape();
        words();
        tokens();
        numbers();
        rooms();
        stayed();
        counted();
        Checks.end();
    }

    private static void tape() {
        PaceStore x = new PaceStore();
        Checks.due("feed(0, 0)", Checks.BAD, x.feed(0, 0));
        Checks.due("feed(0, 9)", Checks.BAD, x.feed(0, 9));
        Checks.due("feed(0, -1)", Checks.BAD, x.feed(0, -1));
        for (int i = 1; i <= 74; i++) {
            Checks.due("feed 8", 8 * i, x.feed(0x2020202020202020L, 8));
        }
        Checks.due("feed 7", 599, x.feed(0x2020202020202020L, 7));
        Checks.due("feed 2", Checks.FULL, x.feed(0x2020L, 2));
        Checks.due("none came", 599, x.count(5));
        Checks.due("feed 1", 600, x.feed(0x2020L, 1));
        Checks.due("feed 1", Checks.FULL, x.feed(0x20L, 1));
        Checks.due("BAD ahead of FULL", Checks.BAD, x.feed(0x20L, 9));
        Checks.due("600 blanks", -1000700, x.course());
        Checks.due("empty then", 0, x.count(5));
        Checks.due("highest first", 3, x.feed(0x7A6D696CL, 3));
        Checks.due("and behind", 11, x.feed(0x6520302030203072L, 8));
        x.feed(';', 1);
        Checks.due("'r' in place of a semicolon", -1000110, x.course());
    }

    private static void fault(String text, int place, int number) {
        PaceStore x = new PaceStore();
        Checks.due("course() of " + text, -1000100 - place, Checks.read(x, text));
        Checks.due("fault() of " + text, number, x.fault());
        Checks.due("no course of " + text, 0, x.count(1));
    }

    private static void reads(String text, int miles) {
        Checks.due("course() of " + text, miles, Checks.read(new PaceStore(), text));
    }

    private static void words() {
        fault("", 0, 1);
        fault("runner 20 9 1;", 0, 1);
        fault(MILE, 11, 1);
        fault(MILE + "  \n", 14, 1);
        fault(MILE + RULE, 11, 1);
        fault(MILE + RABBIT, 11, 1);
        fault(MILE + RUNNER + MILE, 25, 1);
        fault(MILE + RUNNER + RABBIT + RUNNER, 39, 1);
        fault(MILE + RUNNER + RABBIT + RULE, 39, 1);
        fault(MILE + RUNNER + ";", 25, 1);
        fault(MILE + RUNNER + "5", 25, 1);
        fault("miles 0 0 0;", 0, 1);
        fault("mil 0 0 0;", 0, 1);
        fault("file 0 0 0;", 0, 1);
        fault("milez 0 0 0;", 0, 1);
        fault("milea 0 0 0;", 0, 1);
        fault("Mile 0 0 0;", 0, 1);
        fault("mile 0 0;", 8, 1);
        fault("mile 0 0 0 0;", 11, 1);
        fault("mile 0 0 0", 10, 1);
        fault(MILE + RUNNER + "when ;", 30, 1);
        fault(MILE + RUNNER + "when left below 1 push 1;", 30, 1);
        fault(MILE + RUNNER + "when mile over 1 push 1;", 35, 1);
        fault(MILE + RUNNER + "when mile above push 1;", 41, 1);
        fault(MILE + RUNNER + "when mile above 1 pull 1;", 43, 1);
        fault(MILE + RUNNER + "when mile above 1 push ;", 48, 1);
        fault(MILE + RUNNER + "when mile above 1 push 1", 49, 1);
        reads(MILE + RUNNER, 1);
        reads(MILE + MILE + RUNNER + RULE + RUNNER + RULE + RABBIT + RABBIT, 2);
    }

    private static void tokens() {
        reads("mile0 0 0;runner20 9 1;", 1);
        reads("mile-5-0-0;runner 20 9 1;", 1);
        reads("\n \n mile 000 009\n005 ;\nrunner 020 09 1 ; ", 1);
        reads(MILE + "runner 20 9 1;when mile below 0push 1;", 1);
        fault("mile - 5 0 0;", 5, 1);
        fault("mile --5 0 0;", 5, 1);
        fault("mile 5- 0 0;", 6, 1);
        fault("mile 0000 0 0;", 5, 1);
        fault("mile -0000 0 0;", 5, 1);
        fault("mile\t0 0 0;", 4, 1);
        fault("mile 0 0 0;\r" + RUNNER, 11, 1);
        fault("mile 0,0 0;", 6, 1);
        fault("mileE 0 0 0;", 4, 1);
        fault("mile 0 0 0:", 10, 1);
        fault(MILE + RUNNER + (char) 233, 25, 1);
        fault(MILE + RUNNER + (char) 0, 25, 1);
        fault("mile 0 0 1000;", 9, 1);
        fault("mile 0 0 999;", 9, 2);
    }

    private static void numbers() {
        edges("mile # 0 0;" + RUNNER, -5, 5);
        edges("mile 0 # 0;" + RUNNER, 0, 9);
        edges("mile 0 0 #;" + RUNNER, 0, 9);
        edges(MILE + "runner # 9 1;", 10, 30);
        edges(MILE + "runner 20 # 1;", 1, 99);
        edges(MILE + "runner 20 9 #;", 1, 9);
        edges(MILE + RUNNER + "when store above 5 push #;", 1, 9);
        edges(MILE + RUNNER + "rabbit # 1 1;", 10, 40);
        edges(MILE + RUNNER + "rabbit 10 # 1;", 1, 12);
        edges(MILE + RUNNER + "rabbit 10 1 #;", 0, 99);
        String rule = MILE + RUNNER + "when behind below # push 1;";
        reads(rule.replace("#", "0"), 1);
        reads(rule.replace("#", "999"), 1);
        fault(rule.replace("#", "-1"), rule.indexOf('#'), 2);
        fault(rule.replace("#", "1000"), rule.indexOf('#'), 1);
    }

    private static void edges(String text, int low, int high) {
        reads(text.replace("#", "" + low), 1);
        reads(text.replace("#", "" + high), 1);
        fault(text.replace("#", "" + (low - 1)), text.indexOf('#'), 2);
        fault(text.replace("#", "" + (high + 1)), text.indexOf('#'), 2);
    }

    private static void rooms() {
        reads(MILE.repeat(12) + RUNNER, 12);
        fault(MILE.repeat(13) + RUNNER, 12 * 11, 3);
        fault(MILE.repeat(12) + "mile 9 0 0;", 12 * 11, 3);
        reads(MILE + RUNNER.repeat(4), 1);
        fault(MILE + RUNNER.repeat(5), 11 + 4 * 14, 3);
        reads(MILE + RUNNER + RULE.repeat(6) + RUNNER + RULE.repeat(6), 1);
        fault(MILE + RUNNER + RULE.repeat(7), 25 + 6 * 26, 3);
        fault(MILE + RUNNER + RUNNER + RULE.repeat(7), 39 + 6 * 26, 3);
        reads(MILE + RUNNER + RABBIT.repeat(5), 1);
        fault(MILE + RUNNER + RABBIT.repeat(6), 25 + 5 * 14, 3);
    }

    private static void stayed() {
        PaceStore x = Checks.on("mile 3 4 6;" + RUNNER + RABBIT);
        Checks.due("no fault yet", 0, x.fault());
        Checks.sheet(x, 0, 20);
        Checks.due("race", 0, x.race(0, 0, 0));
        Checks.due("a fault", -1000116, Checks.read(x, MILE + "mile q"));
        Checks.due("its number", 1, x.fault());
        Checks.due("the tape is empty", 0, x.count(5));
        Checks.due("the course stays", 28, x.need(0, 20, 0));
        Checks.due("its miles stay", 1, x.count(1));
        Checks.due("its rabbits stay", 1, x.count(3));
        Checks.due("the race stays", 1, x.count(6));
        Checks.due("ran stays", 20, x.ran(0, 0, 1));
        Checks.due("a course anew", 2, Checks.read(x, MILE + MILE + RUNNER + RUNNER));
        Checks.due("the latest fault stays told", 1, x.fault());
        Checks.due("no race", 0, x.count(6));
        Checks.due("no race to tell", Checks.STATE, x.ran(0, 0, 1));
        Checks.due("no rabbits", 0, x.count(3));
        Checks.due("a fault of 2", -1000105, Checks.read(x, "mile 6 q"));
        Checks.due("its number", 2, x.fault());
    }

    private static void counted() {
        PaceStore x = Checks.on(MILE + MILE + MILE + RUNNER + RULE + RUNNER + RULE + RULE + RABBIT);
        Checks.sheet(x, 3, 20, 20);
        Checks.due("sheets", 1, x.count(0));
        Checks.due("miles", 3, x.count(1));
        Checks.due("runners", 2, x.count(2));
        Checks.due("rabbits", 1, x.count(3));
        Checks.due("rules", 3, x.count(4));
        Checks.feed(x, "abc");
        Checks.due("bytes", 3, x.count(5));
        Checks.due("no race", 0, x.count(6));
        x.race(3, 0, 0);
        Checks.due("a race", 1, x.count(6));
        x.course();
        Checks.read(x, MILE + RUNNER);
        Checks.due("rules of a course anew", 0, x.count(4));
        Checks.due("runners of a course anew", 1, x.count(2));
    }
}
