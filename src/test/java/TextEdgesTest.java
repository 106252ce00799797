/** The texts of section 1 and promises 6 to 8, 30: each sentence that names an edge, and a test of its own. */
public final class TextEdgesTest {
    private static final String MILE = "mile 0 0 0;", RUNNER = "runner 20 9 1;", RABBIT = "rabbit 20 3 5;";
    private static final String RULE = "when store below 5 ease 1;", SHORT_RULE = "when mile below0push1;";
    private static final long BLANKS = 0x2020202020202020L;

    public static void main(String[] args) {
        oneToEightBytes();
        highestFirst();
        sixHundredBytes();
        aTextOfSixHundredBytes();
        theTapeIsEmptyThen();
        anEmptyTape();
        bytesBetweenTokens();
        bytesInPlaceOfASign();
        bytesBehindAName();
        bytesInPlaceOfANumber();
        numbersOfThreeFigures();
        blanksAsManyAsWanted();
        atLeastOneMileOneRunner();
        allRoomsFull();
        beyondAllRooms();
        roomsAreForEachRunner();
        ofOneTokenTheLeast();
        theFirstToken();
        theEnd();
        negativeNumbers();
        edgesAreTakenAsTold();
        inPlaceOfTheOneBefore();
        faultIsTheLatest();
        countsFromNoneToFull();
        Checks.end();
    }

    private static void fault(String text, int place, int number) {
        PaceStore x = new PaceStore();
        Checks.due("course() of " + text, -1000100 - place, Checks.read(x, text));
        Checks.due("fault() of " + text, number, x.fault());
        Checks.due("bytes behind " + text, 0, x.count(5));
        Checks.due("miles of " + text, 0, x.count(1));
    }

    private static PaceStore reads(String text, int miles) {
        PaceStore x = new PaceStore();
        Checks.due("course() of " + text, miles, Checks.read(x, text));
        Checks.due("fault() of " + text, 0, x.fault());
        return x;
    }

    /** "The lowest n bytes of w (1 to 8)". */
    private static void oneToEightBytes() {
        PaceStore x = new PaceStore();
        int sum = 0;
        for (int n = 1; n <= 8; n++) {
            sum += n;
            Checks.due("feed(w, " + n + ")", sum, x.feed(BLANKS, n));
            Checks.due("bytes", sum, x.count(5));
        }
        for (int n : new int[] {0, 9, -1, Integer.MIN_VALUE, Integer.MAX_VALUE}) {
            Checks.due("feed(w, " + n + ")", Checks.BAD, x.feed(BLANKS, n));
            Checks.due("bytes", sum, x.count(5));
        }
    }

    /** "the highest of them first": and what is above them is not looked at. */
    private static void highestFirst() {
        for (int n = 1; n <= 8; n++) {
            PaceStore x = new PaceStore();
            String text = MILE + RUNNER;
            for (int at = 0; at < text.length(); at += n) {
                int bytes = Math.min(n, text.length() - at);
                long w = -1;
                for (int i = 0; i < bytes; i++) {
                    w = w << 8 | text.charAt(at + i);
                }
                x.feed(w, bytes);
            }
            Checks.due("a text by " + n + " bytes", 1, x.course());
        }
        PaceStore x = new PaceStore();
        x.feed(0xFF20202020202020L, 8);
        Checks.due("a byte of 255 first", -1000100, x.course());
        x.feed(0x20202020202020FFL, 8);
        Checks.due("a byte of 255 last", -1000107, x.course());
        x.feed(0x8020202020202020L, 7);
        Checks.due("one above the lowest 7", -1000107, x.course());
    }

    /** "THE TAPE has at most 600 bytes"; "FULL: none comes." */
    private static void sixHundredBytes() {
        for (int n = 1; n <= 8; n++) {
            PaceStore x = new PaceStore();
            for (int at = 0; at < 592; at += 8) {
                x.feed(BLANKS, 8);
            }
            Checks.due("up to 600, " + n + " at last", 600 - n, n == 8 ? 592 : x.feed(BLANKS, 8 - n));
            if (n < 8) {
                Checks.due("one too many", Checks.FULL, x.feed(BLANKS, n + 1));
                Checks.due("none came", 600 - n, x.count(5));
            }
            Checks.due("the last " + n, 600, x.feed(BLANKS, n));
            Checks.due("one more", Checks.FULL, x.feed(BLANKS, 1));
            Checks.due("eight more", Checks.FULL, x.feed(BLANKS, 8));
            Checks.due("bytes", 600, x.count(5));
        }
    }

    private static void aTextOfSixHundredBytes() {
        String start = MILE + RUNNER;
        reads(start + " ".repeat(600 - start.length()), 1);
        reads(" ".repeat(600 - start.length()) + start, 1);
        fault(MILE + " ".repeat(600 - MILE.length()), 600, 1);
        fault(start + " ".repeat(599 - start.length()) + "x", 599, 1);
        // the 600th byte belongs to the text, a 601st does not come
        PaceStore x = new PaceStore();
        Checks.feed(x, " ".repeat(600 - start.length()) + start);
        Checks.due("one more", Checks.FULL, x.feed('x', 1));
        Checks.due("course()", 1, x.course());
    }

    /** "The tape, empty then, is read": behind a fault, too. */
    private static void theTapeIsEmptyThen() {
        PaceStore x = new PaceStore();
        Checks.feed(x, MILE + RUNNER);
        Checks.due("bytes", 25, x.count(5));
        x.course();
        Checks.due("bytes", 0, x.count(5));
        Checks.due("the next byte", 1, x.feed(';', 1));
        Checks.due("a fault", -1000100, x.course());
        Checks.due("bytes", 0, x.count(5));
        Checks.due("nothing is left of the longer text", -1000111, Checks.read(x, MILE));
        for (int at = 0; at < 600; at += 8) {
            x.feed(BLANKS, 8);
        }
        Checks.due("600 blanks", -1000700, x.course());
        Checks.due("room again", 2, Checks.read(x, MILE + MILE + RUNNER));
    }

    private static void anEmptyTape() {
        PaceStore x = new PaceStore();
        Checks.due("course() of nothing", -1000100, x.course());
        Checks.due("fault()", 1, x.fault());
        Checks.read(x, MILE + RUNNER);
        Checks.due("course() of nothing, behind a course", -1000100, x.course());
        Checks.due("the course stays", 1, x.count(1));
    }

    /** "bytes 32 and 10 ahead of, between, behind these": no other byte. */
    private static void bytesBetweenTokens() {
        for (int b = 0; b < 256; b++) {
            String sign = "" + (char) b;
            if (b == 32 || b == 10) {
                reads(sign + MILE + sign + RUNNER + sign, 1);
                reads("mile" + sign + "0" + sign + "0" + sign + "0" + sign + ";" + RUNNER, 1);
                continue;
            }
            fault(sign + " " + MILE + RUNNER, 0, 1);
            fault(MILE + sign + " " + RUNNER, 11, 1);
            fault(MILE + RUNNER + sign, 25, 1);
        }
    }

    private static void bytesInPlaceOfASign() {
        for (int b = 0; b < 256; b++) {
            String text = "mile 0 0 0 " + (char) b + RUNNER;
            if (b == ';') {
                reads(text, 1);
            } else {
                fault(text, b == 32 || b == 10 ? 12 : 11, 1);
            }
        }
    }

    /** "NAMES (letters a to z)": a letter more is another name, all else ends it. */
    private static void bytesBehindAName() {
        for (int b = 0; b < 256; b++) {
            String text = "mile" + (char) b + " 0 0 0;" + RUNNER;
            if (b == 32 || b == 10) {
                reads(text, 1);
            } else if (b >= 'a' && b <= 'z') {
                fault(text, 0, 1);
            } else if (b >= '0' && b <= '5') {
                fault(text, 10, 1);
            } else {
                fault(text, 4, b >= '6' && b <= '9' ? 2 : 1);
            }
        }
    }

    /** "NUMBERS (perhaps -, at once figures": bytes 48 to 57. */
    private static void bytesInPlaceOfANumber() {
        for (int b = 0; b < 256; b++) {
            String text = "mile 0 " + (char) b + " 0;" + RUNNER;
            if (b >= '0' && b <= '9') {
                reads(text, 1);
            } else {
                fault(text, b == 32 || b == 10 ? 10 : 7, 1);
            }
        }
        fault("mile 0 - 0;" + RUNNER, 7, 1);
        fault("mile 0 -", 7, 1);
        fault("mile 0 -\n5 0;" + RUNNER, 7, 1);
        fault("mile 0 --5 0;" + RUNNER, 7, 1);
        fault("mile 0 +5 0;" + RUNNER, 7, 1);
    }

    /** "figures, 3 at most"; "a NUMBER of four figures or more, at its first byte". */
    private static void numbersOfThreeFigures() {
        for (String zeros : new String[] {"", "0", "00"}) {
            reads("mile " + zeros + "5 0 0;" + RUNNER, 1);
            reads("mile -" + zeros + "5 0 0;" + RUNNER, 1);
            fault("mile " + zeros + "6 0 0;" + RUNNER, 5, 2);
            fault("mile -" + zeros + "6 0 0;" + RUNNER, 5, 2);
        }
        fault("mile 0005 0 0;" + RUNNER, 5, 1);
        fault("mile -0005 0 0;" + RUNNER, 5, 1);
        fault("mile 0 0 0000;" + RUNNER, 9, 1);
        fault("mile 0 0 999;" + RUNNER, 9, 2);
        fault("mile 0 0 1000;" + RUNNER, 9, 1);
        fault("mile 0 0 -999;" + RUNNER, 9, 2);
        fault("mile 0 0 -1000;" + RUNNER, 9, 1);
        // what would wrap around to 0
        fault("mile 0 0 4294967296;" + RUNNER, 9, 1);
        fault("mile 0 0 18446744073709551616;" + RUNNER, 9, 1);
        fault("mile " + "0".repeat(595), 5, 1);
        fault("mile -" + "0".repeat(594), 5, 1);
        // where one cannot stand at all it is none, too
        fault("1000", 0, 1);
        fault(MILE + RUNNER + "0000;", 25, 1);
    }

    /** "as many as wanted (none is needed where one ends without)". */
    private static void blanksAsManyAsWanted() {
        reads("mile5-0 0;runner20 9 1;when store below5ease1;rabbit20 3 5;", 1);
        reads("mile-5 0 0;runner20 9 1;", 1);
        String wide = " \n".repeat(20);
        reads(wide + "mile" + wide + "0" + wide + "0" + wide + "0" + wide + ";" + wide + RUNNER + wide, 1);
        // where blanks are wanted to part two names, or two numbers
        fault("mile000;" + RUNNER, 7, 1);
        fault(MILE + RUNNER + "whenstore below 5 ease 1;", 25, 1);
        fault(MILE + RUNNER + "when storebelow 5 ease 1;", 30, 1);
        fault("mi le 0 0 0;", 0, 1);
        fault("mile 0 0 0;run ner 20 9 1;", 11, 1);
    }

    /** "mile { mile } runner { runner } { rabbit }": one of each of the first two at least, in this order. */
    private static void atLeastOneMileOneRunner() {
        reads(MILE + RUNNER, 1);
        fault(RUNNER, 0, 1);
        fault(RABBIT, 0, 1);
        fault(RULE, 0, 1);
        fault(MILE, 11, 1);
        fault(MILE + RABBIT, 11, 1);
        fault(MILE + RULE, 11, 1);
        fault(MILE + RUNNER + MILE, 25, 1);
        fault(MILE + RUNNER + RABBIT + MILE, 39, 1);
        fault(MILE + RUNNER + RABBIT + RUNNER, 39, 1);
        fault(MILE + RUNNER + RABBIT + RULE, 39, 1);
        reads(MILE + RUNNER + RABBIT, 1);
        reads(MILE + RUNNER + RULE + RUNNER + RABBIT + RABBIT, 1);
    }

    /** Six rules for each of four runners make 590 bytes; all else that there is room for, 589. */
    private static void allRoomsFull() {
        PaceStore rules = reads("mile0 0 0;" + ("runner10 1 1;" + SHORT_RULE.repeat(6)).repeat(4), 1);
        Checks.due("rules", 24, rules.count(4));
        Checks.due("runners", 4, rules.count(2));
        PaceStore x = reads("mile0 0 0;".repeat(12) + ("runner10 1 1;" + SHORT_RULE.repeat(4)).repeat(4) + "rabbit10 1 1;".repeat(5), 12);
        Checks.due("miles", 12, x.count(1));
        Checks.due("runners", 4, x.count(2));
        Checks.due("rabbits", 5, x.count(3));
        Checks.due("rules", 16, x.count(4));
        Checks.due("the last mile", 20, x.need(11, 20, 0));
        Checks.due("the last runner with the last rabbit", 11 * 1200 + 1090, x.best(3, 16, -1));
        Checks.due("one set beyond all", Checks.BAD, x.best(3, 32, -1));
    }

    /** "3 more of a sort than there is room for (its word)". */
    private static void beyondAllRooms() {
        reads(MILE.repeat(12) + RUNNER, 12);
        fault(MILE.repeat(13) + RUNNER, 132, 3);
        fault(MILE.repeat(12) + "  mile", 134, 3);
        reads(MILE + RUNNER.repeat(4), 1);
        fault(MILE + RUNNER.repeat(5), 67, 3);
        fault(MILE + RUNNER.repeat(4) + "\nrunner", 68, 3);
        reads(MILE + RUNNER + RULE.repeat(6), 1);
        fault(MILE + RUNNER + RULE.repeat(7), 181, 3);
        fault(MILE + RUNNER + RULE.repeat(6) + "when", 181, 3);
        reads(MILE + RUNNER + RABBIT.repeat(5), 1);
        fault(MILE + RUNNER + RABBIT.repeat(6), 95, 3);
        fault(MILE + RUNNER + RABBIT.repeat(5) + "rabbit", 95, 3);
    }

    /** "6 for a RUNNER at most". */
    private static void roomsAreForEachRunner() {
        String six = "runner10 1 1;" + SHORT_RULE.repeat(6);
        reads("mile0 0 0;" + six.repeat(3) + "runner10 1 1;" + SHORT_RULE, 1);
        fault("mile0 0 0;" + six.repeat(3) + SHORT_RULE, 445, 3);
        fault("mile0 0 0;" + "runner10 1 1;" + six + SHORT_RULE, 168, 3);
    }

    /** "of one TOKEN the least": where it cannot stand there, that there is no room is not told, nor that it is not as told. */
    private static void ofOneTokenTheLeast() {
        fault(MILE.repeat(12) + RUNNER + MILE, 146, 1);
        fault(MILE + RUNNER.repeat(4) + RABBIT + RUNNER, 81, 1);
        fault(MILE + RUNNER + RULE.repeat(6) + RABBIT + RULE, 195, 1);
        fault(MILE + RUNNER + RABBIT.repeat(5) + RUNNER, 95, 1);
        fault(MILE + RUNNER + "900;", 25, 1);
        fault("mile 0 0 0 99;", 11, 1);
        fault("mile 9000 0 0;", 5, 1);
    }

    /** "FAULTS, the first TOKEN that has one (its first byte)". */
    private static void theFirstToken() {
        fault("mile 9 q", 5, 2);
        fault("mile q 99", 5, 1);
        fault("mile 0 10 q", 7, 2);
        fault("mile 6 0 0;" + MILE.repeat(12), 5, 2);
        fault(MILE.repeat(12) + "mile 6 0 0;", 132, 3);
        fault(MILE.repeat(11) + "mile 6 0 0;" + MILE, 126, 2);
        fault(MILE + RUNNER + RABBIT.repeat(4) + "rabbit 9 1 1;" + RABBIT, 88, 2);
        fault("  \n mile   -77 q", 11, 2);
    }

    /** "the end: how many bytes there are": wherever a text is cut that is not whole. */
    private static void theEnd() {
        String[] tokens = (MILE.replace(";", " ;") + " " + RUNNER.replace(";", " ;") + " " + RULE.replace(";", " ;") + " "
                + RABBIT.replace(";", " ;")).split(" ");
        StringBuilder text = new StringBuilder();
        for (int k = 0; k < tokens.length; k++) {
            boolean isWhole = k > 5 && tokens[k - 1].equals(";");
            if (isWhole) {
                reads(text.toString(), 1);
            } else {
                fault(text.toString(), text.length(), 1);
                fault(text + " \n ", text.length() + 3, 1);
            }
            text.append(' ').append(tokens[k]);
        }
        reads(text.toString(), 1);
    }

    /** Numbers below 0 are tokens; only hills may be so. */
    private static void negativeNumbers() {
        reads("mile -0 -0 -0;" + RUNNER, 1);
        fault("mile 0 -1 0;" + RUNNER, 7, 2);
        fault("mile 0 0 -1;" + RUNNER, 9, 2);
        fault(MILE + "runner -20 9 1;", 18, 2);
        fault(MILE + "runner 20 -9 1;", 21, 2);
        fault(MILE + "runner 20 9 -1;", 23, 2);
        fault(MILE + RUNNER + "when store below -1 ease 1;", 42, 2);
        fault(MILE + RUNNER + "when store below 1 ease -1;", 49, 2);
        fault(MILE + RUNNER + "rabbit -20 3 5;", 32, 2);
        fault(MILE + RUNNER + "rabbit 20 -3 5;", 35, 2);
        fault(MILE + RUNNER + "rabbit 20 3 -5;", 37, 2);
    }

    private static void edgesAreTakenAsTold() {
        Checks.due("hill -5", 15, reads("mile -5 0 0;" + RUNNER, 1).need(0, 20, 0));
        Checks.due("hill 5", 25, reads("mile 5 0 0;" + RUNNER, 1).need(0, 20, 0));
        Checks.due("heat 9", 24, reads("mile 0 9 0;" + RUNNER, 1).need(0, 20, 0));
        Checks.due("wind 9", 24, reads("mile 0 0 9;" + RUNNER, 1).need(0, 20, 0));
        Checks.due("a hill of -005", 15, reads("mile -005 0 0;" + RUNNER, 1).need(0, 20, 0));
        // 11 by line 10 and a store of 1; 39 by line 30 and a store of 99
        Checks.due("runner 10 1 1", 1090, reads(MILE + "runner 10 1 1;", 1).best(0, 0, -1));
        Checks.due("runner 30 99 9", 307, reads(MILE + "runner 30 99 9;", 1).best(0, 0, -1));
        PaceStore x = reads(MILE + RUNNER + "rabbit 10 1 0;rabbit 40 12 99;", 1);
        Checks.due("rabbit 10 1 0", 1200, x.stays(0, 0));
        Checks.due("rabbit 40 12 99", Checks.NONE, x.stays(0, 1));
    }

    /** "A COURSE that is read stands in place of the one before (none at first): no RACE; IMAGES stay." */
    private static void inPlaceOfTheOneBefore() {
        PaceStore x = new PaceStore();
        Checks.due("none at first", Checks.STATE, x.image(0));
        Checks.read(x, "mile 3 0 0;" + MILE + RUNNER + RULE + RUNNER + RULE + RULE + RABBIT + RABBIT);
        Checks.sheet(x, 0, 20, 21);
        x.race(0, 0, 0);
        x.image(0);
        x.ask(0, 0, 0);
        int traced = x.trace(0);
        x.drop(5);
        Checks.due("the same text but for its rules", 1, Checks.read(x, MILE + RUNNER));
        Checks.due("miles", 1, x.count(1));
        Checks.due("runners", 1, x.count(2));
        Checks.due("rabbits", 0, x.count(3));
        Checks.due("rules", 0, x.count(4));
        Checks.due("races", 0, x.count(6));
        Checks.due("need", 20, x.need(0, 20, 0));
        Checks.due("ran", Checks.STATE, x.ran(0, 0, 0));
        Checks.due("ran of one who was", Checks.BAD, x.ran(1, 0, 0));
        Checks.due("sheets stay", 1, x.count(0));
        Checks.due("status() stays", 1, x.status());
        Checks.due("THE TRACE stays", traced, x.trace(0));
        Checks.due("one with as many is another", 1, Checks.read(x, MILE + RUNNER));
        Checks.due("the image stays", 1, x.restore(0));
        Checks.due("need", 23, x.need(0, 20, 0));
        Checks.due("ran", 20, x.ran(0, 0, 1));
        Checks.due("rules", 3, x.count(4));
        Checks.due("rabbits", 2, x.count(3));
    }

    /** "The number of the latest FAULT; 0 before one." */
    private static void faultIsTheLatest() {
        PaceStore x = new PaceStore();
        Checks.due("before one", 0, x.fault());
        Checks.read(x, MILE + RUNNER);
        Checks.due("still before one", 0, x.fault());
        x.feed(0, 9);
        Checks.due("a refused feed is none", 0, x.fault());
        Checks.read(x, MILE + RUNNER.repeat(5));
        Checks.due("3", 3, x.fault());
        Checks.read(x, MILE + RUNNER);
        Checks.due("behind a course that is read", 3, x.fault());
        Checks.read(x, "mile 6");
        Checks.due("2", 2, x.fault());
        x.course();
        Checks.due("1", 1, x.fault());
        x.image(0);
        x.restore(0);
        Checks.due("behind an image", 1, x.fault());
    }

    /** "How many": at none, at one, and with all that there is room for. */
    private static void countsFromNoneToFull() {
        PaceStore x = new PaceStore();
        for (int what = 0; what <= 6; what++) {
            Checks.due("count(" + what + ") of nothing", 0, x.count(what));
        }
        Checks.due("count(-1)", Checks.BAD, x.count(-1));
        Checks.due("count(7)", Checks.BAD, x.count(7));
        for (int n = 1; n <= 12; n++) {
            Checks.read(x, MILE.repeat(n) + RUNNER);
            Checks.due("miles", n, x.count(1));
        }
        x = new PaceStore();
        for (int n = 1; n <= 4; n++) {
            Checks.read(x, MILE + RUNNER.repeat(n));
            Checks.due("runners", n, x.count(2));
        }
        for (int n = 0; n <= 5; n++) {
            Checks.read(x, MILE + RUNNER + RABBIT.repeat(n));
            Checks.due("rabbits", n, x.count(3));
        }
        x = new PaceStore();
        for (int n = 0; n <= 6; n++) {
            Checks.read(x, MILE + RUNNER + RULE.repeat(n) + RUNNER + RULE.repeat(6 - n) + RUNNER);
            Checks.due("rules of all", 6, x.count(4));
            Checks.read(x, MILE + RUNNER + RULE.repeat(n));
            Checks.due("rules", n, x.count(4));
        }
    }
}
