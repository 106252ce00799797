import java.util.ArrayList;
import java.util.List;
import java.util.Random;
import java.util.regex.Matcher;
import java.util.regex.Pattern;

/**
 * Promises 6 to 8 over many drawn texts, most of them spoilt, against a second reader of them: all tokens first, by
 * a pattern, then statement by statement along a table of what each wants. It shares nothing with the class.
 */
public final class TextOracleTest {
    private static final Random DRAW = new Random(31);

    /** A name, a number, a semicolon; blanks; a number that is too long; any other byte. */
    private static final Pattern TOKEN =
            Pattern.compile("([a-z]+)|(-?[0-9]{1,3}(?![0-9]))|(;)|([ \n]+)|-?[0-9]+|[\\x00-\\xff]");

    private static final String[] WORDS = {"mile", "runner", "when", "rabbit"};
    /** What follows each word: words of which one may stand, or the least and the greatest number. */
    private static final String[][] WANTED = {
        {"-5 5", "0 9", "0 9", ";"},
        {"10 30", "1 99", "1 9", ";"},
        {"store|behind|mile", "below|above", "0 999", "push|ease", "1 9", ";"},
        {"10 40", "1 12", "0 99", ";"},
    };
    private static final int[] ROOM = {12, 4, 6, 5};
    private static final int MILE = 0, RUNNER = 1, RULE = 2, RABBIT = 3;

    private static final String[] SPOILERS = {
        "mile", "runner", "rabbit", "when", ";", "-", "0", "9", " ", "\n", "a", "store", "below", "push", "1234", "-7", "$",
        "\u00ff", "\u0000", "\t", "\r", "A", "+", "-0", "007", "0000",
        "mile 0 0 0;", "runner 20 9 1;", "when mile above 0 ease 1;",
    };

    private record Token(int at, char sort, String text) {
    }

    private final List<Token> tokens = new ArrayList<>();
    private final List<Integer> needs = new ArrayList<>();
    private final int[] seen = new int[4];
    private int next;
    private int rules;
    /** 0: none yet. */
    private int fault;

    private static final int[] faultsMet = new int[4];

    private TextOracleTest(String text) {
        Matcher m = TOKEN.matcher(text);
        while (m.find()) {
            if (m.group(4) == null) {
                char sort = m.group(1) != null ? 'n' : m.group(2) != null ? '0' : m.group(3) != null ? ';' : '?';
                tokens.add(new Token(m.start(), sort, m.group()));
            }
        }
        tokens.add(new Token(text.length(), '.', ""));
        while (fault == 0 && !(tokens.get(next).sort == '.' && seen[RUNNER] > 0)) {
            readStatement();
        }
    }

    private boolean mayBegin(int statement) {
        switch (statement) {
            case MILE: return seen[RUNNER] == 0;
            case RUNNER: return seen[MILE] > 0 && seen[RABBIT] == 0;
            case RULE: return seen[RUNNER] > 0 && seen[RABBIT] == 0;
            default: return seen[RUNNER] > 0;
        }
    }

    private void readStatement() {
        int statement = List.of(WORDS).indexOf(tokens.get(next).text);
        if (statement < 0 || !mayBegin(statement)) {
            fault = 1;
        } else if (seen[statement] == ROOM[statement]) {
            fault = 3;
        } else {
            next++;
            readRest(statement);
        }
    }

    private void readRest(int statement) {
        List<Integer> numbers = new ArrayList<>();
        for (String wanted : WANTED[statement]) {
            Token token = tokens.get(next);
            fault = faultOf(token, wanted);
            if (fault != 0) {
                return;
            }
            if (token.sort == '0') {
                numbers.add(Integer.parseInt(token.text));
            }
            next++;
        }
        seen[statement]++;
        if (statement == RULE) {
            rules++;
        } else if (statement == RUNNER) {
            seen[RULE] = 0;
        } else if (statement == MILE) {
            needs.add(20 + numbers.get(0) + numbers.get(1) / 2);
            needs.add(20 + numbers.get(0) + numbers.get(1) / 2 + numbers.get(2) / 2);
        }
    }

    private static int faultOf(Token token, String wanted) {
        if (!wanted.contains(" ")) {
            return List.of(wanted.split("\\|")).contains(token.text) ? 0 : 1;
        }
        if (token.sort != '0') {
            return 1;
        }
        String[] edges = wanted.split(" ");
        int v = Integer.parseInt(token.text);
        return v >= Integer.parseInt(edges[0]) && v <= Integer.parseInt(edges[1]) ? 0 : 2;
    }

    private void check(PaceStore x, String text, int faultBefore) {
        String told = "of " + text.replace("\n", "\\n");
        Checks.due("bytes " + told, text.length(), x.count(5));
        Checks.due("course() " + told, fault == 0 ? seen[MILE] : -1000100 - tokens.get(next).at, x.course());
        Checks.due("fault() " + told, fault == 0 ? faultBefore : fault, x.fault());
        Checks.due("bytes behind " + told, 0, x.count(5));
        if (fault == 0) {
            Checks.due("miles " + told, seen[MILE], x.count(1));
            Checks.due("runners " + told, seen[RUNNER], x.count(2));
            Checks.due("rabbits " + told, seen[RABBIT], x.count(3));
            Checks.due("rules " + told, rules, x.count(4));
            for (int i = 0; i < needs.size(); i++) {
                Checks.due("need " + i + " " + told, needs.get(i), x.need(i / 2, 20, 1 - i % 2));
            }
        }
    }

    private static int between(int low, int high) {
        return low + DRAW.nextInt(high - low + 1);
    }

    private static String someBlanks(int least) {
        StringBuilder s = new StringBuilder();
        for (int n = least + (DRAW.nextInt(4) == 0 ? DRAW.nextInt(3) : 0); n > 0; n--) {
            s.append(DRAW.nextInt(4) == 0 ? '\n' : ' ');
        }
        return s.toString();
    }

    /** As told, often at an edge, and once in a while the first one beyond it. */
    private static int number(String[] edges) {
        int low = Integer.parseInt(edges[0]);
        int high = Integer.parseInt(edges[1]);
        int beyond = DRAW.nextInt(25) == 0 ? 1 : 0;
        switch (DRAW.nextInt(8)) {
            case 0: return low - beyond;
            case 1: return high + beyond;
            default: return between(low, high);
        }
    }

    private static String statement(int which) {
        StringBuilder s = new StringBuilder(someBlanks(0)).append(WORDS[which]);
        for (String wanted : WANTED[which]) {
            s.append(someBlanks(wanted.equals(";") ? 0 : 1));
            if (wanted.contains(" ")) {
                s.append(number(wanted.split(" ")));
            } else {
                String[] words = wanted.split("\\|");
                s.append(words[DRAW.nextInt(words.length)]);
            }
        }
        return s.append(someBlanks(0)).toString();
    }

    /** How many of a sort: once in a while as many as there is room for, or one more. */
    private static int howMany(int which, int least) {
        return DRAW.nextInt(9) == 0 ? ROOM[which] + DRAW.nextInt(2) : between(least, 3);
    }

    private static String drawnText() {
        StringBuilder s = new StringBuilder();
        for (int n = howMany(MILE, 1); n > 0; n--) {
            s.append(statement(MILE));
        }
        for (int n = howMany(RUNNER, 1); n > 0; n--) {
            s.append(statement(RUNNER));
            for (int k = DRAW.nextInt(3) == 0 ? howMany(RULE, 0) : 0; k > 0; k--) {
                s.append(statement(RULE));
            }
        }
        for (int n = howMany(RABBIT, 0); n > 0; n--) {
            s.append(statement(RABBIT));
        }
        return s.toString();
    }

    private static String spoilt(String text) {
        String s = text;
        for (int n = DRAW.nextInt(4); n > 0; n--) {
            int at = DRAW.nextInt(s.length() + 1);
            int end = Math.min(s.length(), at + DRAW.nextInt(4));
            String put = DRAW.nextInt(3) == 0 ? "" : SPOILERS[DRAW.nextInt(SPOILERS.length)];
            s = DRAW.nextInt(20) == 0 ? s.substring(0, at) : s.substring(0, at) + put + s.substring(end);
        }
        return s.length() > 600 ? s.substring(0, 600) : s;
    }

    public static void main(String[] args) {
        for (int round = 0; round < 8000; round++) {
            PaceStore x = new PaceStore();
            int fault = 0;
            for (int n = 0; n < 3; n++) {
                String text = spoilt(drawnText());
                TextOracleTest reader = new TextOracleTest(text);
                Checks.feed(x, text);
                reader.check(x, text, fault);
                fault = reader.fault == 0 ? fault : reader.fault;
                faultsMet[reader.fault]++;
            }
        }
        for (int met : faultsMet) {
            Checks.due("texts of each fault, and of none, at least 200", 1, met >= 200 ? 1 : 0);
        }
        Checks.end();
    }
}
