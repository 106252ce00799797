/** Promises 1 to 5, 30 and 31: a new object, the sheets, and status() over all calls with a sheet. */
public final class SheetsTest {
    private static final int NULL = Checks.NULL, PLACE = Checks.PLACE, SIZE = Checks.SIZE, STORE = Checks.STORE;
    private static final int BAD = Checks.BAD, STATE = Checks.STATE, MOST = Integer.MAX_VALUE, LEAST = Integer.MIN_VALUE;

    public static void main(String[] args) {
        newObject();
        sheets();
        lanes();
        copies();
        drops();
        statusOfOtherCalls();
        Checks.end();
    }

    private static void newObject() {
        PaceStore x = new PaceStore();
        for (int what = 0; what <= 6; what++) {
            Checks.due("new: count(" + what + ")", 0, x.count(what));
        }
        Checks.due("count(7)", BAD, x.count(7));
        Checks.due("count(-1)", BAD, x.count(-1));
        Checks.due("new: status()", 0, x.status());
        Checks.due("new: fault()", 0, x.fault());
        Checks.due("new: trace(0)", Checks.NONE, x.trace(0));
        Checks.due("new: image(0)", STATE, x.image(0));
        Checks.due("new: restore(1)", STATE, x.restore(1));
    }

    private static void sheets() {
        PaceStore x = new PaceStore();
        Checks.due("sheet(-1, 0, 1)", BAD, x.sheet(-1, 0, 1));
        Checks.due("sheet(8, 0, 1)", BAD, x.sheet(8, 0, 1));
        Checks.due("sheet(0, -1, 1)", BAD, x.sheet(0, -1, 1));
        Checks.due("sheet(0, 3, 1)", BAD, x.sheet(0, 3, 1));
        Checks.due("sheet(0, 0, 41)", BAD, x.sheet(0, 0, 41));
        Checks.due("sheet(0, 3, -1)", BAD, x.sheet(0, 3, -1));
        Checks.due("sheet(0, 0, LEAST)", SIZE, x.sheet(0, 0, LEAST));
        Checks.due("status of SIZE", 4, x.status());
        Checks.due("no sheet", 0, x.count(0));
        Checks.due("sheet(7, 2, 40)", 40, x.sheet(7, 2, 40));
        Checks.due("status of none", 0, x.status());
        Checks.due("sheet(0, 0, 0)", 0, x.sheet(0, 0, 0));
        Checks.due("two sheets", 2, x.count(0));
        Checks.due("an empty one has no place", PLACE, x.set(0, 0, 1));
        Checks.due("set 39", 5, x.set(7, 39, 5));
        Checks.due("sheet anew, SIZE", SIZE, x.sheet(7, 2, -1));
        Checks.due("sheet(1, 2, 40)", 40, x.sheet(1, 2, 40));
        Checks.due("copy of what stayed", 40, x.copy(7, 0, 1, 0, 40));
        Checks.due("sheet(7, 2, 40) anew", 40, x.sheet(7, 2, 40));
        Checks.due("two and one", 3, x.count(0));
        sameItems(x, 7, new int[40]);
    }

    private static void lanes() {
        PaceStore x = new PaceStore();
        x.sheet(0, 0, 3);
        x.sheet(1, 1, 3);
        x.sheet(2, 2, 3);
        Checks.due("byte 127", 127, x.set(0, 0, 127));
        Checks.due("byte 128", -128, x.set(0, 0, 128));
        Checks.due("byte 256", 0, x.set(0, 0, 256));
        Checks.due("byte -129", 127, x.set(0, 0, -129));
        Checks.due("short 32768", -32768, x.set(1, 2, 32768));
        Checks.due("short 65535", -1, x.set(1, 2, 65535));
        Checks.due("short 40000", 40000 - 65536, x.set(1, 2, 40000));
        Checks.due("int LEAST", LEAST, x.set(2, 1, LEAST));
        Checks.due("set(-1, 0, 0)", BAD, x.set(-1, 0, 0));
        Checks.due("set(8, 0, 0)", BAD, x.set(8, 0, 0));
        Checks.due("set(3, 99, 0)", NULL, x.set(3, 99, 0));
        Checks.due("status of NULL", 1, x.status());
        Checks.due("set(0, 3, 0)", PLACE, x.set(0, 3, 0));
        Checks.due("status of PLACE", 2, x.status());
        Checks.due("set(0, -1, 0)", PLACE, x.set(0, -1, 0));
        Checks.due("set(0, MOST, 0)", PLACE, x.set(0, MOST, 0));
        Checks.due("set(0, LEAST, 0)", PLACE, x.set(0, LEAST, 0));
        Checks.due("BAD leaves status", BAD, x.set(8, 0, 0));
        Checks.due("status after BAD", 2, x.status());
        Checks.due("set(0, 2, 7)", 7, x.set(0, 2, 7));
        Checks.due("status of none", 0, x.status());
    }

    private static void copies() {
        PaceStore x = new PaceStore();
        Checks.sheet(x, 0, 1, 2, 3, 4, 5);
        Checks.due("within one, forward", 4, x.copy(0, 0, 0, 1, 4));
        sameItems(x, 0, 1, 1, 2, 3, 4);
        Checks.due("within one, backward", 4, x.copy(0, 1, 0, 0, 4));
        sameItems(x, 0, 1, 2, 3, 4, 4);
        x.sheet(1, 1, 5);
        x.sheet(2, 2, 3);
        Checks.due("copy(-1..)", BAD, x.copy(-1, 0, 0, 0, 0));
        Checks.due("copy(8..)", BAD, x.copy(8, 0, 0, 0, 0));
        Checks.due("copy(..8..)", BAD, x.copy(0, 0, 8, 0, 0));
        Checks.due("copy(..-1..)", BAD, x.copy(0, 0, -1, 0, 0));
        Checks.due("copy of the last ones", NULL, x.copy(0, 0, 7, 0, 0));
        Checks.due("copy of the last ones", NULL, x.copy(7, 0, 0, 0, 0));
        Checks.due("NULL ahead of STORE, PLACE", NULL, x.copy(1, -1, 3, 0, 9));
        Checks.due("NULL of a", NULL, x.copy(3, 0, 0, 0, 0));
        Checks.due("STORE ahead of PLACE", STORE, x.copy(0, 99, 1, 0, 1));
        Checks.due("status of STORE", 5, x.status());
        Checks.due("i below 0", PLACE, x.copy(0, -1, 2, 0, 1));
        Checks.due("j below 0", PLACE, x.copy(0, 0, 2, -1, 1));
        Checks.due("n below 0", PLACE, x.copy(0, 0, 2, 0, -1));
        Checks.due("a's end", PLACE, x.copy(0, 3, 2, 0, 3));
        Checks.due("b's end", PLACE, x.copy(0, 0, 2, 1, 3));
        Checks.due("far beyond", PLACE, x.copy(0, MOST, 2, MOST, MOST));
        Checks.due("none, at the ends", 0, x.copy(0, 5, 2, 3, 0));
        Checks.due("none, beyond an end", PLACE, x.copy(0, 6, 2, 0, 0));
        Checks.due("up to the ends", 3, x.copy(0, 2, 2, 0, 3));
        sameItems(x, 2, 3, 4, 4);
        sameItems(x, 0, 1, 2, 3, 4, 4);
    }

    /** Items are seen by races alone: each is set as the pace of a runner, or of PARTS. */
    private static void sameItems(PaceStore x, int sheet, int... want) {
        for (int i = 0; i < want.length; i++) {
            Checks.due("item " + i, want[i], itemBySplit(x, sheet, i));
        }
    }

    /** Reads an item by PARTS: 8 zeros and 8 of the item, so that help 3 takes the item on. */
    private static int itemBySplit(PaceStore x, int sheet, int i) {
        Checks.due("a sheet to read by", 16, x.sheet(6, 2, 16));
        for (int k = 8; k < 16; k++) {
            Checks.due("an item to read", 1, x.copy(sheet, i, 6, k, 1));
        }
        return -x.parts(6, 0, 3, 0);
    }

    private static void drops() {
        PaceStore x = new PaceStore();
        Checks.due("drop(-1)", BAD, x.drop(-1));
        Checks.due("drop(8)", BAD, x.drop(8));
        Checks.due("drop(0)", NULL, x.drop(0));
        Checks.due("drop(7)", NULL, x.drop(7));
        Checks.sheet(x, 0, 1, 2, 3);
        Checks.due("drop(0)", 3, x.drop(0));
        Checks.due("gone", 0, x.count(0));
        Checks.due("set gone", NULL, x.set(0, 0, 0));
        Checks.due("drop again", NULL, x.drop(0));
        Checks.due("status", 1, x.status());
        Checks.due("an empty one", 0, x.sheet(5, 1, 0));
        Checks.due("drop(5)", 0, x.drop(5));
        Checks.due("status", 0, x.status());
    }

    private static void statusOfOtherCalls() {
        PaceStore x = new PaceStore();
        x.drop(0);
        Checks.due("race, STATE", STATE, x.race(0, 0, 0));
        Checks.due("line, STATE", STATE, x.line(0, 0, 0));
        Checks.due("status after STATE", 1, x.status());
        Checks.read(x, "mile 0 0 0; runner 20 9 1;");
        Checks.due("status after course()", 1, x.status());
        Checks.sheet(x, 0, 9);
        Checks.due("race, PLACE", PLACE, x.race(0, 1, 0));
        Checks.due("race, then BAD", BAD, x.race(0, 0, 0));
        Checks.due("status after BAD", 2, x.status());
        Checks.due("line, NONE", Checks.NONE, x.line(0, 0, 0));
        Checks.due("status after NONE", 0, x.status());
        Checks.due("line, NULL", NULL, x.line(0, 1, 0));
        Checks.due("status", 1, x.status());
        Checks.due("hour, PLACE", PLACE, x.hour(0, 0, 0, 1, 0));
        Checks.due("status", 2, x.status());
        Checks.due("parts, NULL", NULL, x.parts(1, 0, 0, 0));
        Checks.due("status", 1, x.status());
        x.set(0, 0, 20);
        x.drop(7);
        Checks.due("race", 0, x.race(0, 0, 0));
        Checks.due("status", 0, x.status());
        Checks.due("as, KIND", Checks.KIND, x.as(0, 0, 2));
        Checks.due("status", 3, x.status());
        Checks.due("ask", 600 - 9, x.ask(0, 0, 0));
        Checks.due("status after ask", 3, x.status());
        Checks.due("as, BAD", BAD, x.as(0, 0, 6));
        Checks.due("status after BAD", 3, x.status());
        Checks.due("as", 600, x.as(0, 0, 1));
        Checks.due("status", 0, x.status());
    }
}
