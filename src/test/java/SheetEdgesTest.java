/** Section 1 and promises 1 to 5, 31: each sentence about sheets that names an edge, and a test of its own. */
public final class SheetEdgesTest {
    private static final int NULL = Checks.NULL, PLACE = Checks.PLACE, SIZE = Checks.SIZE, STORE = Checks.STORE;
    private static final int BAD = Checks.BAD, MOST = Integer.MAX_VALUE, LEAST = Integer.MIN_VALUE;
    private static final int READING = 7;

    public static void main(String[] args) {
        sheetsAreMissingAtFirst();
        zeroToFortyItems();
        itemsAreZeroAtFirst();
        inPlaceOfWhatIsThere();
        cutToBytes();
        cutToShorts();
        intsAreNotCut();
        cutItemsAreReadWithTheirSign();
        placesOfOneOfTheLastAndOfNone();
        copiesOfAllFortyAndOfNone();
        copiesAsTheyWereAhead();
        droppedSheets();
        allEightSheets();
        statusOfEachSheetCall();
        Checks.end();
    }

    /** An item of 0 to 99999, by PARTS: 8 zeros, then 8 of the item. */
    private static int itemOf(PaceStore x, int sheet, int lane, int i) {
        x.sheet(READING, lane, 16);
        for (int k = 8; k < 16; k++) {
            Checks.due("an item to read", 1, x.copy(sheet, i, READING, k, 1));
        }
        return -x.parts(READING, 0, 3, 0);
    }

    /** "SHEETS 0 .. 7 are missing (at first)". */
    private static void sheetsAreMissingAtFirst() {
        PaceStore x = new PaceStore();
        Checks.due("no sheet", 0, x.count(0));
        for (int s = 0; s < 8; s++) {
            Checks.due("drop", NULL, x.drop(s));
            Checks.due("status()", 1, x.status());
            Checks.due("set", NULL, x.set(s, 0, 0));
            Checks.due("copy from it", NULL, x.copy(s, 0, (s + 1) % 8, 0, 0));
            Checks.due("parts", NULL, x.parts(s, 0, 0, 0));
        }
        Checks.due("sheet -1", BAD, x.drop(-1));
        Checks.due("sheet 8", BAD, x.drop(8));
    }

    /** "have a LANE (0 bytes, 1 shorts, 2 ints) and 0 to 40 ITEMS". */
    private static void zeroToFortyItems() {
        for (int lane = 0; lane <= 2; lane++) {
            PaceStore x = new PaceStore();
            Checks.due("sheet(.., 0)", 0, x.sheet(0, lane, 0));
            Checks.due("one without items is there", 1, x.count(0));
            Checks.due("sheet(.., 40)", 40, x.sheet(1, lane, 40));
            Checks.due("sheet(.., 41)", BAD, x.sheet(1, lane, 41));
            Checks.due("its last item stays", 9, x.set(1, 39, 9));
            Checks.due("sheet(.., -1)", SIZE, x.sheet(1, lane, -1));
            Checks.due("status()", 4, x.status());
            Checks.due("its last item stays", 9, itemOf(x, 1, lane, 39));
            Checks.due("none beyond", PLACE, x.set(1, 40, 9));
            Checks.due("of one without", PLACE, x.set(0, 0, 9));
            Checks.due("how many it had", 40, x.drop(1));
            Checks.due("how many it had", 0, x.drop(0));
        }
    }

    /** "0 at first". */
    private static void itemsAreZeroAtFirst() {
        for (int lane = 0; lane <= 2; lane++) {
            PaceStore x = new PaceStore();
            x.sheet(0, lane, 40);
            for (int i = 0; i < 40; i++) {
                Checks.due("item " + i + " of lane " + lane, 0, itemOf(x, 0, lane, i));
            }
        }
    }

    /** "in place of what is there": another lane, fewer and more items, all 0 again. */
    private static void inPlaceOfWhatIsThere() {
        PaceStore x = new PaceStore();
        x.sheet(0, 2, 40);
        x.set(0, 0, 5);
        x.set(0, 39, 6);
        Checks.due("one of bytes", 3, x.sheet(0, 0, 3));
        Checks.due("only one sheet", 1, x.count(0));
        Checks.due("fewer places", PLACE, x.set(0, 3, 1));
        Checks.due("bytes", -1, x.set(0, 2, 255));
        Checks.due("0 again", 0, itemOf(x, 0, 0, 0));
        Checks.due("one of shorts", 40, x.sheet(0, 1, 40));
        Checks.due("0 again", 0, itemOf(x, 0, 1, 2));
        Checks.due("0 again, the last", 0, itemOf(x, 0, 1, 39));
        Checks.due("shorts", 255, x.set(0, 2, 255));
    }

    private static void cut(int lane, int[] values, int[] wanted) {
        PaceStore x = new PaceStore();
        x.sheet(3, lane, 40);
        for (int k = 0; k < values.length; k++) {
            Checks.due("set " + values[k] + " in lane " + lane, wanted[k], x.set(3, 39, values[k]));
            Checks.due("status()", 0, x.status());
        }
    }

    /** "its lowest bits, as many as the LANE has (read with their sign)". */
    private static void cutToBytes() {
        cut(0, new int[] {0, 1, 127, 128, 129, 255, 256, 257, 383, 384}, new int[] {0, 1, 127, -128, -127, -1, 0, 1, 127, -128});
        cut(0, new int[] {-1, -127, -128, -129, -256, -257}, new int[] {-1, -127, -128, 127, 0, -1});
        cut(0, new int[] {MOST, LEAST, 32767, 32768, 65536, 1000000}, new int[] {-1, 0, -1, 0, 0, 64});
    }

    private static void cutToShorts() {
        cut(1, new int[] {0, 127, 128, 255, 32767, 32768, 65535, 65536, 65537}, new int[] {0, 127, 128, 255, 32767, -32768, -1, 0, 1});
        cut(1, new int[] {-1, -129, -32768, -32769, -65536, -65537}, new int[] {-1, -129, -32768, 32767, 0, -1});
        cut(1, new int[] {MOST, LEAST, 98304, 1000000}, new int[] {-1, 0, -32768, 16960});
    }

    private static void intsAreNotCut() {
        int[] values = {0, -1, 128, 32768, 65536, -65537, MOST, LEAST, MOST - 1, LEAST + 1};
        cut(2, values, values);
    }

    /** The item is what was answered, not what was told: by what races and PARTS take of it. */
    private static void cutItemsAreReadWithTheirSign() {
        PaceStore x = Checks.on("mile 0 0 0; runner 20 9 1;");
        x.sheet(0, 0, 1);
        x.set(0, 0, 256 + 10);
        Checks.due("a byte of 266 is 10", 0, x.race(0, 0, 0));
        Checks.due("its pace", 10, x.ran(0, 0, 1));
        x.set(0, 0, 256 - 20);
        Checks.due("a byte of 236 is -20", BAD, x.race(0, 0, 0));
        x.sheet(1, 1, 1);
        x.set(1, 0, 65536 + 40);
        Checks.due("a short of 65576 is 40", 0, x.race(1, 0, 0));
        Checks.due("its pace", 40, x.ran(0, 0, 1));
        x.set(1, 0, 256 + 10);
        Checks.due("a short of 266 is 266", BAD, x.race(1, 0, 0));
        x.sheet(2, 2, 1);
        x.set(2, 0, 65536 + 40);
        Checks.due("an int of 65576 is 65576", BAD, x.race(2, 0, 0));
        x.sheet(3, 1, 16);
        x.set(3, 0, 32767);
        Checks.due("32767 is a time", 32767, 4 * x.parts(3, 0, 0, 0) / x.parts(3, 0, 0, 1));
        x.set(3, 0, 32768);
        Checks.due("a short of 32768 is below 0", BAD, x.parts(3, 0, 0, 0));
        x.sheet(4, 0, 16);
        x.set(4, 15, 128);
        Checks.due("a byte of 128 is below 0", BAD, x.parts(4, 0, 0, 0));
        x.set(4, 15, 127);
        Checks.due("127 is a time", -127, 4 * x.parts(4, 0, 0, 0) / x.parts(4, 0, 0, 1));
    }

    /** "PLACE (no such place of a SHEET)". */
    private static void placesOfOneOfTheLastAndOfNone() {
        for (int n : new int[] {0, 1, 2, 39, 40}) {
            PaceStore x = new PaceStore();
            x.sheet(0, 2, n);
            for (int i : new int[] {LEAST, -40, -1, n, n + 1, 40, 41, MOST}) {
                Checks.due("set(0, " + i + ") of " + n, PLACE, x.set(0, i, 7));
                Checks.due("status()", 2, x.status());
            }
            if (n > 0) {
                Checks.due("the first", 7, x.set(0, 0, 7));
                Checks.due("status()", 0, x.status());
                Checks.due("the last", 8, x.set(0, n - 1, 8));
                Checks.due("the last is", 8, itemOf(x, 0, 2, n - 1));
            }
        }
    }

    private static void copiesOfAllFortyAndOfNone() {
        PaceStore x = new PaceStore();
        x.sheet(0, 2, 40);
        x.sheet(1, 2, 40);
        for (int i = 0; i < 40; i++) {
            x.set(0, i, i + 1);
        }
        Checks.due("all", 40, x.copy(0, 0, 1, 0, 40));
        Checks.due("the first", 1, itemOf(x, 1, 2, 0));
        Checks.due("the last", 40, itemOf(x, 1, 2, 39));
        Checks.due("one more", PLACE, x.copy(0, 0, 1, 0, 41));
        Checks.due("all, from 1 on", PLACE, x.copy(0, 1, 1, 0, 40));
        Checks.due("all, to 1 on", PLACE, x.copy(0, 0, 1, 1, 40));
        Checks.due("the last to the first", 1, x.copy(0, 39, 1, 0, 1));
        Checks.due("the first", 40, itemOf(x, 1, 2, 0));
        Checks.due("the second stays", 2, itemOf(x, 1, 2, 1));
        Checks.due("the first to the last", 1, x.copy(0, 0, 1, 39, 1));
        Checks.due("the last", 1, itemOf(x, 1, 2, 39));
        Checks.due("the one ahead stays", 39, itemOf(x, 1, 2, 38));
        Checks.due("none, at both ends", 0, x.copy(0, 40, 1, 40, 0));
        Checks.due("status()", 0, x.status());
        Checks.due("none, beyond an end", PLACE, x.copy(0, 41, 1, 40, 0));
        Checks.due("none, beyond an end", PLACE, x.copy(0, 40, 1, 41, 0));
        Checks.due("sums that wrap around", PLACE, x.copy(0, MOST, 1, 0, 2));
        Checks.due("sums that wrap around", PLACE, x.copy(0, 0, 1, MOST, 2));
        Checks.due("sums that wrap around", PLACE, x.copy(0, 2, 1, 2, MOST));
        Checks.due("all below 0", PLACE, x.copy(0, LEAST, 1, LEAST, LEAST));
        Checks.due("-1 and a sum within", PLACE, x.copy(0, 5, 1, 5, -1));
    }

    /** "as they were ahead": within one sheet, up, down, and in place. */
    private static void copiesAsTheyWereAhead() {
        for (int by = -3; by <= 3; by++) {
            PaceStore x = new PaceStore();
            x.sheet(0, 1, 12);
            for (int i = 0; i < 12; i++) {
                x.set(0, i, 100 + i);
            }
            Checks.due("copy within", 6, x.copy(0, 3, 0, 3 + by, 6));
            for (int i = 0; i < 12; i++) {
                boolean isCopied = i >= 3 + by && i < 9 + by;
                Checks.due("item " + i + " behind a copy by " + by, isCopied ? 100 + i - by : 100 + i, itemOf(x, 0, 1, i));
            }
        }
    }

    /** "A SHEET is missing from now on: how many ITEMS it had." */
    private static void droppedSheets() {
        PaceStore x = new PaceStore();
        for (int n : new int[] {0, 1, 40}) {
            x.sheet(4, 2, n);
            Checks.due("drop", n, x.drop(4));
            Checks.due("status()", 0, x.status());
            Checks.due("drop again", NULL, x.drop(4));
            Checks.due("status()", 1, x.status());
            Checks.due("no sheet", 0, x.count(0));
        }
        x.sheet(4, 2, 2);
        x.set(4, 1, 77);
        x.drop(4);
        Checks.due("made anew", 2, x.sheet(4, 2, 2));
        Checks.due("0 at first", 0, itemOf(x, 4, 2, 1));
    }

    private static void allEightSheets() {
        PaceStore x = new PaceStore();
        for (int s = 0; s < 8; s++) {
            Checks.due("sheet " + s, 40, x.sheet(s, s % 3, 40));
            Checks.due("sheets", s + 1, x.count(0));
        }
        for (int s = 0; s < 8; s++) {
            Checks.due("its own item", s, x.set(s, 39, s));
        }
        for (int s = 7; s >= 0; s--) {
            Checks.due("lanes of " + s + " and 0", s % 3 == 0 ? 1 : STORE, x.copy(s, 39, 0, s, 1));
        }
        Checks.due("of sheet 3", 3, itemOf(x, 0, 0, 3));
        Checks.due("of sheet 6", 6, itemOf(x, 0, 0, 6));
        for (int s = 0; s < 8; s++) {
            x.drop(s);
            Checks.due("sheets", 7 - s, x.count(0));
        }
    }

    /** "Of the latest call with a SHEET .. the number of its FINDING; 0: it had none, or there was none." */
    private static void statusOfEachSheetCall() {
        PaceStore x = new PaceStore();
        Checks.due("there was none", 0, x.status());
        Checks.due("BAD", BAD, x.sheet(8, 0, 0));
        Checks.due("still none", 0, x.status());
        x.sheet(0, 0, -1);
        Checks.due("SIZE", 4, x.status());
        x.sheet(0, 0, 41);
        Checks.due("BAD leaves it", 4, x.status());
        x.sheet(0, 0, 1);
        Checks.due("none", 0, x.status());
        x.sheet(1, 1, 1);
        x.copy(0, 0, 1, 0, 1);
        Checks.due("STORE", 5, x.status());
        Checks.due("status() is no call with a sheet", 5, x.status());
        x.copy(0, 0, 0, 0, 1);
        Checks.due("none", 0, x.status());
        x.set(0, 1, 0);
        Checks.due("PLACE", 2, x.status());
        x.feed(0, 9);
        x.feed(32, 1);
        x.course();
        x.fault();
        x.trace(0);
        x.count(0);
        x.image(0);
        x.restore(0);
        Checks.due("calls without a sheet leave it", 2, x.status());
        x.drop(5);
        Checks.due("NULL", 1, x.status());
        x.drop(0);
        Checks.due("none", 0, x.status());
    }
}
