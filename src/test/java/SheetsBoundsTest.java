import java.util.EnumSet;

/** Promises 28 to 30 and an object's 512 calls: each bound, each refusal, the first of several. */
public final class SheetsBoundsTest {
    private static final int BAD = LoopSpaces.BAD;
    private static final int NULL = LoopSpaces.NULL;
    private static final int CAST = LoopSpaces.CAST;
    private static final int INDEX = LoopSpaces.INDEX;
    private static final int SIZE = LoopSpaces.SIZE;
    private static final int NOT = LoopSpaces.NOT;
    private static final Bounds BOUNDS = new Bounds();
    private static final Story RICH = Bounds.RICH;

    public static void main(String[] args) {
        sheetNumbers();
        sheetSizes();
        newRows();
        drops();
        itemNumbers();
        itemOrder();
        itemPlaces();
        wrapAround();
        lastCalls();
        BOUNDS.end("SheetsBoundsTest", "sheet BAD SIZE", "drop BAD NULL", "item BAD NULL CAST INDEX");
    }

    private static void sheetNumbers() {
        for (Story story : new Story[] {Story.NEW, RICH}) {
            BOUNDS.range("rows 0 .. 3", story, 0, 3, BAD, "sheet", Bounds.numbers(0, 0, 1), 0);
            BOUNDS.range("a lane 0 .. 2", story, 0, 2, BAD, "sheet", Bounds.numbers(0, 0, 1), 1);
        }
        BOUNDS.changesOnly("sheets alone", RICH, EnumSet.of(Story.Part.SHEETS), "sheet", 0, 0, 5);
    }

    /** "of 0 to 20 items"; "BAD: also n above 20; SIZE: n below 0." */
    private static void sheetSizes() {
        for (int sheet = 0; sheet < 4; sheet++) {
            for (int n = 0; n <= 20; n++) {
                BOUNDS.takes("0 to 20 items", RICH, n, "sheet", sheet, n % 3, n);
                BOUNDS.takes("how many it has", RICH.then("sheet", sheet, n % 3, n), n, "drop", sheet);
            }
            BOUNDS.refuses("n above 20", RICH, BAD, "sheet", sheet, 0, 21);
            BOUNDS.refuses("n far above 20", RICH, BAD, "sheet", sheet, 1, Integer.MAX_VALUE);
            BOUNDS.refuses("n below 0", RICH, SIZE, "sheet", sheet, 2, -1);
            BOUNDS.refuses("n far below 0", RICH, SIZE, "sheet", sheet, 0, Integer.MIN_VALUE);
        }
        BOUNDS.refuses("bad ahead of size", RICH, BAD, "sheet", 4, 0, -1);
        BOUNDS.refuses("bad ahead of size", RICH, BAD, "sheet", -1, 0, -1);
        BOUNDS.refuses("bad ahead of size", RICH, BAD, "sheet", 0, 3, -1);
        BOUNDS.refuses("bad ahead of size", RICH, BAD, "sheet", 0, -1, Integer.MIN_VALUE);
    }

    /** "A SHEET holds a new row of a LANE": nothing is left of the one that was there. */
    private static void newRows() {
        Story anew = RICH.then("sheet", 0, 0, 3);
        for (int i = 0; i < 3; i++) {
            BOUNDS.takes("no item is left", anew, NOT, "walk", 0, 0, 0, 0, i, 1);
        }
        Story longer = RICH.then("sheet", 0, 0, 1).then("sheet", 0, 0, 3);
        BOUNDS.takes("no item is left", longer, NOT, "walk", 0, 0, 0, 0, 2, 1);
        BOUNDS.takes("of another lane", RICH.then("sheet", 0, 2, 3), CAST, "item", 0, 0, 0, 1);
        BOUNDS.takes("of another lane", RICH.then("sheet", 0, 2, 3), 1, "item", 0, 2, 0, 1);
        BOUNDS.takes("shorter", RICH.then("sheet", 0, 0, 2), INDEX, "item", 0, 0, 2, 1);
        BOUNDS.takes("another sheet stays", RICH.then("sheet", 0, 0, 2), 5, "drop", 1);
    }

    /** "A SHEET holds nothing: how many items it had. BAD; NULL." */
    private static void drops() {
        for (int sheet = 0; sheet < 4; sheet++) {
            BOUNDS.refuses("nothing at first", Story.NEW, NULL, "drop", sheet);
        }
        BOUNDS.range("rows 0 .. 3", RICH, 0, 3, BAD, "drop", Bounds.numbers(0), 0);
        BOUNDS.range("rows 0 .. 3", Story.NEW, 0, 3, BAD, "drop", Bounds.numbers(0), 0);
        int[] had = {3, 5, 3};
        for (int sheet = 0; sheet < 3; sheet++) {
            BOUNDS.takes("how many it had", RICH, had[sheet], "drop", sheet);
            BOUNDS.refuses("nothing then", RICH.then("drop", sheet), NULL, "drop", sheet);
            BOUNDS.refuses("nothing then", RICH.then("drop", sheet), NULL, "item", sheet, sheet, 0, 1);
        }
        BOUNDS.takes("a row of none is a row", RICH.then("sheet", 3, 0, 0), 0, "drop", 3);
        BOUNDS.refuses("and nothing then", RICH.then("sheet", 3, 0, 0).then("drop", 3), NULL, "drop", 3);
        BOUNDS.takes("a row again", RICH.then("drop", 1).then("sheet", 1, 2, 20), 20, "drop", 1);
        BOUNDS.changesOnly("sheets alone", RICH, EnumSet.of(Story.Part.SHEETS), "drop", 0);
    }

    private static void itemNumbers() {
        Story four = RICH.then("sheet", 3, 0, 1);
        BOUNDS.range("rows 0 .. 3", four, 0, 3, BAD, "item", Bounds.numbers(0, 0, 0, 1), 0);
        BOUNDS.range("a lane 0 .. 2", RICH, 0, 2, BAD, "item", Bounds.numbers(0, 0, 0, 1), 1);
        for (int v : new int[] {Integer.MIN_VALUE, -1, 0, 1, Integer.MAX_VALUE}) {
            for (int lane = 0; lane < 3; lane++) {
                BOUNDS.takes("any v", RICH, 1, "item", lane, lane, 0, v);
            }
        }
        BOUNDS.changesOnly("sheets alone", RICH, EnumSet.of(Story.Part.SHEETS), "item", 0, 0, 1, 1);
    }

    /** "BAD; NULL; CAST; INDEX." */
    private static void itemOrder() {
        BOUNDS.refuses("null", RICH, NULL, "item", 3, 0, 0, 1);
        BOUNDS.refuses("null, ahead of index", RICH, NULL, "item", 3, 2, -1, 1);
        BOUNDS.refuses("bad ahead of null", RICH, BAD, "item", 3, 3, 0, 1);
        BOUNDS.refuses("bad ahead of null", RICH, BAD, "item", 3, -1, 0, 1);
        for (int sheet = 0; sheet < 3; sheet++) {
            for (int lane = 0; lane < 3; lane++) {
                if (lane != sheet) {
                    BOUNDS.refuses("another lane", RICH, CAST, "item", sheet, lane, 0, 1);
                    BOUNDS.refuses("another lane, ahead of index", RICH, CAST, "item", sheet, lane, 20, 1);
                    BOUNDS.refuses("another lane, ahead of index", RICH, CAST, "item", sheet, lane, -1, 1);
                }
            }
            BOUNDS.refuses("bad ahead of cast and index", RICH, BAD, "item", sheet, 3, -1, 1);
        }
    }

    /** Items 0 .. n - 1. */
    private static void itemPlaces() {
        for (int n : new int[] {1, 2, 19, 20}) {
            Story story = RICH.then("sheet", 3, 1, n);
            BOUNDS.range("items of " + n, story, 0, n - 1, INDEX, "item", Bounds.numbers(3, 1, 0, 1), 2);
            Story last = story.then("item", 3, 1, n - 1, 1);
            for (int i = 0; i < n; i++) {
                BOUNDS.takes("item " + i + " of " + n, last, i == n - 1 ? 1 : NOT, "walk", 0, 0, 3, 1, i, 1);
            }
        }
        Story none = RICH.then("sheet", 3, 1, 0);
        for (int i : new int[] {Integer.MIN_VALUE, -1, 0, 1, Integer.MAX_VALUE}) {
            BOUNDS.refuses("no item of none", none, INDEX, "item", 3, 1, i, 1);
        }
    }

    /** Which STEP an item is in a SPACE of twelve EDGES; NOT if none. */
    private static void kept(int lane, int v, int due) {
        Story story = RICH.then("corners", 0, 1);
        for (int e = 0; e < 12; e++) {
            story = story.then("edge", 0, 0, 0);
        }
        story = story.then("sheet", 3, lane, 2).then("item", 3, lane, 1, v);
        BOUNDS.takes("lane " + lane + ", " + v, story, due == NOT ? NOT : 1, "walk", 3, 0, 3, lane, 1, 1);
        if (due != NOT) {
            BOUNDS.takes("lane " + lane + ", " + v, story.then("walk", 3, 0, 3, lane, 1, 1), due, "step", 3, 0);
        }
        BOUNDS.takes("the item beside it", story, NOT, "walk", 3, 0, 3, lane, 0, 1);
    }

    /** "becomes v, its lowest bits": 8 of a byte, 16 of a short, all of an int. */
    private static void wrapAround() {
        for (int edge = 0; edge < 12; edge += 11) {
            for (int lane = 0; lane < 3; lane++) {
                kept(lane, edge + 1, edge);
                kept(lane, -edge - 1, 100 + edge);
            }
            kept(0, 256 + edge + 1, edge);
            kept(0, 255 - edge, 100 + edge);
            kept(0, -256 + edge + 1, edge);
            kept(0, 0x7FFFFF00 + edge + 1, edge);
            kept(0, Integer.MIN_VALUE + edge + 1, edge);
            kept(1, 256 + edge + 1, NOT);
            kept(1, 255 - edge, NOT);
            kept(1, 65536 + edge + 1, edge);
            kept(1, 65535 - edge, 100 + edge);
            kept(1, -65536 + edge + 1, edge);
            kept(1, 0x7FFF0000 + edge + 1, edge);
            kept(1, Integer.MIN_VALUE + edge + 1, edge);
            kept(2, 256 + edge + 1, NOT);
            kept(2, 65536 + edge + 1, NOT);
            kept(2, Integer.MIN_VALUE + edge + 1, NOT);
        }
        for (int v : new int[] {0, 127, 128, -128, 256, 13, -13, 0x7FFFFF00, Integer.MIN_VALUE}) {
            kept(0, v, NOT);
        }
        for (int v : new int[] {0, 32767, 32768, -32768, 65536, 13, -13, 0x7FFF0000, Integer.MIN_VALUE}) {
            kept(1, v, NOT);
        }
        for (int v : new int[] {0, 13, -13, Integer.MAX_VALUE, Integer.MIN_VALUE}) {
            kept(2, v, NOT);
        }
    }

    /** "An object is used for at most 512 calls": the last ones answer as the first. */
    private static void lastCalls() {
        Story dear = Story.NEW.text(0, "1;a=0>0;b=0>0;c=0>0;:aaaaaaaa").text(1, "1;a=0>0;b=0>0;:abAB")
            .word(0, 1, "aabbaabbaabbaabb").word(1, 1, "bbaabbaabbaabbaa");
        String[] calls = {"layers", "drawn", "bend", "holes", "moved", "tables", "sheet", "layer"};
        long[][] numbers = {{0, 4}, {0, 1}, {0, 0}, {0, 1, 2}, {0}, {0, 4}, {0, 0, 20}, {0, 4, 40}};
        long[] due = new long[calls.length];
        for (int k = 0; k < calls.length; k++) {
            due[k] = dear.answer(calls[k], numbers[k]);
        }
        Story last = dear;
        for (int made = 0; last.size() < 511; made++) {
            last = last.then(calls[made % calls.length], numbers[made % calls.length]);
        }
        for (int k = 0; k < calls.length; k++) {
            BOUNDS.takes("the 512th call", last, due[k], calls[k], numbers[k]);
        }
    }
}
