/** Promises 28 to 30: sheet, drop, item. */
public final class SheetsTest {
    private static final Checks CHECKS = new Checks();

    public static void main(String[] args) {
        sheets();
        drops();
        items();
        lowestBits();
        CHECKS.end("SheetsTest");
    }

    private static void sheets() {
        LoopSpaces x = new LoopSpaces();
        for (int sheet = 0; sheet < 4; sheet++) {
            CHECKS.same("sheet of none", x.sheet(sheet, sheet % 3, 0), 0);
            CHECKS.same("sheet of 20", x.sheet(sheet, sheet % 3, 20), 20);
        }
        int[][] bad = {{4, 0, 1}, {-1, 0, 1}, {0, 3, 1}, {0, -1, 1}, {0, 0, 21}, {4, 0, -1}, {0, 3, -1},
            {0, 0, Integer.MAX_VALUE}};
        for (int[] w : bad) {
            CHECKS.same("sheet " + w[0] + " " + w[1] + " " + w[2], x.sheet(w[0], w[1], w[2]), LoopSpaces.BAD);
        }
        CHECKS.same("below 0", x.sheet(0, 0, -1), LoopSpaces.SIZE);
        CHECKS.same("far below 0", x.sheet(0, 0, Integer.MIN_VALUE), LoopSpaces.SIZE);
        CHECKS.same("what is refused changes nothing", x.drop(0), 20);
    }

    private static void drops() {
        LoopSpaces x = new LoopSpaces();
        CHECKS.same("nothing", x.drop(3), LoopSpaces.NULL);
        x.sheet(3, 1, 7);
        CHECKS.same("seven", x.drop(3), 7);
        CHECKS.same("nothing again", x.drop(3), LoopSpaces.NULL);
        x.sheet(3, 1, 0);
        CHECKS.same("none is a row too", x.drop(3), 0);
        CHECKS.same("drop(4)", x.drop(4), LoopSpaces.BAD);
        CHECKS.same("drop(-1)", x.drop(-1), LoopSpaces.BAD);
    }

    private static void items() {
        LoopSpaces x = new LoopSpaces();
        CHECKS.same("nothing", x.item(0, 0, 0, 1), LoopSpaces.NULL);
        CHECKS.same("no sheet", x.item(4, 0, 0, 1), LoopSpaces.BAD);
        CHECKS.same("no sheet", x.item(-1, 0, 0, 1), LoopSpaces.BAD);
        CHECKS.same("no lane, ahead of nothing", x.item(0, 3, 0, 1), LoopSpaces.BAD);
        CHECKS.same("no lane", x.item(0, -1, 0, 1), LoopSpaces.BAD);
        x.sheet(0, 1, 3);
        CHECKS.same("another lane, ahead of its place", x.item(0, 0, 9, 1), LoopSpaces.CAST);
        CHECKS.same("another lane", x.item(0, 2, 0, 1), LoopSpaces.CAST);
        CHECKS.same("place 3", x.item(0, 1, 3, 1), LoopSpaces.INDEX);
        CHECKS.same("place -1", x.item(0, 1, -1, 1), LoopSpaces.INDEX);
        CHECKS.same("place 2", x.item(0, 1, 2, 1), 1);
        x.sheet(0, 1, 0);
        CHECKS.same("a row of none", x.item(0, 1, 0, 1), LoopSpaces.INDEX);
        x.edge(0, 0, 0);
        x.sheet(0, 1, 1);
        x.item(0, 1, 0, 1);
        CHECKS.same("an item is read", x.walk(0, 0, 0, 1, 0, 1), 1);
        x.sheet(0, 1, 1);
        CHECKS.same("a new row has 0", x.walk(0, 0, 0, 1, 0, 1), LoopSpaces.NOT);
    }

    /** Which step an item is, read back by a walk: 1 along, -1 back, 0 none. */
    private static void kept(int lane, int v, int due) {
        LoopSpaces x = new LoopSpaces();
        x.edge(0, 0, 0);
        x.sheet(2, lane, 20);
        CHECKS.same("item of lane " + lane, x.item(2, lane, 19, v), 1);
        int got = x.walk(0, 0, 2, lane, 19, 1);
        CHECKS.same("walk by " + v + " in lane " + lane, got, due == 0 ? LoopSpaces.NOT : 1);
        if (due != 0) {
            CHECKS.same("step by " + v + " in lane " + lane, x.step(0, 0), due > 0 ? 0 : 100);
        }
    }

    private static void lowestBits() {
        kept(0, 0x101, 1);
        kept(0, 0xFF, -1);
        kept(0, 0x80, 0);
        kept(0, 0x7F00, 0);
        kept(1, 0x101, 0);
        kept(1, 0x10001, 1);
        kept(1, 0xFFFF, -1);
        kept(1, 0xFF, 0);
        kept(2, 0xFFFF, 0);
        kept(2, -1, -1);
        kept(2, 1, 1);
        kept(2, 0x10001, 0);
    }
}
