import java.util.Random;

/** Promises 19 to 23: word, walk, about, step, drawn. */
public final class WordsTest {
    private static final Checks CHECKS = new Checks();
    private static final String TORUS = "1;a=0>0;b=0>0;:abAB";

    public static void main(String[] args) {
        words();
        wordFaults();
        wordsAreEmptied();
        walks();
        walksRefused();
        about();
        steps();
        drawn();
        drawnOneWay();
        drawnAgain();
        drawnToSixteen();
        drawnUnlikeInOneStep();
        drawnInACrowd();
        drawnRefused();
        CHECKS.end("WordsTest");
    }

    private static void held(LoopSpaces x, int slot, int... due) {
        for (int what = 0; what < 4; what++) {
            CHECKS.same("about(" + slot + ", " + what + ")", x.about(slot, what), due[what]);
        }
    }

    private static void words() {
        LoopSpaces x = new LoopSpaces();
        Checks.text(x, 1, "3;a=0>1;b=1>2;c=2>0;d=1>1");
        CHECKS.same("abc", Checks.word(x, 0, 1, "abc"), 3);
        held(x, 0, 3, 1, 0, 0);
        CHECKS.same("from corner 2 to 1", Checks.word(x, 3, 1, " B d D b c a"), 2);
        held(x, 3, 2, 1, 2, 1);
        CHECKS.same("step", x.step(3, 0), 2);
        CHECKS.same("step", x.step(3, 1), 0);
        CHECKS.same("none, from corner 1", Checks.word(x, 1, 1, "bB"), 0);
        held(x, 1, 0, 1, 1, 1);
        CHECKS.same("none, from corner 0", Checks.word(x, 1, 1, "  "), 0);
        held(x, 1, 0, 1, 0, 0);
        CHECKS.same("again and again", Checks.word(x, 2, 1, "adbBDddA"), 4);
        CHECKS.same("its step", x.step(2, 2), 3);
        CHECKS.same("its last step", x.step(2, 3), 100);
        CHECKS.same("sixteen", Checks.word(x, 2, 1, "dddddddddddddddd"), 16);
        CHECKS.same("the tape is empty", x.type('d', 1), 1);
        CHECKS.same("word(0, 2)", x.word(0, 2), LoopSpaces.BAD);
        CHECKS.same("word(0, -1)", x.word(0, -1), LoopSpaces.BAD);
        CHECKS.same("word(4, 1)", x.word(4, 1), LoopSpaces.BAD);
        CHECKS.same("word(-1, 1)", x.word(-1, 1), LoopSpaces.BAD);
        CHECKS.same("the tape stays", x.word(0, 1), 1);
        held(x, 0, 1, 1, 1, 1);
    }

    private static void wordFaults() {
        LoopSpaces x = new LoopSpaces();
        Checks.text(x, 0, "2;a=0>1;b=1>0");
        Checks.word(x, 0, 0, "ab");
        CHECKS.same("no such edge", Checks.word(x, 0, 0, "abc"), -22);
        CHECKS.same("does not go on", Checks.word(x, 0, 0, "a a"), -22);
        CHECKS.same("no letter", Checks.word(x, 0, 0, ";"), -20);
        CHECKS.same("no letter", Checks.word(x, 0, 0, "a b1"), -23);
        CHECKS.same("a 17th", Checks.word(x, 0, 0, "aAaAaAaAaAaAaAaAa"), -36);
        CHECKS.same("a 17th behind blanks", Checks.word(x, 0, 0, "aAaAaAaAaAaAaAaA  a"), -38);
        CHECKS.same("the tape is empty", x.type('a', 1), 1);
        held(x, 0, 2, 0, 0, 0);
    }

    private static void wordsAreEmptied() {
        LoopSpaces x = new LoopSpaces();
        for (int call = 0; call < 4; call++) {
            Checks.text(x, 0, TORUS);
            Checks.text(x, 1, TORUS);
            for (int slot = 0; slot < 4; slot++) {
                Checks.word(x, slot, slot % 2, "ab");
            }
            int gone = call == 3 ? 0 : 1;
            switch (call) {
                case 0 -> x.corners(1, 1);
                case 1 -> Checks.text(x, 1, TORUS);
                case 2 -> CHECKS.same("fold(1), though none goes", x.fold(1), 0);
                default -> CHECKS.same("join()", x.join(), 1);
            }
            for (int slot = 0; slot < 4; slot++) {
                CHECKS.same("call " + call + ": slot " + slot, x.about(slot, 0), slot % 2 == gone ? LoopSpaces.NONE : 2);
            }
        }
        Checks.text(x, 0, TORUS);
        Checks.word(x, 0, 0, "ab");
        x.edge(0, 0, 0);
        Checks.face(x, 0, "c");
        x.layer(0, 2, 0);
        CHECKS.same("edge, face, layer leave words", x.about(0, 0), 2);
    }

    private static LoopSpaces withSheet(int lane, int... items) {
        LoopSpaces x = new LoopSpaces();
        Checks.text(x, 0, "2;a=0>1;b=1>0;c=1>1");
        x.sheet(1, lane, items.length);
        for (int i = 0; i < items.length; i++) {
            x.item(1, lane, i, items[i]);
        }
        return x;
    }

    private static void walks() {
        for (int lane = 0; lane < 3; lane++) {
            LoopSpaces x = withSheet(lane, 9, 1, 3, -3, 2, -2, -1, 0, 4);
            CHECKS.same("all", x.walk(0, 0, 1, lane, 1, 6), 0);
            held(x, 0, 0, 0, 0, 0);
            CHECKS.same("two", x.walk(0, 0, 1, lane, 1, 2), 2);
            held(x, 0, 2, 0, 0, 1);
            CHECKS.same("step", x.step(0, 1), 2);
            CHECKS.same("back", x.walk(3, 0, 1, lane, 5, 2), 2);
            held(x, 3, 2, 0, 0, 0);
            CHECKS.same("step", x.step(3, 0), 101);
            CHECKS.same("none, from corner 0", x.walk(0, 0, 1, lane, 2, 0), 0);
            held(x, 0, 0, 0, 0, 0);
            CHECKS.same("none, at the end", x.walk(0, 0, 1, lane, 9, 0), 0);
        }
        LoopSpaces x = withSheet(2, 3, 3, 3, 3, 3, 3, 3, 3, 3, 3, 3, 3, 3, 3, 3, 3, 3, 3, 3, 3);
        CHECKS.same("sixteen", x.walk(0, 0, 1, 2, 4, 16), 16);
        CHECKS.same("seventeen", x.walk(0, 0, 1, 2, 0, 17), LoopSpaces.BAD);
        x.type('b', 1);
        x.walk(0, 0, 1, 2, 0, 1);
        CHECKS.same("the tape is not taken", x.word(1, 0), 1);
        LoopSpaces y = withSheet(0, 257, 1);
        CHECKS.same("lowest bits", y.walk(0, 0, 1, 0, 0, 1), 1);
    }

    private static void walksRefused() {
        LoopSpaces x = withSheet(2, 1, 1, 4, -4, 0, Integer.MIN_VALUE, Integer.MAX_VALUE);
        x.walk(2, 0, 1, 2, 0, 1);
        int[][] bad = {{-1, 0, 1, 2, 0, 1}, {4, 0, 1, 2, 0, 1}, {2, 2, 1, 2, 0, 1}, {2, -1, 1, 2, 0, 1},
            {2, 0, 4, 2, 0, 1}, {2, 0, -1, 2, 0, 1}, {2, 0, 1, 3, 0, 1}, {2, 0, 1, -1, 0, 1}, {2, 0, 1, 2, 0, -1},
            {2, 0, 1, 2, 0, 17}, {2, 0, 0, 2, 0, 17}};
        for (int[] w : bad) {
            CHECKS.same("bad walk", x.walk(w[0], w[1], w[2], w[3], w[4], w[5]), LoopSpaces.BAD);
        }
        CHECKS.same("nothing there", x.walk(2, 0, 0, 2, 0, 1), LoopSpaces.NULL);
        CHECKS.same("nothing there, none asked", x.walk(2, 0, 0, 2, 0, 0), LoopSpaces.NULL);
        CHECKS.same("another lane", x.walk(2, 0, 1, 1, -5, 1), LoopSpaces.CAST);
        CHECKS.same("from -1", x.walk(2, 0, 1, 2, -1, 1), LoopSpaces.INDEX);
        CHECKS.same("from 7", x.walk(2, 0, 1, 2, 7, 1), LoopSpaces.INDEX);
        CHECKS.same("to 8, ahead of not", x.walk(2, 0, 1, 2, 0, 8), LoopSpaces.INDEX);
        CHECKS.same("from the most", x.walk(2, 0, 1, 2, Integer.MAX_VALUE, 16), LoopSpaces.INDEX);
        CHECKS.same("does not go on", x.walk(2, 0, 1, 2, 0, 2), LoopSpaces.NOT);
        for (int from = 2; from < 7; from++) {
            CHECKS.same("no step, from " + from, x.walk(2, 0, 1, 2, from, 1), LoopSpaces.NOT);
        }
        held(x, 2, 1, 0, 0, 1);
    }

    private static void about() {
        LoopSpaces x = new LoopSpaces();
        CHECKS.same("holds none", x.about(0, 0), LoopSpaces.NONE);
        CHECKS.same("what 4, ahead of none", x.about(0, 4), LoopSpaces.BAD);
        CHECKS.same("what -1", x.about(0, -1), LoopSpaces.BAD);
        CHECKS.same("slot 4", x.about(4, 0), LoopSpaces.BAD);
        CHECKS.same("slot -1", x.about(-1, 0), LoopSpaces.BAD);
    }

    private static void steps() {
        LoopSpaces x = new LoopSpaces();
        Checks.text(x, 0, TORUS);
        CHECKS.same("holds none", x.step(0, 0), LoopSpaces.NONE);
        Checks.word(x, 0, 0, "aB");
        CHECKS.same("step 0", x.step(0, 0), 0);
        CHECKS.same("step 1", x.step(0, 1), 101);
        CHECKS.same("step 2", x.step(0, 2), LoopSpaces.BAD);
        CHECKS.same("step -1", x.step(0, -1), LoopSpaces.BAD);
        CHECKS.same("step -1, ahead of none", x.step(1, -1), LoopSpaces.BAD);
        CHECKS.same("slot 4", x.step(4, 0), LoopSpaces.BAD);
        CHECKS.same("slot -1", x.step(-1, 0), LoopSpaces.BAD);
    }

    private static void drawn(String text, String one, String other, int due) {
        LoopSpaces x = new LoopSpaces();
        Checks.text(x, 1, text);
        Checks.word(x, 0, 1, one);
        Checks.word(x, 3, 1, other);
        CHECKS.same(text + ": " + one + ", " + other, x.drawn(0, 3), due);
        CHECKS.same(text + ": " + other + ", " + one, x.drawn(3, 0), due);
    }

    private static void drawn() {
        drawn(TORUS, "ab", "ab", 0);
        drawn(TORUS, "abbB", "Aaab", 0);
        drawn(TORUS, "ab", "ba", 1);
        drawn(TORUS, "aab", "baa", 2);
        drawn(TORUS, "aabb", "bbaa", LoopSpaces.SPENT);
        drawn(TORUS, "", "a", LoopSpaces.SPENT);
        drawn("1;a=0>0;b=0>0", "ab", "ba", LoopSpaces.SPENT);
        drawn("1;a=0>0;:aaa", "", "aaa", 1);
        drawn("1;a=0>0;:aaa", "", "AAAAAA", 2);
        drawn("1;a=0>0;:aaa", "aaaa", "AA", 2);
        drawn("1;a=0>0;:aA", "a", "aa", LoopSpaces.SPENT);
        drawn("1;a=0>0;:aAaaA", "", "a", 1);
        drawn("1;a=0>0;b=0>0;:b", "aab", "baa", 2);
        drawn("1;a=0>0;b=0>0;:b", "abab", "aa", 2);
        drawn("1;a=0>0;b=0>0;:b", "ababab", "aaa", LoopSpaces.SPENT);
        drawn("4;a=0>1;b=1>2;c=2>3;d=3>0;:abcd", "ab", "DC", 1);
        drawn("4;a=0>1;b=1>2;c=2>3;d=3>0;:cdab", "b", "ADC", 1);
        drawn("4;a=0>1;b=1>2;c=2>3;d=3>0;:abcd;:DCBA", "ab", "DC", 1);
    }

    /** The pane begins at a corner where the empty word does not come, so only one leads to the other. */
    private static void drawnOneWay() {
        drawn("2;a=0>1;b=1>1;:bb", "abbA", "", 1);
        drawn("2;a=0>1;b=1>1;:bb", "abbbbA", "", LoopSpaces.SPENT);
        drawn("2;a=0>1;b=1>1;:bb;c=0>1", "abbA", "cC", 1);
    }

    /** One answer says nothing of the next, on the same object. */
    private static void drawnAgain() {
        LoopSpaces x = new LoopSpaces();
        Checks.text(x, 0, TORUS);
        String[] words = {"ab", "ba", "aab", "baa", "aabb", "bbaa", "", "a"};
        int[] due = {1, 2, LoopSpaces.SPENT, LoopSpaces.SPENT};
        for (int before = 0; before < due.length; before++) {
            for (int pair = 0; pair < due.length; pair++) {
                for (int k : new int[] {before, pair}) {
                    Checks.word(x, 1, 0, words[2 * k]);
                    Checks.word(x, 2, 0, words[2 * k + 1]);
                    CHECKS.same("pair " + k + " of " + before + ", " + pair, x.drawn(1, 2), due[k]);
                    CHECKS.same("pair " + k + " about of " + before + ", " + pair, x.drawn(2, 1), due[k]);
                    CHECKS.same("a word and itself", x.drawn(1, 1), 0);
                }
            }
        }
    }

    private static void drawnToSixteen() {
        String text = "1;a=0>0;b=0>0;:bbbbbbbb";
        drawn(text, "aaaaaaaa", "aaaaaaaabbbbbbbb", 1);
        drawn(text, "aaaaaaaaa", "aaaaaaaaa", 0);
        drawn("1;a=0>0;b=0>0;:bb", "aaaaaaaaaaaaaa", "aaaaaaaaaaaaaabb", 1);
        drawn("1;a=0>0;b=0>0;:bb", "aaaaaaaaaaaaaabb", "bbaaaaaaaaaaaaaa", 2);
        String two = "1;a=0>0;b=0>0;c=0>0;d=0>0;e=0>0;:bcd;:ecd";
        drawn(two, "aaaaaaaaaaaaaab", "aaaaaaaaaaaaaae", 2);
        // what lies between these two would have 17 steps
        drawn(two, "aaaaaaaaaaaaaaab", "aaaaaaaaaaaaaaae", LoopSpaces.SPENT);
        drawn("1;a=0>0;b=0>0;c=0>0;:bc", "aaaaaaaaaaaaaaab", "aaaaaaaaaaaaaaaC", 1);
    }

    /** Words of all lengths that differ in one step alone are never taken for one another. */
    private static void drawnUnlikeInOneStep() {
        for (int place = 0; place < 16; place++) {
            LoopSpaces x = new LoopSpaces();
            for (int e = 0; e < 12; e++) {
                x.edge(0, 0, 0);
            }
            String ahead = "b".repeat(place);
            String behind = "b".repeat(15 - place);
            Checks.word(x, 0, 0, ahead + "b" + behind);
            for (char letter : "acdefghijklACDEFGHIJKL".toCharArray()) {
                Checks.word(x, 1, 0, ahead + letter + behind);
                CHECKS.same(letter + " at " + place, x.drawn(0, 1), LoopSpaces.SPENT);
            }
            Checks.word(x, 1, 0, ahead);
            CHECKS.same("ends at " + place, x.drawn(0, 1), LoopSpaces.SPENT);
        }
    }

    /** As many NEXT ones as there may be, of WORDS that are one but for their last STEPS. */
    private static void drawnInACrowd() {
        Random random = new Random(5);
        for (int k = 0; k < 120; k++) {
            LoopSpaces x = new LoopSpaces();
            Model m = new Model();
            for (int e = 0; e < 12; e++) {
                x.edge(0, 0, 0);
                m.edge(0, 0, 0);
            }
            int length = 1 + k % 8;
            for (int face = 0; face < 8; face++) {
                m.tape = letters(random, k < 60 ? length : 1 + random.nextInt(8));
                Checks.face(x, 0, m.tape);
                m.face(0);
            }
            String head = letters(random, 16 - length);
            String[] words = {head, head + letters(random, length), head.substring(1) + letters(random, 1),
                head.substring(random.nextInt(4)) + letters(random, 1 + random.nextInt(length))};
            for (int slot = 0; slot < 4; slot++) {
                m.tape = words[slot];
                Checks.word(x, slot, 0, words[slot]);
                m.word(slot, 0);
            }
            for (int pair = 0; pair < 16; pair++) {
                CHECKS.same("crowd " + k + ", pair " + pair, x.drawn(pair / 4, pair % 4), m.drawn(pair / 4, pair % 4));
            }
        }
    }

    private static String letters(Random random, int n) {
        StringBuilder letters = new StringBuilder();
        for (int i = 0; i < n; i++) {
            letters.append("abcdABCDlL".charAt(random.nextInt(10)));
        }
        return letters.toString();
    }

    private static void drawnRefused() {
        LoopSpaces x = new LoopSpaces();
        Checks.text(x, 0, "2;a=0>1;b=1>0");
        Checks.text(x, 1, "2;a=0>1;b=1>0");
        Checks.word(x, 0, 0, "a");
        Checks.word(x, 1, 1, "a");
        Checks.word(x, 2, 0, "ab");
        CHECKS.same("unlike spaces", x.drawn(0, 1), LoopSpaces.NOT);
        CHECKS.same("unlike ends", x.drawn(0, 2), LoopSpaces.NOT);
        CHECKS.same("holds none", x.drawn(0, 3), LoopSpaces.NOT);
        CHECKS.same("holds none", x.drawn(3, 0), LoopSpaces.NOT);
        CHECKS.same("hold none", x.drawn(3, 3), LoopSpaces.NOT);
        Checks.word(x, 3, 0, "ba");
        CHECKS.same("unlike begins", x.drawn(2, 3), LoopSpaces.NOT);
        int[][] bad = {{4, 0}, {0, 4}, {-1, 0}, {0, -1}};
        for (int[] w : bad) {
            CHECKS.same("drawn " + w[0] + " " + w[1], x.drawn(w[0], w[1]), LoopSpaces.BAD);
        }
        Checks.face(x, 0, "ab");
        CHECKS.same("with the panes as they are now", Checks.word(x, 3, 0, ""), 0);
        CHECKS.same("drawn(2, 3)", x.drawn(2, 3), 1);
    }
}
