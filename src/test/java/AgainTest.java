import java.util.ArrayList;
import java.util.List;

/**
 * All promises: what an object answers of a SPACE does not depend on what it held and answered
 * before, so a row that is used again is never read where it is old.
 */
public final class AgainTest {
    private static final Checks CHECKS = new Checks();
    private static final String[] TEXTS = {
        "1",
        "1;a=0>0;:aA",
        "1;a=0>0;b=0>0;:abAB",
        "2;a=0>0;b=1>1;:a;:b",
        "2;a=0>0;b=1>1;:b;:a;:b",
        "2;a=0>0;b=1>1;:BBBBBBBB;:AAAAAAAA",
        "3;a=0>1;b=1>2;c=2>0;d=1>1;:abc;:dd;:DDDDDDDD;:aA",
        "1;a=0>0;b=0>0;c=0>0;:aaaaaaaa;:BBBBBBBB;:CCCCCCCC;:ABCABCAB",
        "8;a=7>6;b=6>5;c=5>4;d=4>3;e=3>2;f=2>1;g=1>0;h=0>7;i=7>7;:abcdefgh;:I;:iIiIiIiI;:hIH",
        "1;a=0>0;b=0>0;c=0>0;d=0>0;e=0>0;f=0>0;g=0>0;h=0>0;:a;:b;:c;:d;:e;:f;:g;:HHHHHHHH",
        "1;a=0>0;b=0>0;:AAAAAAAA;:AAAAAAAA;:AAAAAAAA;:BBBBBBBB;:BBBBBBBB;:BBBBBBBB;:ABABABAB;:BABABABA",
        "2;a=0>1;b=1>1;:BB;:B;:abA"};

    public static void main(String[] args) {
        for (String before : TEXTS) {
            for (String text : TEXTS) {
                again(before, text);
            }
        }
        CHECKS.end("AgainTest");
    }

    private static void again(String before, String text) {
        LoopSpaces x = new LoopSpaces();
        // in both spaces, and once more: so wherever a space may be kept, this one was
        for (int space : new int[] {0, 1, 0}) {
            CHECKS.holds(before + " is a space", Checks.text(x, space, before) >= 0);
        }
        answers(x, 0);
        Checks.text(x, 0, text);
        compare(before + ", then " + text, seen(x, 0), seenAlone(text));
        compare(before + ", then " + text, answers(x, 0), answersAlone(text));
        compare("the other space is " + before + " still", answers(x, 1), answersAlone(before));
    }

    private static void compare(String what, List<Long> got, List<Long> due) {
        CHECKS.holds(what + ": " + got + ", due is " + due, got.equals(due));
    }

    private static List<Long> seenAlone(String text) {
        LoopSpaces x = new LoopSpaces();
        Checks.text(x, 0, text);
        return seen(x, 0);
    }

    private static List<Long> answersAlone(String text) {
        LoopSpaces x = new LoopSpaces();
        Checks.text(x, 0, text);
        return answers(x, 0);
    }

    private static List<Long> seen(LoopSpaces x, int space) {
        List<Long> all = new ArrayList<>();
        for (int what = 0; what < 6; what++) {
            all.add((long) x.count(space, what));
        }
        for (int e = 0; e <= x.count(space, 1); e++) {
            all.add((long) x.told(space, e, 0));
            all.add((long) x.told(space, e, 2));
        }
        for (int face = 0; face <= x.count(space, 2); face++) {
            all.add((long) x.rim(space, face, 0));
            all.add((long) x.rim(space, face, 1));
            all.add((long) x.rim(space, face, 7));
        }
        return all;
    }

    private static List<Long> answers(LoopSpaces x, int space) {
        List<Long> all = new ArrayList<>();
        for (int d = 0; d < 3; d++) {
            all.add((long) x.holes(space, d, 0));
            all.add((long) x.holes(space, d, 2));
            all.add((long) x.holes(space, d, 3));
        }
        for (int i = 0; i < 4; i++) {
            all.add(x.bend(space, i));
        }
        for (int n = 2; n <= 3; n++) {
            all.add((long) x.tables(space, n));
            all.add((long) x.layers(space, n));
        }
        laid(x, space, all);
        classes(x, space, all);
        words(x, space, all);
        return all;
    }

    private static void laid(LoopSpaces x, int space, List<Long> all) {
        all.add((long) x.layer(space, 2, 0));
        if (all.get(all.size() - 1) >= 0) {
            for (int what = 0; what < 6; what++) {
                all.add((long) x.count(2, what));
            }
            all.add((long) x.holes(2, 1, 2));
            all.add((long) x.holes(2, 2, 2));
            all.add((long) x.moves(0, 0));
            all.add((long) x.rim(2, 0, 0));
            all.add((long) x.rim(2, x.count(2, 2) - 1, 7));
        }
    }

    private static void classes(LoopSpaces x, int space, List<Long> all) {
        for (int k = 0; k < 4; k++) {
            all.add((long) x.product(space, k, k));
            all.add((long) x.nought(space, 1 << 2 * k));
            all.add((long) x.nought(space, 1 << 2 * k + 1));
        }
    }

    private static void words(LoopSpaces x, int space, List<Long> all) {
        all.add((long) Checks.word(x, 2, space, ""));
        for (String word : new String[] {"a", "bb", "aabb"}) {
            all.add((long) Checks.word(x, 3, space, word));
            // a FAULT leaves the SLOT with what it held
            if (all.get(all.size() - 1) >= 0) {
                all.add((long) x.drawn(2, 3));
                all.add((long) x.moved(3));
            }
        }
    }
}
