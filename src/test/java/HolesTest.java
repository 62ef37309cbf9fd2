import java.util.List;
import java.util.Random;

/** Promises 10 and 11: holes, bend. */
public final class HolesTest {
    private static final Checks CHECKS = new Checks();
    private static final int[] PRIMES = {0, 2, 3, 5, 7};

    public static void main(String[] args) {
        knownSpaces();
        holesOfPieces();
        wrongHoles();
        layersHoles();
        knownBends();
        wrongBends();
        crowdedBends();
        CHECKS.end("HolesTest");
    }

    /** Holes of dimensions 0, 1, 2 for each of PRIMES. */
    private static void holes(String text, int[]... due) {
        LoopSpaces x = new LoopSpaces();
        Checks.text(x, 1, text);
        for (int k = 0; k < PRIMES.length; k++) {
            for (int d = 0; d < 3; d++) {
                CHECKS.same(text + ": holes(1, " + d + ", " + PRIMES[k] + ")", x.holes(1, d, PRIMES[k]), due[k][d]);
            }
        }
    }

    private static int[] three(int a, int b, int c) {
        return new int[] {a, b, c};
    }

    private static void knownSpaces() {
        int[] point = three(1, 0, 0);
        holes("1", point, point, point, point, point);
        int[] torus = three(1, 2, 1);
        holes("1;a=0>0;b=0>0;:abAB", torus, torus, torus, torus, torus);
        int[] klein = three(1, 1, 0);
        holes("1;a=0>0;b=0>0;:abaB", klein, torus, klein, klein, klein);
        int[] bent = three(1, 1, 1);
        holes("1;a=0>0;:aa", point, bent, point, point, point);
        holes("1;a=0>0;:aaa", point, point, bent, point, point);
        holes("1;a=0>0;:aaaaa", point, point, point, bent, point);
        holes("1;a=0>0;:aaaaaaa", point, point, point, point, bent);
        holes("1;a=0>0;:aaaaaa", point, bent, bent, point, point);
        int[] sphere = three(1, 0, 1);
        holes("1;a=0>0;:a;:a", sphere, sphere, sphere, sphere, sphere);
        holes("2;a=0>1;:aA", sphere, sphere, sphere, sphere, sphere);
    }

    private static void holesOfPieces() {
        int[] due = three(3, 2, 0);
        holes("5;a=1>2;b=2>1;c=4>4;:c;d=3>3;e=3>0", due, due, due, due, due);
        int[] empty = three(8, 0, 0);
        holes("8", empty, empty, empty, empty, empty);
    }

    private static void wrongHoles() {
        LoopSpaces x = new LoopSpaces();
        Checks.text(x, 0, "1;a=0>0;b=0>0;:abAB");
        int[][] wrong = {{0, 3, 2}, {0, -1, 2}, {0, 1, 1}, {0, 1, 4}, {0, 1, 6}, {0, 1, 11}, {0, 1, -2},
            {2, 1, 2}, {2, 1, 0}, {-1, 1, 2}, {3, 1, 2}, {0, 1, Integer.MIN_VALUE}};
        for (int[] w : wrong) {
            CHECKS.same("holes " + w[0] + " " + w[1] + " " + w[2], x.holes(w[0], w[1], w[2]), LoopSpaces.BAD);
        }
    }

    private static void layersHoles() {
        LoopSpaces x = new LoopSpaces();
        Checks.text(x, 0, "1;a=0>0;b=0>0;:abaB");
        CHECKS.same("layer(0, 2, 0)", x.layer(0, 2, 0), 3);
        for (int d = 0; d < 3; d++) {
            CHECKS.same("no fractions of a layer", x.holes(2, d, 0), LoopSpaces.BAD);
        }
        Checks.text(x, 1, "1;a=0>0;:aa");
        x.layer(1, 2, 0);
        int[] sphere = {1, 0, 1};
        for (int p : new int[] {2, 3, 5, 7}) {
            for (int d = 0; d < 3; d++) {
                CHECKS.same("a sphere: holes(2, " + d + ", " + p + ")", x.holes(2, d, p), sphere[d]);
            }
        }
        Checks.text(x, 1, "8;a=0>1;b=1>2;c=2>3;d=3>4;e=4>5;f=5>6;g=6>7;h=7>0;i=0>0;j=0>0;:i;:i;:j;:j;:j;:aA;:bB;:cC");
        CHECKS.same("the greatest layer", x.layer(1, 4, 0), 9);
        CHECKS.same("corners", x.count(2, 0), 32);
        CHECKS.same("panes", x.count(2, 2), 32);
        CHECKS.same("its holes", x.holes(2, 2, 7), 24);
        CHECKS.same("its ways round", x.holes(2, 1, 7), 1);
    }

    private static void bends(String text, long... due) {
        LoopSpaces x = new LoopSpaces();
        Checks.text(x, 0, text);
        for (int i = 0; i < due.length; i++) {
            CHECKS.same(text + ": bend(0, " + i + ")", x.bend(0, i), due[i]);
        }
        CHECKS.same(text + ": no more", x.bend(0, due.length), LoopSpaces.NONE);
    }

    private static void knownBends() {
        bends("1");
        bends("1;a=0>0");
        bends("1;a=0>0;:a");
        bends("1;a=0>0;b=0>0;:abAB");
        bends("1;a=0>0;:aa", 2);
        bends("1;a=0>0;:AAAAAAAA", 8);
        bends("1;a=0>0;:aaaa;:aaaaaa", 2);
        bends("1;a=0>0;b=0>0;:aa;:bbb", 6);
        bends("1;a=0>0;b=0>0;:aaaa;:bbbbbb", 2, 12);
        bends("1;a=0>0;b=0>0;c=0>0;:aa;:bbbb;:cccccccc", 2, 4, 8);
        bends("1;a=0>0;b=0>0;:aaabbb;:aaaBBB", 3, 6);
        bends("3;a=1>1;:aaa", 3);
        String seven = "1;a=0>0;b=0>0;c=0>0;d=0>0;e=0>0;f=0>0;g=0>0";
        bends(seven + ";:aaaaaab;:bbbbbbc;:ccccccd;:dddddde;:eeeeeef;:ffffffg;:gggggga", 279937);
    }

    private static void wrongBends() {
        LoopSpaces x = new LoopSpaces();
        Checks.text(x, 0, "1;a=0>0;:aa");
        x.layer(0, 2, 0);
        CHECKS.same("bend(0, -1)", x.bend(0, -1), LoopSpaces.BAD);
        CHECKS.same("bend(2, 0)", x.bend(2, 0), LoopSpaces.BAD);
        CHECKS.same("bend(-1, 0)", x.bend(-1, 0), LoopSpaces.BAD);
        CHECKS.same("bend(0, 1)", x.bend(0, 1), LoopSpaces.NONE);
        CHECKS.same("bend(0, most)", x.bend(0, Integer.MAX_VALUE), LoopSpaces.NONE);
    }

    /** Panes with as many steps as there may be, against minors. */
    private static void crowdedBends() {
        Random random = new Random(11);
        for (int k = 0; k < 120; k++) {
            int edges = 1 + random.nextInt(k % 4 == 0 ? 12 : 8);
            int panes = 1 + random.nextInt(8);
            LoopSpaces x = new LoopSpaces();
            for (int e = 0; e < edges; e++) {
                x.edge(0, 0, 0);
            }
            long[][] rows = new long[panes][edges];
            for (int f = 0; f < panes; f++) {
                Checks.face(x, 0, rim(random, rows[f], 1 + random.nextInt(3)));
            }
            int i = 0;
            List<Long> factors = Model.factors(rows);
            for (long d : factors) {
                if (d > 1) {
                    CHECKS.same("crowded " + k + ": bend(0, " + i + ")", x.bend(0, i), d);
                    i++;
                }
            }
            CHECKS.same("crowded " + k + ": no more", x.bend(0, i), LoopSpaces.NONE);
            CHECKS.same("crowded " + k + ": rank", x.holes(0, 2, 0), panes - factors.size());
        }
    }

    private static String rim(Random random, long[] row, int kinds) {
        StringBuilder rim = new StringBuilder();
        int[] steps = random.ints(kinds, 0, 2 * row.length).toArray();
        for (int i = 0; i < 8; i++) {
            int step = steps[random.nextInt(kinds)];
            row[step / 2] += step % 2 == 0 ? 1 : -1;
            rim.append((char) ((step % 2 == 0 ? 'a' : 'A') + step / 2));
        }
        return rim.toString();
    }
}
