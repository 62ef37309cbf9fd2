/** Promises 1 to 9: a new object, corners, edge, type, face, text, count, told, rim. */
public final class SpacesTest {
    private static final Checks CHECKS = new Checks();
    private static final String TORUS = "1;a=0>0;b=0>0;:abAB";
    private static final String FULL_EDGES =
        "1;a=0>0;b=0>0;c=0>0;d=0>0;e=0>0;f=0>0;g=0>0;h=0>0;i=0>0;j=0>0;k=0>0;l=0>0";
    private static final String EIGHT_PANES = ";:a;:a;:a;:a;:a;:a;:a;:a";

    public static void main(String[] args) {
        newObject();
        corners();
        edges();
        types();
        faces();
        texts();
        faults();
        counts();
        edgesTold();
        rims();
        CHECKS.end("SpacesTest");
    }

    private static void counted(LoopSpaces x, String what, int space, int... due) {
        for (int k = 0; k < due.length; k++) {
            CHECKS.same(what + ": count(" + space + ", " + k + ")", x.count(space, k), due[k]);
        }
    }

    private static void newObject() {
        LoopSpaces x = new LoopSpaces();
        counted(x, "new", 0, 1, 0, 0, 1, 1, 0);
        counted(x, "new", 1, 1, 0, 0, 1, 1, 0);
        CHECKS.same("new: count(2, 0)", x.count(2, 0), -1001);
        CHECKS.same("new: moves(0, 0)", x.moves(0, 0), LoopSpaces.NONE);
        for (int slot = 0; slot < 4; slot++) {
            CHECKS.same("new: about(" + slot + ", 0)", x.about(slot, 0), LoopSpaces.NONE);
            CHECKS.same("new: drop(" + slot + ")", x.drop(slot), LoopSpaces.NULL);
        }
        CHECKS.same("new: type", x.type('a', 1), 1);
        LoopSpaces other = new LoopSpaces();
        CHECKS.same("another object's tape", other.type('a', 1), 1);
    }

    private static void corners() {
        LoopSpaces x = new LoopSpaces();
        CHECKS.same("corners(0, 8)", x.corners(0, 8), 1);
        CHECKS.same("corners(0, 1)", x.corners(0, 1), 8);
        Checks.text(x, 0, TORUS);
        Checks.word(x, 0, 0, "ab");
        Checks.word(x, 1, 1, "");
        int[][] wrong = {{0, 0}, {0, 9}, {0, -1}, {2, 1}, {-1, 1}, {0, Integer.MIN_VALUE}, {Integer.MAX_VALUE, 3}};
        for (int[] w : wrong) {
            CHECKS.same("corners(" + w[0] + ", " + w[1] + ")", x.corners(w[0], w[1]), LoopSpaces.BAD);
        }
        counted(x, "refused", 0, 1, 2, 1, 0, 1, 2);
        CHECKS.same("a refused call keeps words", x.about(0, 0), 2);
        CHECKS.same("corners(0, 3)", x.corners(0, 3), 1);
        counted(x, "anew", 0, 3, 0, 0, 3, 1, 0);
        CHECKS.same("its slot is emptied", x.about(0, 0), LoopSpaces.NONE);
        CHECKS.same("the other space's is not", x.about(1, 0), 0);
        x.layer(1, 2, 0);
        CHECKS.same("corners(2, 1) without a layer", x.corners(2, 1), LoopSpaces.BAD);
        Checks.text(x, 0, TORUS);
        x.layer(0, 2, 0);
        CHECKS.same("corners(2, 1) with a layer", x.corners(2, 1), LoopSpaces.BAD);
    }

    private static void edges() {
        LoopSpaces x = new LoopSpaces();
        x.corners(1, 3);
        CHECKS.same("edge(1, 2, 0)", x.edge(1, 2, 0), 0);
        CHECKS.same("edge(1, 2, 2)", x.edge(1, 2, 2), 1);
        int[][] wrong = {{1, 3, 0}, {1, 0, 3}, {1, -1, 0}, {1, 0, -1}, {2, 0, 0}, {-1, 0, 0}, {0, 1, 0}};
        for (int[] w : wrong) {
            CHECKS.same("edge " + w[0] + " " + w[1] + " " + w[2], x.edge(w[0], w[1], w[2]), LoopSpaces.BAD);
        }
        CHECKS.same("refused ones are none", x.count(1, 1), 2);
        CHECKS.same("the other space has none", x.count(0, 1), 0);
        for (int e = 2; e < 12; e++) {
            CHECKS.same("edge " + e, x.edge(1, 0, 1), e);
        }
        CHECKS.same("a bad one ahead of full", x.edge(1, 0, 3), LoopSpaces.BAD);
        CHECKS.same("a 13th", x.edge(1, 0, 1), LoopSpaces.FULL);
        CHECKS.same("12 stay", x.count(1, 1), 12);
        LoopSpaces y = new LoopSpaces();
        Checks.text(y, 0, TORUS);
        y.layer(0, 2, 0);
        CHECKS.same("no edge for the layer", y.edge(2, 0, 0), LoopSpaces.BAD);
        CHECKS.same("no face for the layer", Checks.face(y, 2, "a"), LoopSpaces.BAD);
        CHECKS.same("no text for the layer", y.text(2), LoopSpaces.BAD);
        Checks.word(y, 0, 0, "");
        CHECKS.same("words stay with a new edge", Checks.word(y, 0, 0, "ab"), 2);
        y.edge(0, 0, 0);
        CHECKS.same("words stay behind edge()", y.about(0, 0), 2);
    }

    private static void types() {
        LoopSpaces x = new LoopSpaces();
        CHECKS.same("type 0 bytes", x.type(97, 0), LoopSpaces.BAD);
        for (int n : new int[] {9, 10, 16, 64, Integer.MAX_VALUE, Integer.MIN_VALUE}) {
            CHECKS.same("type " + n + " bytes", x.type(Checks.packed("aaaaaaaa"), n), LoopSpaces.BAD);
        }
        CHECKS.same("type -1 bytes", x.type(97, -1), LoopSpaces.BAD);
        CHECKS.same("byte 31", x.type(31, 1), LoopSpaces.BAD);
        CHECKS.same("byte 127", x.type(127, 1), LoopSpaces.BAD);
        CHECKS.same("byte 0 among them", x.type(97, 2), LoopSpaces.BAD);
        CHECKS.same("bytes 255", x.type(-1L, 8), LoopSpaces.BAD);
        CHECKS.same("byte 32", x.type(32, 1), 1);
        CHECKS.same("byte 126", x.type(126, 1), 2);
        CHECKS.same("the highest bytes count for nothing", x.type(0xFF00000000000000L | 49, 1), 3);
        LoopSpaces y = new LoopSpaces();
        y.type(Checks.packed("1;a=0>0;"), 8);
        y.type(Checks.packed("zz:aaa") , 4);
        CHECKS.same("the lowest bytes, the highest of them first", y.text(0), 1);
        CHECKS.same("three letters", y.rim(0, 0, 2), 0);
        LoopSpaces z = new LoopSpaces();
        for (int k = 1; k <= 14; k++) {
            CHECKS.same("typed", z.type(Checks.packed("aaaaaaaa"), 8), 8 * k);
        }
        CHECKS.same("to 119", z.type(Checks.packed("aaaaaaa"), 7), 119);
        CHECKS.same("beyond 120", z.type(Checks.packed("aa"), 2), LoopSpaces.FULL);
        CHECKS.same("bad ahead of full", z.type(7, 2), LoopSpaces.BAD);
        CHECKS.same("to 120", z.type(Checks.packed("a"), 1), 120);
        CHECKS.same("at 120", z.type(Checks.packed("a"), 1), LoopSpaces.FULL);
    }

    private static void faces() {
        LoopSpaces x = new LoopSpaces();
        Checks.text(x, 0, "3;a=0>1;b=1>2;c=2>0;d=1>1");
        CHECKS.same("face abc", Checks.face(x, 0, "abc"), 0);
        CHECKS.same("face from corner 1", Checks.face(x, 0, "bcadDd"), 1);
        CHECKS.same("a rim need not be reduced", Checks.face(x, 0, "aAaAaAaA"), 2);
        CHECKS.same("eight steps are kept", x.rim(0, 2, 7), 100);
        CHECKS.same("blanks", Checks.face(x, 0, " d  d "), 3);
        CHECKS.same("no letter", x.face(0), -20);
        CHECKS.same("blanks alone", Checks.face(x, 0, "   "), -23);
        CHECKS.same("nine letters", Checks.face(x, 0, "ddddddddd"), -28);
        CHECKS.same("nine letters, blanks", Checks.face(x, 0, "d dd ddddd d"), -31);
        CHECKS.same("does not go on", Checks.face(x, 0, "ab a"), -23);
        CHECKS.same("no such edge", Checks.face(x, 0, "abe"), -22);
        CHECKS.same("no such edge back", Checks.face(x, 0, "E"), -20);
        CHECKS.same("does not lead back", Checks.face(x, 0, "ab"), -22);
        CHECKS.same("does not lead back, blanks", Checks.face(x, 0, "ab  "), -24);
        CHECKS.same("no letter behind", Checks.face(x, 0, "d;"), -21);
        CHECKS.same("no letter behind what does not lead back", Checks.face(x, 0, "a ;"), -22);
        CHECKS.same("a digit", Checks.face(x, 0, "1"), -20);
        CHECKS.same("the tape is empty behind a fault", x.type('d', 1), 1);
        CHECKS.same("face(2)", x.face(2), LoopSpaces.BAD);
        CHECKS.same("face(-1)", x.face(-1), LoopSpaces.BAD);
        CHECKS.same("the tape stays behind BAD", x.face(0), 4);
        CHECKS.same("and is empty then", x.type('d', 1), 1);
        for (int f = 5; f < 8; f++) {
            CHECKS.same("face " + f, f == 5 ? x.face(0) : Checks.face(x, 0, "d"), f);
        }
        CHECKS.same("a fault ahead of full", Checks.face(x, 0, "a"), -21);
        CHECKS.same("a ninth", Checks.face(x, 0, "d"), LoopSpaces.FULL);
        CHECKS.same("the tape is empty behind full", x.type('d', 1), 1);
        CHECKS.same("8 stay", x.count(0, 2), 8);
    }

    private static void texts() {
        LoopSpaces x = new LoopSpaces();
        CHECKS.same("torus", Checks.text(x, 0, TORUS), 1);
        counted(x, "torus", 0, 1, 2, 1, 0, 1, 2);
        CHECKS.same("no clauses", Checks.text(x, 1, "8"), 0);
        counted(x, "eight corners", 1, 8, 0, 0, 8, 1, 0);
        CHECKS.same("panes among edges", Checks.text(x, 1, "2;a=1>1;:a;b=0>1;:bAB"), 2);
        CHECKS.same("its tree", x.told(1, 1, 2), 1);
        CHECKS.same("blanks", Checks.text(x, 1, "  2 ; a = 1 > 0 ; : a A a A  "), 1);
        CHECKS.same("from", x.told(1, 0, 0), 1);
        CHECKS.same("rim", x.rim(1, 0, 3), 100);
        CHECKS.same("a number may begin with 0", Checks.text(x, 1, "002;a=01>0"), 0);
        CHECKS.same("its corners", x.count(1, 0), 2);
        CHECKS.same("twelve edges", Checks.text(x, 1, FULL_EDGES), 0);
        CHECKS.same("and eight panes", Checks.text(x, 1, FULL_EDGES + EIGHT_PANES), 8);
        counted(x, "all full", 1, 1, 12, 8, -3, 1, 12);
        Checks.word(x, 0, 0, "ab");
        Checks.word(x, 1, 1, "lK");
        CHECKS.same("a fault", Checks.text(x, 1, "1;"), -22);
        counted(x, "the space stays", 1, 1, 12, 8, -3, 1, 12);
        CHECKS.same("its words stay", x.about(1, 0), 2);
        CHECKS.same("the tape is empty", x.type('1', 1), 1);
        CHECKS.same("text(2)", x.text(2), LoopSpaces.BAD);
        CHECKS.same("text(-1)", x.text(-1), LoopSpaces.BAD);
        CHECKS.same("the tape stays", x.text(1), 0);
        CHECKS.same("its words go", x.about(1, 0), LoopSpaces.NONE);
        CHECKS.same("the other's stay", x.about(0, 0), 2);
    }

    /** The FAULT, and the same behind blanks. */
    private static void fault(String text, int due) {
        faultOf(text, due);
        int place = -20 - due;
        faultOf(text.substring(0, place) + "  " + text.substring(place), due - 2);
    }

    private static void faultOf(String text, int due) {
        LoopSpaces x = new LoopSpaces();
        x.corners(1, 5);
        CHECKS.same("text " + text, Checks.text(x, 1, text), due);
        CHECKS.same("corners stay, text " + text, x.count(1, 0), 5);
    }

    private static void faults() {
        fault("", -20);
        fault("   ", -23);
        fault("0", -20);
        fault("9", -20);
        fault(" 9", -21);
        fault("10", -20);
        fault("  99999999999999999999", -22);
        fault("1 0", -22);
        fault("a", -20);
        fault("-1", -20);
        fault("1;", -22);
        fault("1 ;  ", -25);
        fault("1:a", -21);
        fault("1;A=0>0", -22);
        fault("1;b=0>0", -22);
        fault("1;a", -23);
        fault("1;a>0>0", -23);
        fault("1;a=", -24);
        fault("1;a=x", -24);
        fault("1;a=1>0", -24);
        fault("1;a=0=0", -25);
        fault("1;a=0>", -26);
        fault("2;a=0>2", -26);
        fault("2;a=0>12", -26);
        fault("2;a=0>1 0", -28);
        fault("2;a=0>1a", -27);
        fault("1;a=0>0;;", -28);
        fault("1;a=0>0;:", -29);
        fault("1;a=0>0; : ;", -31);
        fault("1;a=0>0;:b", -29);
        fault("1;a=0>0;:a B", -31);
        fault("1;a=0>0;:z", -29);
        fault("1;a=0>0;:a1", -30);
        fault("1;a=0>0;:aaaaaaaaa", -37);
        fault("1;:a;a=0>0", -23);
        fault("2;a=0>1;:a", -30);
        fault("2;a=0>1;:a ; :", -31);
        fault("2;a=0>1;:aa", -30);
        fault("2;a=0>1;:aA;", -32);
        fault("1;a=0>0;a=0>0", -28);
        fault(FULL_EDGES + ";m=0>0", -94);
        fault(FULL_EDGES + EIGHT_PANES + ";:a", -20 - 73 - 25);
        fault(FULL_EDGES + EIGHT_PANES + ";m", -20 - 73 - 25);
        fault(FULL_EDGES + EIGHT_PANES + ";", -20 - 73 - 25);
        fault(FULL_EDGES + EIGHT_PANES + ";;", -20 - 73 - 25);
        fault(FULL_EDGES + EIGHT_PANES + "  x", -20 - 73 - 26);
        fault("1;a=0>0" + EIGHT_PANES + ";:a", -52);
    }

    private static void counts() {
        LoopSpaces x = new LoopSpaces();
        Checks.text(x, 0, "5;a=3>4;b=1>0;c=1>2;d=2>0;e=4>4;f=0>0;:bDC;:e");
        counted(x, "two pieces", 0, 5, 6, 2, 1, 3, 2);
        CHECKS.same("what -1", x.count(0, -1), -1001);
        CHECKS.same("what 6", x.count(0, 6), -1001);
        CHECKS.same("space -1", x.count(-1, 0), -1001);
        CHECKS.same("space 3", x.count(3, 0), -1001);
        CHECKS.same("no layer", x.count(2, 0), -1001);
        x.layer(0, 2, 0);
        counted(x, "its layer", 2, 6, 8, 2, 0, 6, 3);
        CHECKS.same("what 6 of the layer", x.count(2, 6), -1001);
    }

    private static void edgesTold() {
        LoopSpaces x = new LoopSpaces();
        Checks.text(x, 0, "5;a=3>4;b=1>2;c=2>0;d=1>0;e=4>4;f=1>2");
        int[][] due = {{3, 4, 0}, {1, 2, 1}, {2, 0, 1}, {1, 0, 0}, {4, 4, 0}, {1, 2, 0}};
        for (int e = 0; e < due.length; e++) {
            for (int what = 0; what < 3; what++) {
                CHECKS.same("told(0, " + e + ", " + what + ")", x.told(0, e, what), due[e][what]);
            }
        }
        int[][] wrong = {{0, 6, 0}, {0, -1, 0}, {0, 0, 3}, {0, 0, -1}, {1, 0, 0}, {2, 0, 0}, {3, 0, 0}, {-1, 0, 0}};
        for (int[] w : wrong) {
            CHECKS.same("told " + w[0] + " " + w[1] + " " + w[2], x.told(w[0], w[1], w[2]), LoopSpaces.BAD);
        }
        x.edge(0, 0, 4);
        CHECKS.same("a new edge of the tree", x.told(0, 6, 2), 1);
        CHECKS.same("and one that it leads to", x.told(0, 0, 2), 1);
    }

    private static void rims() {
        LoopSpaces x = new LoopSpaces();
        Checks.text(x, 1, FULL_EDGES + ";:lLaB;:c");
        int[] due = {11, 111, 0, 101, -1};
        for (int i = 0; i < due.length; i++) {
            CHECKS.same("rim(1, 0, " + i + ")", x.rim(1, 0, i), due[i]);
        }
        CHECKS.same("rim(1, 1, 0)", x.rim(1, 1, 0), 2);
        int[][] wrong = {{1, 2, 0}, {1, -1, 0}, {1, 0, -1}, {1, 1, 1}, {0, 0, 0}, {2, 0, 0}, {-1, 0, 0}, {1, 0, Integer.MAX_VALUE}};
        for (int[] w : wrong) {
            CHECKS.same("rim " + w[0] + " " + w[1] + " " + w[2], x.rim(w[0], w[1], w[2]), LoopSpaces.BAD);
        }
    }
}
