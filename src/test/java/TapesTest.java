/** Promises 5, 6, 19: every short ending of some tapes, as a text, a rim and a word, against the model. */
public final class TapesTest {
    private static final Checks CHECKS = new Checks();
    private static final int DEPTH = 3;
    private static final String TEXT_SIGNS = "12 ;a=0>:Abm";
    private static final String WORD_SIGNS = "abcABC d;1";
    private static final String ELEVEN = "1;a=0>0;b=0>0;c=0>0;d=0>0;e=0>0;f=0>0;g=0>0;h=0>0;i=0>0;j=0>0;k=0>0";
    private static final String SEVEN = ";:a;:a;:a;:a;:a;:a;:a";
    private static final String[] TEXTS = {"", "1", "2;a=0>1;b=1>0;", "1;a=0>0;:", "1;a=0>0;:aaaaaa",
        "2;a=0>1;b=1>0;:ab", ELEVEN + SEVEN, ELEVEN + SEVEN + ";:b", ELEVEN + ";l=0>0" + SEVEN,
        ELEVEN + ";l=0>0" + SEVEN + ";:b"};
    private static final String[] SPACES = {"2;a=0>1;b=1>0;c=1>1", "1;a=0>0;b=0>0"};
    private static final String[] WORDS = {"", "ababab", "ababababababab", "abABabABabABab", "aaaaaa", "aaaaaaaaaaaaaa"};

    public static void main(String[] args) {
        for (String begun : TEXTS) {
            endings(begun, TEXT_SIGNS, DEPTH, "");
        }
        for (String space : SPACES) {
            for (String begun : WORDS) {
                endings(begun, WORD_SIGNS, DEPTH, space);
            }
        }
        CHECKS.end("TapesTest");
    }

    /** The tape and all that comes of it by some signs behind; read as a text, if no space is told. */
    private static void endings(String tape, String signs, int left, String space) {
        LoopSpaces x = new LoopSpaces();
        Model m = new Model();
        if (space.isEmpty()) {
            text(x, m, tape);
        } else {
            text(x, m, space);
            word(x, m, tape);
            face(x, m, tape);
        }
        for (int i = 0; i < signs.length() && left > 0; i++) {
            endings(tape + signs.charAt(i), signs, left - 1, space);
        }
    }

    private static void put(LoopSpaces x, Model m, String tape) {
        Checks.type(x, tape);
        m.tape = tape;
    }

    private static void text(LoopSpaces x, Model m, String tape) {
        put(x, m, tape);
        CHECKS.same("text [" + tape + "]", x.text(0), m.text(0));
        for (int what = 0; what < 3; what++) {
            CHECKS.same("text [" + tape + "], count " + what, x.count(0, what), m.count(0, what));
        }
    }

    private static void word(LoopSpaces x, Model m, String tape) {
        put(x, m, tape);
        CHECKS.same("word [" + tape + "]", x.word(2, 0), m.word(2, 0));
        for (int what = 0; what < 4; what++) {
            CHECKS.same("word [" + tape + "], about " + what, x.about(2, what), m.about(2, what));
        }
        for (int i = 0; i <= 16; i++) {
            CHECKS.same("word [" + tape + "], step " + i, x.step(2, i), m.step(2, i));
        }
    }

    private static void face(LoopSpaces x, Model m, String tape) {
        put(x, m, tape);
        CHECKS.same("face [" + tape + "]", x.face(0), m.face(0));
        for (int i = 0; i <= 8; i++) {
            CHECKS.same("face [" + tape + "], rim " + i, x.rim(0, 0, i), m.rim(0, 0, i));
        }
    }
}
