/** What the tests share: asking for an answer, and ending with what was wrong. */
final class Checks {
    private int asked;
    private int wrong;

    void same(String call, long got, long due) {
        asked++;
        if (got != due) {
            wrong++;
            System.out.println(call + " answered " + got + ", due is " + due);
        }
    }

    void holds(String what, boolean isSo) {
        asked++;
        if (!isSo) {
            wrong++;
            System.out.println("not so: " + what);
        }
    }

    boolean isClean() {
        return wrong == 0;
    }

    void end(String name) {
        System.out.println(name + ": " + asked + " asked, " + wrong + " wrong");
        if (wrong != 0) {
            System.exit(1);
        }
    }

    /** Puts a text on THE TAPE, eight bytes a call. */
    static void type(LoopSpaces x, String text) {
        for (int at = 0; at < text.length(); at += 8) {
            String piece = text.substring(at, Math.min(at + 8, text.length()));
            x.type(packed(piece), piece.length());
        }
    }

    static long packed(String piece) {
        long w = 0;
        for (int i = 0; i < piece.length(); i++) {
            w = w << 8 | piece.charAt(i) & 255;
        }
        return w;
    }

    static int text(LoopSpaces x, int space, String text) {
        type(x, text);
        return x.text(space);
    }

    static int face(LoopSpaces x, int space, String text) {
        type(x, text);
        return x.face(space);
    }

    static int word(LoopSpaces x, int slot, int space, String text) {
        type(x, text);
        return x.word(slot, space);
    }
}
