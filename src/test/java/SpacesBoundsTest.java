import java.util.EnumSet;

/** Promises 1 to 9: each bound that the document names, each refusal, the first of several. */
public final class SpacesBoundsTest {
    private static final int BAD = LoopSpaces.BAD;
    private static final int FULL = LoopSpaces.FULL;
    private static final int NONE = LoopSpaces.NONE;
    private static final int COUNT_BAD = -1001;
    private static final Bounds BOUNDS = new Bounds();
    private static final Story RICH = Bounds.RICH;
    private static final String LETTERS = "abcdefghijkl";
    private static final String TWELVE = edges(12);
    private static final Story TWELVE_EDGES = RICH.then("face", 0).text(0, TWELVE);
    private static final Story TWELVE_FREE = Story.NEW.text(1, TWELVE);
    private static final Story EIGHT_PANES = RICH.then("face", 0).text(0, "2;a=0>1;b=1>1" + panes(8));

    public static void main(String[] args) {
        newObject();
        corners();
        edgeNumbers();
        edgesFull();
        typedNumbers();
        typedBytes();
        typedFull();
        faceSpaces();
        faceLengths();
        faceFaults();
        faceSigns();
        facesFull();
        textSpaces();
        textNumbers();
        textSigns();
        textClauses();
        textRims();
        textFullOfAll();
        textLengths();
        textAnew();
        counts();
        edgesTold();
        rims();
        BOUNDS.end("SpacesBoundsTest", "corners BAD", "edge BAD FULL", "type BAD FULL", "face BAD FAULT FULL",
            "text BAD FAULT", "count BAD", "told BAD", "rim BAD");
    }

    private static String edges(int n) {
        StringBuilder text = new StringBuilder("1");
        for (int e = 0; e < n; e++) {
            text.append(';').append((char) ('a' + e)).append("=0>0");
        }
        return text.toString();
    }

    private static String panes(int n) {
        return ";:b".repeat(n);
    }

    private static void counted(String sentence, Story ahead, int space, int... due) {
        for (int what = 0; what < due.length; what++) {
            BOUNDS.takes(sentence, ahead, due[what], "count", space, what);
        }
    }

    /** "Two SPACES of one CORNER; no LAYER; no WORDS." SHEETS hold nothing at first; THE TAPE is empty. */
    private static void newObject() {
        counted("two spaces of one corner", Story.NEW, 0, 1, 0, 0, 1, 1, 0);
        counted("two spaces of one corner", Story.NEW, 1, 1, 0, 0, 1, 1, 0);
        counted("no layer", Story.NEW, 2, COUNT_BAD, COUNT_BAD, COUNT_BAD, COUNT_BAD, COUNT_BAD, COUNT_BAD);
        BOUNDS.takes("no layer", Story.NEW, BAD, "storeys", 2);
        BOUNDS.takes("no layer", Story.NEW, NONE, "moves", 0, 0);
        BOUNDS.takes("no layer", Story.NEW, NONE, "lift", 0, 0);
        for (int k = 0; k < 4; k++) {
            BOUNDS.takes("no words", Story.NEW, NONE, "about", k, 0);
            BOUNDS.takes("no words", Story.NEW, NONE, "step", k, 0);
            BOUNDS.takes("no words", Story.NEW, LoopSpaces.NOT, "moved", k);
            BOUNDS.takes("no words", Story.NEW, LoopSpaces.NOT, "drawn", k, k);
            BOUNDS.takes("sheets hold nothing at first", Story.NEW, LoopSpaces.NULL, "drop", k);
        }
        BOUNDS.takes("the tape is empty", Story.NEW, 1, "type", 'a', 1);
        BOUNDS.takes("the tape is empty", Story.NEW, -20, "text", 0);
    }

    /** "A SPACE (0, 1) of C CORNERS (C 1 .. 8), no EDGES, no PANES: what C was. BAD." */
    private static void corners() {
        BOUNDS.range("a space (0, 1)", Story.NEW, 0, 1, BAD, "corners", Bounds.numbers(0, 3), 0);
        BOUNDS.range("a space (0, 1)", RICH, 0, 1, BAD, "corners", Bounds.numbers(0, 3), 0);
        BOUNDS.range("C 1 .. 8", Story.NEW, 1, 8, BAD, "corners", Bounds.numbers(1, 0), 1);
        BOUNDS.range("C 1 .. 8", RICH, 1, 8, BAD, "corners", Bounds.numbers(0, 0), 1);
        for (int c = 1; c <= 8; c++) {
            Story story = RICH.then("corners", 0, c);
            BOUNDS.takes("what C was", RICH, 3, "corners", 0, c);
            BOUNDS.takes("what C was", story, c, "corners", 0, 1);
            counted("no edges, no panes", story, 0, c, 0, 0, c, 1, 0);
            BOUNDS.takes("no edges", story, BAD, "told", 0, 0, 0);
            BOUNDS.takes("no panes", story, BAD, "rim", 0, 0, 0);
        }
        BOUNDS.changesOnly("a space and its slots", RICH, EnumSet.of(Story.Part.SPACE_0, Story.Part.SLOT_0,
            Story.Part.SLOT_2), "corners", 0, 3);
        BOUNDS.changesOnly("a space and its slots", RICH, EnumSet.of(Story.Part.SPACE_1, Story.Part.SLOT_1),
            "corners", 1, 1);
        BOUNDS.takes("slots are emptied by corners", RICH.then("corners", 0, 3), NONE, "about", 0, 0);
        BOUNDS.takes("slots are emptied by corners", RICH.then("corners", 0, 3), NONE, "about", 2, 0);
    }

    /** "EDGES from a CORNER to one (the same, too)"; "An EDGE: its number. BAD". */
    private static void edgeNumbers() {
        BOUNDS.range("a space (0, 1)", Story.NEW, 0, 1, BAD, "edge", Bounds.numbers(0, 0, 0), 0);
        BOUNDS.range("a space (0, 1)", RICH, 0, 1, BAD, "edge", Bounds.numbers(0, 0, 0), 0);
        for (int c = 1; c <= 8; c++) {
            Story story = RICH.then("corners", 0, c);
            for (int place = 1; place <= 2; place++) {
                BOUNDS.range("corners 0 .. C - 1", story, 0, c - 1, BAD, "edge", Bounds.numbers(0, 0, 0), place);
            }
            Story same = story.then("edge", 0, c - 1, c - 1);
            BOUNDS.takes("from", same, c - 1, "told", 0, 0, 0);
            BOUNDS.takes("to the same, too", same, c - 1, "told", 0, 0, 1);
            BOUNDS.takes("from the last to the first", story.then("edge", 0, c - 1, 0), c - 1, "told", 0, 0, 0);
            BOUNDS.takes("from the last to the first", story.then("edge", 0, c - 1, 0), 0, "told", 0, 0, 1);
        }
        BOUNDS.takes("its number", Story.NEW, 0, "edge", 0, 0, 0);
        BOUNDS.takes("its number", RICH, 4, "edge", 0, 2, 1);
        BOUNDS.takes("its number", RICH, 2, "edge", 1, 0, 0);
        BOUNDS.changesOnly("an edge alone", RICH, EnumSet.of(Story.Part.SPACE_0), "edge", 0, 2, 1);
        BOUNDS.changesOnly("an edge alone", RICH, EnumSet.of(Story.Part.SPACE_1), "edge", 1, 0, 0);
    }

    /** "EDGES 0 .. (12 at most)"; "BAD; FULL: 12." */
    private static void edgesFull() {
        Story eleven = RICH.then("face", 0).text(0, edges(11));
        BOUNDS.takes("12 at most", eleven, 11, "edge", 0, 0, 0);
        BOUNDS.refuses("12 at most", eleven.then("edge", 0, 0, 0), FULL, "edge", 0, 0, 0);
        BOUNDS.refuses("12 at most", TWELVE_EDGES, FULL, "edge", 0, 0, 0);
        BOUNDS.refuses("bad ahead of full", TWELVE_EDGES, BAD, "edge", 0, 0, 1);
        BOUNDS.refuses("bad ahead of full", TWELVE_EDGES, BAD, "edge", 0, -1, 0);
        BOUNDS.refuses("bad ahead of full", TWELVE_EDGES, BAD, "edge", 2, 0, 0);
        BOUNDS.takes("the other space is not full", TWELVE_EDGES, 2, "edge", 1, 0, 0);
        BOUNDS.takes("no longer full", TWELVE_EDGES.then("corners", 0, 2), 0, "edge", 0, 1, 0);
        Story joined = TWELVE_EDGES.text(0, edges(6)).text(1, edges(6)).then("join");
        BOUNDS.refuses("full by join", joined, FULL, "edge", 0, 0, 0);
        BOUNDS.takes("the joined one is not", joined, 6, "edge", 1, 0, 0);
        BOUNDS.takes("no longer full", TWELVE_EDGES.face(0, "l").then("fold", 0), 11, "edge", 0, 0, 0);
    }

    /** "The n lowest bytes (1 .. 8) of w, of these the highest first, come behind THE TAPE: how many it has." */
    private static void typedNumbers() {
        long eight = Checks.packed("abcdefgh");
        BOUNDS.range("n 1 .. 8", Story.NEW, 1, 8, BAD, "type", Bounds.numbers(eight, 0), 1);
        BOUNDS.range("n 1 .. 8", RICH, 1, 8, BAD, "type", Bounds.numbers(eight, 0), 1);
        for (int n = 1; n <= 8; n++) {
            BOUNDS.takes("how many it has", Story.NEW, n, "type", eight, n);
            BOUNDS.takes("how many it has", RICH, 2 + n, "type", eight, n);
            Story word = TWELVE_EDGES.then("type", eight, n).then("word", 3, 0);
            for (int i = 0; i < n; i++) {
                BOUNDS.takes("the n lowest, the highest first", word, 8 - n + i, "step", 3, i);
            }
            BOUNDS.takes("no more than n", word, n, "about", 3, 0);
        }
        Story behind = TWELVE_EDGES.then("type", 'c', 1).then("type", 'a', 1).then("word", 3, 0);
        BOUNDS.takes("behind the tape", behind, 2, "step", 3, 0);
        BOUNDS.takes("behind the tape", behind, 0, "step", 3, 1);
        BOUNDS.changesOnly("the tape alone", RICH, EnumSet.of(Story.Part.TAPE), "type", 'a', 1);
    }

    /** "BAD: a byte not 32 .. 126". */
    private static void typedBytes() {
        for (int n = 1; n <= 8; n++) {
            for (int place = 0; place < 8; place++) {
                for (long sign : new long[] {0, 31, 127, 128, 255}) {
                    long w = withByte(Checks.packed("aaaaaaaa"), place, sign);
                    if (place < n) {
                        BOUNDS.refuses("a byte not 32 .. 126", RICH, BAD, "type", w, n);
                    } else {
                        BOUNDS.takes("the n lowest bytes alone", RICH, 2 + n, "type", w, n);
                    }
                }
                for (long sign : new long[] {32, 126}) {
                    BOUNDS.takes("bytes 32 .. 126", RICH, 2 + n, "type", withByte(Checks.packed("aaaaaaaa"), place, sign), n);
                }
            }
        }
        for (int sign = 0; sign < 256; sign++) {
            BOUNDS.takes("each byte", Story.NEW, sign >= 32 && sign <= 126 ? 1 : BAD, "type", sign, 1);
        }
    }

    private static long withByte(long w, int place, long sign) {
        return w & ~(255L << 8 * place) | sign << 8 * place;
    }

    /** "FULL: 120." */
    private static void typedFull() {
        long eight = Checks.packed("aaaaaaaa");
        for (int n = 1; n <= 8; n++) {
            Story room = RICH.typed("a".repeat(118 - n));
            BOUNDS.takes("120 are taken", room, 120, "type", eight, n);
            BOUNDS.refuses("121 are not", room.then("type", 'a', 1), FULL, "type", eight, n);
            BOUNDS.refuses("none at 120", room.then("type", eight, n), FULL, "type", eight, n);
        }
        Story full = RICH.typed("a".repeat(118));
        BOUNDS.refuses("bad ahead of full: n", full, BAD, "type", eight, 0);
        BOUNDS.refuses("bad ahead of full: n", full, BAD, "type", eight, 9);
        BOUNDS.refuses("bad ahead of full: a byte", full, BAD, "type", 31, 1);
        BOUNDS.refuses("bad ahead of full: a byte", full, BAD, "type", 127, 1);
        BOUNDS.takes("empty again", full.then("text", 0), 8, "type", eight, 8);
        BOUNDS.takes("empty again", full.then("face", 0), 8, "type", eight, 8);
        BOUNDS.takes("empty again", full.then("word", 0, 0), 8, "type", eight, 8);
    }

    /** "BAD (THE TAPE stays)": of SPACES. */
    private static void faceSpaces() {
        BOUNDS.range("a space (0, 1)", RICH, 0, 1, BAD, "face", Bounds.numbers(0), 0);
        BOUNDS.range("a space (0, 1)", Story.NEW.typed("a"), 0, 1, BAD, "face", Bounds.numbers(0), 0);
        BOUNDS.takes("the tape stays", RICH.then("face", 2), 2, "face", 0);
        BOUNDS.takes("its number", RICH, 2, "face", 0);
        BOUNDS.takes("the tape is empty then", RICH.then("face", 0), 1, "type", 'a', 1);
        BOUNDS.changesOnly("a pane alone", RICH, EnumSet.of(Story.Part.SPACE_0, Story.Part.TAPE), "face", 0);
        BOUNDS.refuses("bad ahead of a fault", RICH.typed(";"), BAD, "face", 2);
        BOUNDS.refuses("bad ahead of full", EIGHT_PANES.typed("b"), BAD, "face", -1);
    }

    /** "a PANE's RIM is a WORD of 1 to 8 STEPS": kept as it is told, not REDUCED. */
    private static void faceLengths() {
        Story bare = RICH.then("face", 1);
        for (int length = 1; length <= 8; length++) {
            Story story = bare.face(0, "dD".repeat(4).substring(0, length));
            BOUNDS.takes("1 to 8 steps", story, length % 2 == 1 ? 3 : 103, "rim", 0, 2, length - 1);
            BOUNDS.takes("1 to 8 steps", story, BAD, "rim", 0, 2, length);
        }
        BOUNDS.faults("none", bare, 0, "face", 0);
        BOUNDS.faults("none", bare.typed("    "), 4, "face", 0);
        BOUNDS.faults("a ninth letter", bare.typed("ddddddddd"), 8, "face", 0);
        BOUNDS.faults("a ninth letter behind blanks", bare.typed("d dddd ddd  d"), 12, "face", 0);
        BOUNDS.faults("a ninth letter, though the rim would lead back", bare.typed("aAaAaAaAdd"), 8, "face", 0);
        BOUNDS.faults("a ninth letter, where eight do not lead back", bare.typed("adddddddA"), 8, "face", 0);
        BOUNDS.takes("blanks count for nothing", bare.typed("  d d  d  "), 2, "face", 0);
    }

    /** The places of FAULTS of a RIM. */
    private static void faceFaults() {
        Story bare = RICH.then("face", 1);
        BOUNDS.faults("a letter that names no edge", bare.typed("e"), 0, "face", 0);
        BOUNDS.faults("a letter that names no edge", bare.typed("E"), 0, "face", 0);
        BOUNDS.faults("a letter that names no edge", bare.typed("d  e"), 3, "face", 0);
        BOUNDS.faults("a letter that names no edge", bare.typed("ddE"), 2, "face", 0);
        BOUNDS.faults("a letter that does not go on", bare.typed("aa"), 1, "face", 0);
        BOUNDS.faults("a letter that does not go on", bare.typed("a b b"), 4, "face", 0);
        BOUNDS.faults("a letter that does not go on", bare.typed("aB"), 1, "face", 0);
        BOUNDS.faults("a letter that does not go on", bare.typed("Aa A  A"), 6, "face", 0);
        BOUNDS.faults("does not lead back: the end", bare.typed("ab"), 2, "face", 0);
        BOUNDS.faults("does not lead back: the end behind blanks", bare.typed("ab   "), 5, "face", 0);
        BOUNDS.faults("does not lead back: what is behind", bare.typed("ab  ;"), 4, "face", 0);
        BOUNDS.faults("does not lead back: eight letters", bare.typed("addddddd"), 8, "face", 0);
        BOUNDS.faults("leads back: what is behind", bare.typed("abc ;c"), 4, "face", 0);
        BOUNDS.faults("the first of several", bare.typed("a;ea"), 1, "face", 0);
        BOUNDS.takes("from any corner", bare.typed("bca"), 2, "face", 0);
        BOUNDS.takes("back", bare.typed("CBA"), 2, "face", 0);
    }

    /** "letters alone": a .. l and A .. L name EDGES, no other byte stands in a RIM or a WORD. */
    private static void faceSigns() {
        Story full = TWELVE_EDGES;
        Story eleven = full.text(0, edges(11));
        for (char sign = 33; sign <= 126; sign++) {
            int edge = LETTERS.indexOf(Character.toLowerCase(sign));
            int due = edge < 0 ? -20 : edge + (sign < 'a' ? 100 : 0);
            String typed = String.valueOf(sign);
            BOUNDS.takes("sign " + sign + " as a rim", full.typed(typed), edge < 0 ? -20 : 0, "face", 0);
            BOUNDS.takes("sign " + sign + " as a word", full.typed(typed), edge < 0 ? -20 : 1, "word", 3, 0);
            BOUNDS.takes("sign " + sign + " of eleven", eleven.typed(typed), edge < 0 || edge == 11 ? -20 : 0, "face", 0);
            if (edge >= 0) {
                BOUNDS.takes("sign " + sign, full.face(0, typed), due, "rim", 0, 0, 0);
                BOUNDS.takes("sign " + sign, full.word(3, 0, typed), due, "step", 3, 0);
            } else {
                BOUNDS.takes("sign " + sign + " behind", full.typed("a" + typed), -21, "face", 0);
                BOUNDS.takes("sign " + sign + " behind", full.typed("a " + typed), -22, "word", 3, 0);
            }
        }
    }

    /** "PANES 0 .. (8 at most)"; "BAD; a FAULT; FULL: 8." */
    private static void facesFull() {
        Story seven = RICH.then("face", 0).text(0, "2;a=0>1;b=1>1" + panes(7)).typed("bB");
        BOUNDS.takes("8 at most", seven, 7, "face", 0);
        BOUNDS.takes("the eighth is kept", seven.then("face", 0), 101, "rim", 0, 7, 1);
        BOUNDS.emptiesTape("8 at most", seven.then("face", 0).typed("b"), FULL, "face", 0);
        BOUNDS.emptiesTape("8 at most", EIGHT_PANES.typed("bB"), FULL, "face", 0);
        BOUNDS.faults("a fault ahead of full", EIGHT_PANES, 0, "face", 0);
        BOUNDS.faults("a fault ahead of full", EIGHT_PANES.typed("a"), 1, "face", 0);
        BOUNDS.faults("a fault ahead of full", EIGHT_PANES.typed("bbbbbbbbb"), 8, "face", 0);
        BOUNDS.takes("the other space is not full", EIGHT_PANES.typed("b"), 1, "face", 1);
        BOUNDS.takes("no longer full", EIGHT_PANES.then("corners", 0, 1).then("edge", 0, 0, 0).typed("a"), 0, "face", 0);
        Story joined = EIGHT_PANES.text(0, "1;a=0>0;:a;:a;:a;:a").text(1, "1;a=0>0;:a;:a;:a;:a").then("join");
        BOUNDS.emptiesTape("full by join", joined.typed("a"), FULL, "face", 0);
    }

    /** "BAD (THE TAPE stays); a FAULT (the SPACE stays)." */
    private static void textSpaces() {
        Story told = RICH.then("face", 0).typed("2;a=1>0");
        BOUNDS.range("a space (0, 1)", told, 0, 1, BAD, "text", Bounds.numbers(0), 0);
        BOUNDS.range("a space (0, 1)", Story.NEW.typed("2;a=1>0"), 0, 1, BAD, "text", Bounds.numbers(0), 0);
        BOUNDS.takes("the tape stays", told.then("text", 2), 0, "text", 1);
        BOUNDS.refuses("bad ahead of a fault", RICH.typed(";"), BAD, "text", 2);
        BOUNDS.changesOnly("a space, its slots, the tape", told, EnumSet.of(Story.Part.SPACE_0, Story.Part.SLOT_0,
            Story.Part.SLOT_2, Story.Part.TAPE), "text", 0);
        BOUNDS.changesOnly("a space, its slots, the tape", told, EnumSet.of(Story.Part.SPACE_1, Story.Part.SLOT_1,
            Story.Part.TAPE), "text", 1);
        BOUNDS.takes("the tape is empty then", told.then("text", 0), 1, "type", 'a', 1);
        BOUNDS.takes("slots are emptied by text", told.then("text", 0), NONE, "about", 0, 0);
        BOUNDS.takes("slots are emptied by text", told.then("text", 1), NONE, "about", 1, 0);
    }

    /** A FAULT in a text, as it stands and with blanks ahead of its place. */
    private static void fault(String sentence, String text, int place) {
        Story bare = RICH.then("face", 0);
        BOUNDS.faults(sentence, bare.typed(text), place, "text", 0);
        String blanks = text.substring(0, place) + "  " + text.substring(place);
        BOUNDS.faults(sentence + ", behind blanks", bare.typed(blanks), place + 2, "text", 0);
    }

    private static void stands(String sentence, String text, int panes, int... counts) {
        Story told = RICH.then("face", 0).typed(text);
        BOUNDS.takes(sentence + " " + text, told, panes, "text", 0);
        counted(sentence + " " + text, told.then("text", 0), 0, counts);
    }

    /** "of a number beyond its first byte"; C 1 .. 8, CORNERS 0 .. C - 1; no bytes 32 in a number. */
    private static void textNumbers() {
        for (int c = 1; c <= 8; c++) {
            stands("C 1 .. 8", String.valueOf(c), 0, c, 0, 0);
            String ends = c + ";a=" + (c - 1) + ">" + (c - 1);
            stands("corners 0 .. C - 1", ends, 0, c, 1, 0);
            fault("a corner beyond", c + ";a=" + c + ">0", 4);
            fault("a corner beyond", c + ";a=0>" + c, 6);
            fault("a corner far beyond", c + ";a=" + c + "0>0", 4);
            fault("a corner far beyond", c + ";a=0>99999999999999999999", 6);
        }
        fault("C below", "0", 0);
        fault("C beyond", "9", 0);
        fault("C beyond", "10", 0);
        for (int second = 0; second <= 9; second++) {
            fault("C beyond, of two bytes", "1" + second, 0);
            fault("a corner beyond, of two bytes", "8;a=1" + second + ">0", 4);
            fault("a corner beyond, of two bytes", "8;a=0>1" + second, 6);
            fault("a corner beyond, of two bytes", "8;a=9>" + second, 4);
        }
        fault("C far beyond", "18446744073709551617", 0);
        fault("C far beyond", "4294967297;a=0>0", 0);
        fault("no number", "", 0);
        fault("no number", ";a=0>0", 0);
        fault("no number", "-1", 0);
        fault("no number", "+1", 0);
        fault("no blank in a number", "1 2", 2);
        fault("no blank in a number", "1 ;a=0 0>0", 7);
        fault("no number", "1;a=>0", 4);
        fault("no number", "1;a=0>", 6);
        fault("no number", "1;a=0>;", 6);
        fault("no number", "1;a=0>a", 6);
        fault("behind a number", "1a", 1);
        fault("behind a number", "2;a=0>1:", 7);
    }

    /** Every other sign than these can't stand behind what is ahead. */
    private static void onlySigns(String sentence, String signs, String ahead, String behind) {
        for (char sign = 33; sign <= 126; sign++) {
            if (signs.indexOf(sign) < 0) {
                fault(sentence + ", sign " + sign, ahead + sign + behind, ahead.length());
            }
        }
    }

    private static void textSigns() {
        String digits = "0123456789";
        onlySigns("C", "12345678", "", "");
        onlySigns("behind C", ";" + digits, "8", "");
        onlySigns("a clause", ":a", "8;", "=0>0");
        onlySigns("the next clause", ":b", "8;a=0>0;", "=0>0");
        onlySigns("=", "=", "8;a", "0>0");
        onlySigns("a corner", "01234567", "8;a=", ">0");
        onlySigns(">", ">" + digits, "8;a=0", "0");
        onlySigns("a corner", "01234567", "8;a=0>", "");
        onlySigns("behind an edge", ";" + digits, "8;a=7>7", "");
        onlySigns("a rim's first letter", "aA", "8;a=7>7;:", "");
        onlySigns("behind a rim's letter", ";aA", "8;a=7>7;:a", "");
        onlySigns("behind eight letters", ";", "8;a=7>7;:aaaaaaaa", "");
        onlySigns("behind a rim that does not lead back", "A", "8;a=0>7;:a", "");
    }

    /** "each with ; ahead of it: the next letter (a, b, ..) = CORNER > CORNER, an EDGE; or : and letters". */
    private static void textClauses() {
        fault("a clause behind ;", "1;", 2);
        fault("a clause behind ;", "1;;", 2);
        fault("; ahead of a clause", "1a=0>0", 1);
        fault("; ahead of a clause", "1;a=0>0b=0>0", 7);
        fault("; ahead of a pane", "1;a=0>0:a", 7);
        fault("=", "1;a0>0", 3);
        fault("=", "1;a", 3);
        fault(">", "1;a=0;", 5);
        fault(">", "1;a=0", 5);
        fault("the first letter is a", "1;b=0>0", 2);
        fault("not the letter back", "1;A=0>0", 2);
        for (int e = 1; e < 12; e++) {
            String text = edges(e);
            stands("the next letter", edges(e + 1), 0, 1, e + 1, 0);
            fault("not the same letter again", text + ";" + (char) ('a' + e - 1) + "=0>0", text.length() + 1);
            fault("not a letter on", text + ";" + (char) ('a' + e + 1) + "=0>0", text.length() + 1);
        }
        fault("12 at most", TWELVE + ";m=0>0", TWELVE.length() + 1);
        fault("12 at most", TWELVE + ";l=0>0", TWELVE.length() + 1);
        fault("12 at most, a clause is wanted", TWELVE + ";", TWELVE.length() + 1);
        stands("panes behind twelve edges", TWELVE + ";:lL", 1, 1, 12, 1);
        for (int p = 1; p <= 8; p++) {
            stands("how many panes", "2;a=0>1;b=1>1" + panes(p), p, 2, 2, p);
        }
        fault("8 at most", "2;a=0>1;b=1>1" + panes(8) + ";:b", 38);
        fault("8 at most, a clause is wanted", "2;a=0>1;b=1>1" + panes(8) + ";", 38);
        stands("edges behind eight panes", "2;a=0>1;b=1>1" + panes(8) + ";c=0>0", 8, 2, 3, 8);
        stands("a pane among edges", "2;a=1>1;:a;b=0>1;:bAB", 2, 2, 2, 2);
    }

    /** The places of FAULTS of a RIM in a text. */
    private static void textRims() {
        String two = "2;a=0>1;b=1>1;:";
        stands("1 to 8 steps", two + "b", 1, 2, 2, 1);
        stands("1 to 8 steps", two + "abbbbbbA", 1, 2, 2, 1);
        fault("a ninth letter", two + "bbbbbbbbb", 23);
        fault("a ninth letter", two + "abbbbbbbA", 23);
        fault("none", two, 15);
        fault("none", two + ";:b", 15);
        fault("none", two + "1", 15);
        fault("a letter that names no edge", two + "c", 15);
        fault("a letter that names no edge", two + "bC", 16);
        fault("a letter that names no edge", two + "m", 15);
        fault("a letter that does not go on", two + "ba", 16);
        fault("a letter that does not go on", two + "aa", 16);
        fault("does not lead back", two + "ab", 17);
        fault("does not lead back", two + "ab;:b", 17);
        fault("does not lead back", two + "ab=", 17);
        fault("does not lead back", two + "abbbbbbb", 23);
        fault("leads back", two + "abA=", 18);
        fault("an edge that is told behind it", "1;:a;a=0>0", 3);
        fault("an edge that is told behind it", "1;a=0>0;:b;b=0>0", 9);
    }

    /** With 12 EDGES and 8 PANES no clause may come. */
    private static void textFullOfAll() {
        String all = TWELVE + panes(8);
        stands("twelve edges, eight panes", all, 8, 1, 12, 8, -3, 1, 12);
        fault("a thirteenth edge", all + ";m=0>0", 98);
        fault("a ninth pane", all + ";:b", 98);
        fault("nothing behind ;", all + ";", 98);
        fault("no ;", all + "m", 97);
        fault("no ;", all + "=", 97);
    }

    /** "(the end: how many bytes there are)": to the 120 bytes of a full tape. */
    private static void textLengths() {
        Story bare = RICH.then("face", 0);
        for (int blanks : new int[] {0, 1, 7, 8, 119, 120}) {
            BOUNDS.faults("the end", bare.typed(" ".repeat(blanks)), blanks, "text", 0);
            BOUNDS.faults("the end", bare.typed(" ".repeat(blanks)), blanks, "face", 0);
        }
        BOUNDS.faults("the last byte", bare.typed(" ".repeat(119) + ";"), 119, "text", 0);
        BOUNDS.faults("the last byte", bare.typed(" ".repeat(119) + "9"), 119, "text", 0);
        BOUNDS.faults("the end of a full tape", bare.typed("1" + " ".repeat(118) + ";"), 120, "text", 0);
        BOUNDS.takes("a full tape", bare.typed(" ".repeat(119) + "8"), 0, "text", 0);
        String all = TWELVE + panes(5) + ";:bbbbbbbb".repeat(3);
        BOUNDS.takes("a full tape of clauses", bare.typed(all + " ".repeat(120 - all.length())), 8, "text", 0);
        BOUNDS.takes("its last step", bare.text(0, all), 1, "rim", 0, 7, 7);
        BOUNDS.takes("a full tape of a rim", bare.typed(" ".repeat(119) + "d"), 3, "face", 0);
    }

    /** A text makes the SPACE anew: nothing is left of what was there. */
    private static void textAnew() {
        Story full = RICH.then("face", 0).text(0, TWELVE + panes(8)).text(0, "2;a=0>1;:aA");
        counted("made anew", full, 0, 2, 1, 1, 2, 2, 0);
        BOUNDS.takes("made anew", full, BAD, "told", 0, 1, 0);
        BOUNDS.takes("made anew", full, BAD, "rim", 0, 1, 0);
        BOUNDS.takes("made anew", full, BAD, "rim", 0, 0, 2);
        BOUNDS.takes("its next edge", full, 1, "edge", 0, 0, 0);
        BOUNDS.takes("its next pane", full.typed("Aa"), 1, "face", 0);
    }

    /** "Of a SPACE (0 .. 2): 0 CORNERS .. 5 TURNS. BAD less 1000 (-1001; also 2 without a LAYER)." */
    private static void counts() {
        BOUNDS.range("0 .. 2 with a layer", RICH, 0, 2, COUNT_BAD, "count", Bounds.numbers(0, 0), 0);
        BOUNDS.range("2 without a layer", Story.NEW, 0, 1, COUNT_BAD, "count", Bounds.numbers(0, 0), 0);
        for (int space = 0; space < 3; space++) {
            BOUNDS.range("0 .. 5", RICH, 0, 5, COUNT_BAD, "count", Bounds.numbers(space, 0), 1);
        }
        for (int what = 0; what < 6; what++) {
            BOUNDS.refuses("2 without a layer", TWELVE_FREE, COUNT_BAD, "count", 2, what);
        }
        counted("of each", RICH, 0, 3, 4, 2, 1, 3, 2);
        counted("of each", RICH, 1, 1, 2, 1, 0, 1, 2);
        counted("of each", RICH, 2, 6, 8, 4, 2, 6, 3);
        counted("below 0", TWELVE_FREE, 1, 1, 12, 0, -11, 1, 12);
        counted("corners apart", Story.NEW.text(0, "8;a=6>7;b=7>7;c=1>0;d=0>1"), 0, 8, 4, 0, 4, 2, 1);
        counted("corners alone", Story.NEW.then("corners", 0, 8), 0, 8, 0, 0, 8, 1, 0);
    }

    /** "Where an EDGE comes from (0), leads to (1), whether it is of THE TREE (2). BAD." */
    private static void edgesTold() {
        BOUNDS.range("0 .. 2 with a layer", RICH, 0, 2, BAD, "told", Bounds.numbers(0, 0, 0), 0);
        BOUNDS.range("2 without a layer", Story.NEW.text(0, TWELVE).text(1, TWELVE), 0, 1, BAD, "told",
            Bounds.numbers(0, 0, 0), 0);
        int[] edges = {4, 2, 8};
        for (int space = 0; space < 3; space++) {
            BOUNDS.range("an edge", RICH, 0, edges[space] - 1, BAD, "told", Bounds.numbers(space, 0, 0), 1);
            BOUNDS.range("0 .. 2", RICH, 0, 2, BAD, "told", Bounds.numbers(space, 0, 0), 2);
        }
        BOUNDS.range("twelve edges", TWELVE_EDGES, 0, 11, BAD, "told", Bounds.numbers(0, 0, 1), 1);
        BOUNDS.refuses("no edge", Story.NEW, BAD, "told", 0, 0, 0);
        Story greatest = TWELVE_EDGES.then("layer", 0, 2, 4094);
        BOUNDS.range("24 edges of a layer", greatest, 0, 23, BAD, "told", Bounds.numbers(2, 0, 2), 1);
        Story tree = Story.NEW.text(0, "4;a=1>2;b=2>0;c=0>2;d=1>0;e=3>3;f=0>0");
        int[] isTree = {1, 1, 0, 0, 0, 0};
        for (int e = 0; e < isTree.length; e++) {
            BOUNDS.takes("the least edge that leads or leads back", tree, isTree[e], "told", 0, e, 2);
        }
    }

    /** "STEP i of a PANE's RIM: the EDGE, and 100, if it is gone back. BAD: also none such." */
    private static void rims() {
        BOUNDS.range("0 .. 2 with a layer", RICH, 0, 2, BAD, "rim", Bounds.numbers(0, 0, 0), 0);
        BOUNDS.range("2 without a layer", Story.NEW.text(0, "1;a=0>0;:a").text(1, "1;a=0>0;:a"), 0, 1, BAD, "rim",
            Bounds.numbers(0, 0, 0), 0);
        int[] panes = {2, 1, 4};
        int[] lengths = {3, 4, 3};
        for (int space = 0; space < 3; space++) {
            BOUNDS.range("a pane", RICH, 0, panes[space] - 1, BAD, "rim", Bounds.numbers(space, 0, 0), 1);
            BOUNDS.range("none such", RICH, 0, lengths[space] - 1, BAD, "rim", Bounds.numbers(space, 0, 0), 2);
        }
        BOUNDS.range("eight panes", EIGHT_PANES, 0, 7, BAD, "rim", Bounds.numbers(0, 0, 0), 1);
        BOUNDS.range("one step", EIGHT_PANES, 0, 0, BAD, "rim", Bounds.numbers(0, 7, 0), 2);
        BOUNDS.range("eight steps", TWELVE_EDGES.face(0, "lLlLlLlL"), 0, 7, BAD, "rim", Bounds.numbers(0, 0, 0), 2);
        BOUNDS.refuses("no pane", Story.NEW, BAD, "rim", 0, 0, 0);
        Story ends = TWELVE_EDGES.face(0, "aAlL");
        int[] due = {0, 100, 11, 111};
        for (int i = 0; i < due.length; i++) {
            BOUNDS.takes("the edge, and 100", ends, due[i], "rim", 0, 0, i);
        }
    }
}
