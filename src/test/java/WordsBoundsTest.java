import java.util.Arrays;
import java.util.EnumSet;

/** Promises 19 to 23: each bound that the document names, each refusal, the first of several. */
public final class WordsBoundsTest {
    private static final int BAD = LoopSpaces.BAD;
    private static final int NOT = LoopSpaces.NOT;
    private static final int NONE = LoopSpaces.NONE;
    private static final int SPENT = LoopSpaces.SPENT;
    private static final int NULL = LoopSpaces.NULL;
    private static final int CAST = LoopSpaces.CAST;
    private static final int INDEX = LoopSpaces.INDEX;
    private static final Bounds BOUNDS = new Bounds();
    private static final Story RICH = Bounds.RICH;
    private static final Story BARE = RICH.then("face", 1);
    private static final String TWELVE =
        "1;a=0>0;b=0>0;c=0>0;d=0>0;e=0>0;f=0>0;g=0>0;h=0>0;i=0>0;j=0>0;k=0>0;l=0>0";

    public static void main(String[] args) {
        wordNumbers();
        wordLengths();
        wordFaults();
        wordReduced();
        slotsEmptied();
        walkNumbers();
        walkOrder();
        walkRanges();
        walkItems();
        walkLanes();
        walkNot();
        about();
        steps();
        drawnNumbers();
        drawnNot();
        drawnApart();
        drawnPlaces();
        drawnToSixteen();
        BOUNDS.end("WordsBoundsTest", "word BAD FAULT", "walk BAD NULL CAST INDEX NOT", "about BAD NONE",
            "step BAD NONE", "drawn BAD NOT SPENT");
    }

    private static void held(String sentence, Story story, int slot, int... due) {
        for (int what = 0; what < 4; what++) {
            BOUNDS.takes(sentence, story, due[what], "about", slot, what);
        }
    }

    /** "a WORD of a SPACE (0, 1) .. in a SLOT 0 .. 3 .. BAD (THE TAPE stays)". */
    private static void wordNumbers() {
        BOUNDS.range("a slot 0 .. 3", RICH, 0, 3, BAD, "word", Bounds.numbers(0, 0), 0);
        BOUNDS.range("a space (0, 1)", RICH, 0, 1, BAD, "word", Bounds.numbers(0, 0), 1);
        BOUNDS.range("a space (0, 1)", Story.NEW, 0, 1, BAD, "word", Bounds.numbers(0, 0), 1);
        BOUNDS.refuses("bad ahead of a fault", RICH.typed(";"), BAD, "word", 4, 0);
        BOUNDS.refuses("bad ahead of a fault", RICH.typed(";"), BAD, "word", 0, 2);
        BOUNDS.takes("the tape stays", RICH.then("word", 4, 0), 2, "word", 3, 0);
        BOUNDS.takes("the tape is empty then", RICH.then("word", 3, 0), 1, "type", 'a', 1);
        Story.Part[] slots = {Story.Part.SLOT_0, Story.Part.SLOT_1, Story.Part.SLOT_2, Story.Part.SLOT_3};
        for (int slot = 0; slot < 4; slot++) {
            BOUNDS.changesOnly("a slot and the tape", RICH, EnumSet.of(slots[slot], Story.Part.TAPE), "word", slot, 0);
            held("kept in a slot", RICH.then("word", slot, 0), slot, 2, 0, 1, 1);
        }
    }

    /** "letters alone (none: from CORNER 0) .. 16 letters at most"; "a 17th of a WORD can't stand". */
    private static void wordLengths() {
        for (int length = 1; length <= 16; length++) {
            Story story = BARE.typed("d".repeat(length));
            BOUNDS.takes("how many steps", story, length, "word", 3, 0);
            held("how many steps", story.then("word", 3, 0), 3, length, 0, 1, 1);
            BOUNDS.takes("its last step", story.then("word", 3, 0), 3, "step", 3, length - 1);
        }
        BOUNDS.takes("none", BARE, 0, "word", 3, 0);
        held("none: from corner 0", BARE.then("word", 3, 0), 3, 0, 0, 0, 0);
        held("blanks alone: from corner 0", BARE.word(3, 1, " ".repeat(120)), 3, 0, 1, 0, 0);
        BOUNDS.faults("a 17th", BARE.typed("d".repeat(17)), 16, "word", 2, 0);
        BOUNDS.faults("a 17th behind blanks", BARE.typed("d".repeat(16) + "   d"), 19, "word", 2, 0);
        BOUNDS.faults("a 17th, though few are left", BARE.typed("dD".repeat(8) + "d"), 16, "word", 2, 0);
        BOUNDS.faults("a 17th of a full tape", BARE.typed("d".repeat(120)), 16, "word", 2, 0);
        BOUNDS.takes("16 in a full tape", BARE.typed("d".repeat(15) + " ".repeat(104) + "d"), 16, "word", 2, 0);
    }

    private static void wordFaults() {
        BOUNDS.faults("a letter that names no edge", BARE.typed("e"), 0, "word", 0, 0);
        BOUNDS.faults("a letter that names no edge", BARE.typed("  E"), 2, "word", 0, 0);
        BOUNDS.faults("a letter that names no edge", BARE.typed("ad m"), 3, "word", 0, 0);
        BOUNDS.faults("a letter that does not go on", BARE.typed("aa"), 1, "word", 0, 0);
        BOUNDS.faults("a letter that does not go on", BARE.typed("aA A"), 3, "word", 0, 0);
        BOUNDS.faults("letters alone", BARE.typed("a;"), 1, "word", 0, 0);
        BOUNDS.faults("letters alone", BARE.typed("a  1"), 3, "word", 0, 0);
        BOUNDS.faults("letters alone", BARE.typed(":a"), 0, "word", 0, 0);
        BOUNDS.faults("no edge in the other space", BARE.typed("c"), 0, "word", 0, 1);
        BOUNDS.faults("the first of several", BARE.typed("d e;"), 2, "word", 0, 0);
        BOUNDS.faults("no edge at all", Story.NEW.typed("a"), 0, "word", 0, 0);
        BOUNDS.faults("as it is now", BARE.then("corners", 0, 3).typed("a"), 0, "word", 0, 0);
        BOUNDS.takes("as it is now", BARE.then("edge", 0, 2, 2).typed("e"), 1, "word", 0, 0);
        BOUNDS.takes("it need not lead back", BARE.typed("ab"), 2, "word", 0, 0);
        BOUNDS.takes("it may begin anywhere", BARE.typed("Ba"), -21, "word", 0, 0);
        BOUNDS.takes("it may begin anywhere", BARE.typed("BA"), 2, "word", 0, 0);
        held("where it begins and ends", BARE.word(0, 0, "BA"), 0, 2, 0, 2, 0);
    }

    /** "a WORD without a STEP and its back side by side (taken out again and again)". */
    private static void wordReduced() {
        BOUNDS.takes("a step and its back", BARE.typed("aA"), 0, "word", 0, 0);
        held("its ends stay", BARE.word(0, 0, "bB"), 0, 0, 0, 1, 1);
        BOUNDS.takes("back and the step", BARE.typed("Aa"), 0, "word", 0, 0);
        held("its ends stay", BARE.word(0, 0, "Bb"), 0, 0, 0, 2, 2);
        BOUNDS.takes("again and again", BARE.typed("abcCBA"), 0, "word", 0, 0);
        BOUNDS.takes("again and again", BARE.typed("adDA"), 0, "word", 0, 0);
        BOUNDS.takes("sixteen to none", BARE.typed("abcabcadDACBACBA"), 0, "word", 0, 0);
        BOUNDS.takes("all but the last", BARE.typed("dDdDdDdDdDdDdDdd"), 2, "word", 0, 0);
        BOUNDS.takes("not side by side", BARE.typed("adA"), 3, "word", 0, 0);
        BOUNDS.takes("not the same twice", BARE.typed("dd"), 2, "word", 0, 0);
        BOUNDS.takes("what is left", BARE.word(0, 0, "addDA"), 3, "step", 0, 1);
        BOUNDS.takes("what is left", BARE.word(0, 0, "addDA"), 100, "step", 0, 2);
    }

    /** "(SLOTS of a SPACE are emptied by corners(), text(), fold(), and join() for SPACE 0.)" */
    private static void slotsEmptied() {
        Story story = BARE.word(3, 1, "ab");
        Story[] emptied = {story.then("corners", 0, 3), story.text(0, "1"), story.then("fold", 0), story.then("join")};
        Story[] other = {story.then("corners", 1, 1), story.text(1, "1"), story.then("fold", 1)};
        for (Story behind : emptied) {
            int[] due = {NONE, 2, NONE, 2};
            for (int slot = 0; slot < 4; slot++) {
                BOUNDS.takes("slots of space 0 alone", behind, due[slot], "about", slot, 0);
            }
        }
        for (Story behind : other) {
            int[] due = {3, NONE, 3, NONE};
            for (int slot = 0; slot < 4; slot++) {
                BOUNDS.takes("slots of space 1 alone", behind, due[slot], "about", slot, 0);
            }
        }
        Story[] kept = {story.then("edge", 0, 0, 0), story.face(0, "d"), story.then("layer", 0, 2, 0),
            story.text(0, "1;"), story.then("corners", 0, 9), story.then("fold", 2), story.then("drop", 0)};
        for (Story behind : kept) {
            BOUNDS.takes("no other call", behind, 3, "about", 0, 0);
            BOUNDS.takes("no other call", behind, 2, "about", 1, 0);
        }
        Story full = story.text(1, TWELVE);
        BOUNDS.takes("not by a join that is refused", full.then("join"), 3, "about", 0, 0);
    }

    /** "n STEPS (0 .. 16) of a SHEET, taken as a row of a LANE": the numbers. */
    private static void walkNumbers() {
        BOUNDS.range("a slot 0 .. 3", RICH, 0, 3, BAD, "walk", Bounds.numbers(0, 0, 0, 0, 0, 1), 0);
        BOUNDS.range("a space (0, 1)", RICH, 0, 1, BAD, "walk", Bounds.numbers(3, 0, 0, 0, 0, 1), 1);
        BOUNDS.range("a sheet 0 .. 3", RICH, 0, 3, BAD, "walk", Bounds.numbers(3, 0, 0, 0, 0, 1), 2);
        BOUNDS.range("a lane 0 .. 2", RICH, 0, 2, BAD, "walk", Bounds.numbers(3, 0, 0, 0, 0, 1), 3);
        BOUNDS.range("n 0 .. 16", RICH, 0, 16, BAD, "walk", Bounds.numbers(3, 0, 0, 0, 0, 1), 5);
        Story.Part[] slots = {Story.Part.SLOT_0, Story.Part.SLOT_1, Story.Part.SLOT_2, Story.Part.SLOT_3};
        for (int slot = 0; slot < 4; slot++) {
            BOUNDS.changesOnly("a slot alone", RICH, EnumSet.of(slots[slot]), "walk", slot, 0, 0, 0, 0, 1);
            held("kept in a slot", RICH.then("walk", slot, 0, 0, 0, 0, 1), slot, 1, 0, 0, 1);
        }
    }

    /** "BAD; NULL; CAST; INDEX; NOT: it is none." */
    private static void walkOrder() {
        BOUNDS.refuses("null", RICH, NULL, "walk", 0, 0, 3, 0, 0, 1);
        BOUNDS.refuses("null, ahead of index", RICH, NULL, "walk", 0, 0, 3, 2, -1, 16);
        BOUNDS.refuses("null, of no steps", RICH, NULL, "walk", 0, 0, 3, 1, 0, 0);
        BOUNDS.refuses("null behind drop", RICH.then("drop", 1), NULL, "walk", 0, 0, 1, 1, 0, 1);
        for (int sheet = 0; sheet < 3; sheet++) {
            for (int lane = 0; lane < 3; lane++) {
                if (lane != sheet) {
                    BOUNDS.refuses("another lane", RICH, CAST, "walk", 0, 0, sheet, lane, 0, 1);
                    BOUNDS.refuses("another lane, ahead of index", RICH, CAST, "walk", 0, 0, sheet, lane, 20, 1);
                    BOUNDS.refuses("another lane, of no steps", RICH, CAST, "walk", 0, 0, sheet, lane, 0, 0);
                }
            }
        }
        BOUNDS.refuses("index, ahead of not", RICH, INDEX, "walk", 0, 0, 0, 0, 0, 4);
        BOUNDS.refuses("index, ahead of not", RICH, INDEX, "walk", 0, 0, 2, 2, 2, 2);
        BOUNDS.refuses("bad ahead of null", RICH, BAD, "walk", 0, 0, 3, 0, 0, 17);
        BOUNDS.refuses("bad ahead of null", RICH, BAD, "walk", 0, 0, 3, 3, 0, 1);
        BOUNDS.refuses("bad ahead of null", RICH, BAD, "walk", 4, 0, 3, 0, 0, 1);
        BOUNDS.refuses("bad ahead of null", RICH, BAD, "walk", 0, 2, 3, 0, 0, 1);
        BOUNDS.refuses("bad ahead of cast", RICH, BAD, "walk", 0, 0, 0, 1, 0, -1);
        BOUNDS.refuses("bad ahead of index", RICH, BAD, "walk", 0, 0, 0, 0, -1, 17);
        BOUNDS.refuses("bad ahead of not", RICH, BAD, "walk", 0, 2, 2, 2, 0, 3);
    }

    /** "from one on": the items must be there. */
    private static void walkRanges() {
        int[] ones = new int[20];
        Arrays.fill(ones, 4);
        Story twenty = BARE.row(3, 2, ones);
        BOUNDS.takes("the first 16", twenty, 16, "walk", 3, 0, 3, 2, 0, 16);
        BOUNDS.takes("the last 16", twenty, 16, "walk", 3, 0, 3, 2, 4, 16);
        BOUNDS.refuses("one beyond", twenty, INDEX, "walk", 3, 0, 3, 2, 5, 16);
        BOUNDS.refuses("one below", twenty, INDEX, "walk", 3, 0, 3, 2, -1, 16);
        BOUNDS.takes("the last one", twenty, 1, "walk", 3, 0, 3, 2, 19, 1);
        for (int from : new int[] {20, 21, Integer.MAX_VALUE, Integer.MAX_VALUE - 15, -1, Integer.MIN_VALUE}) {
            BOUNDS.refuses("beyond", twenty, INDEX, "walk", 2, 0, 3, 2, from, 1);
            BOUNDS.refuses("beyond", twenty, INDEX, "walk", 2, 0, 3, 2, from, 16);
        }
        for (int size = 1; size < 4; size++) {
            Story row = BARE.row(3, 1, Arrays.copyOf(ones, size));
            BOUNDS.takes("all", row, size, "walk", 3, 0, 3, 1, 0, size);
            BOUNDS.refuses("all and one", row, INDEX, "walk", 3, 0, 3, 1, 0, size + 1);
            BOUNDS.takes("none at the end", row, 0, "walk", 3, 0, 3, 1, size, 0);
        }
        Story empty = BARE.row(3, 0);
        BOUNDS.takes("none of none", empty, 0, "walk", 2, 0, 3, 0, 0, 0);
        held("none: from corner 0", empty.then("walk", 2, 1, 3, 0, 0, 0), 2, 0, 1, 0, 0);
        BOUNDS.refuses("one of none", empty, INDEX, "walk", 2, 0, 3, 0, 0, 1);
        BOUNDS.refuses("none from below 0", empty, INDEX, "walk", 2, 0, 3, 0, -1, 0);
        BOUNDS.refuses("none from beyond the end", empty, INDEX, "walk", 2, 0, 3, 0, 1, 0);
    }

    /** "(e and 1 along, less that back)". */
    private static void walkItems() {
        for (int lane = 0; lane < 3; lane++) {
            Story story = BARE.text(0, TWELVE).row(3, lane, 1, -1, 12, -12, 13, -13, 0, 127, -128);
            int[] due = {0, 100, 11, 111};
            for (int from = 0; from < due.length; from++) {
                BOUNDS.takes("along and back", story, 1, "walk", 3, 0, 3, lane, from, 1);
                BOUNDS.takes("along and back", story.then("walk", 3, 0, 3, lane, from, 1), due[from], "step", 3, 0);
            }
            for (int from = 4; from < 9; from++) {
                BOUNDS.refuses("no edge", story, NOT, "walk", 0, 0, 3, lane, from, 1);
            }
            BOUNDS.takes("reduced", story, 0, "walk", 3, 0, 3, lane, 0, 4);
            BOUNDS.refuses("none of them", story, NOT, "walk", 1, 0, 3, lane, 0, 5);
        }
        Story far = BARE.text(0, TWELVE).row(3, 2, Integer.MIN_VALUE, Integer.MAX_VALUE, Integer.MIN_VALUE + 1, 1 << 30);
        for (int from = 0; from < 4; from++) {
            BOUNDS.refuses("no edge, far", far, NOT, "walk", 0, 0, 3, 2, from, 1);
        }
    }

    /** A LANE's lowest bits are what is walked by. */
    private static void walkLanes() {
        Story story = BARE.text(0, TWELVE);
        int[][] bytes = {{256 + 1, 0}, {255, 100}, {-255, 0}, {256 + 12, 11}, {-256 - 12, 111}, {65536 - 12, 111}};
        for (int[] pair : bytes) {
            BOUNDS.takes("bytes", story.row(3, 0, pair[0]).then("walk", 3, 0, 3, 0, 0, 1), pair[1], "step", 3, 0);
        }
        int[][] shorts = {{65536 + 1, 0}, {65535, 100}, {-65535, 0}, {65536 + 12, 11}, {-65536 - 12, 111}};
        for (int[] pair : shorts) {
            BOUNDS.takes("shorts", story.row(3, 1, pair[0]).then("walk", 3, 0, 3, 1, 0, 1), pair[1], "step", 3, 0);
            BOUNDS.takes("no wrap-around of ints", story.row(3, 2, pair[0]), NOT, "walk", 3, 0, 3, 2, 0, 1);
        }
        for (int v : new int[] {256 + 1, 255, -255, 256 + 12}) {
            BOUNDS.takes("no wrap-around of shorts", story.row(3, 1, v), NOT, "walk", 3, 0, 3, 1, 0, 1);
        }
        for (int v : new int[] {128, 256, 384, -129, 13, 512 + 13}) {
            BOUNDS.takes("bytes that are no step", story.row(3, 0, v), NOT, "walk", 3, 0, 3, 0, 0, 1);
        }
    }

    /** "NOT: it is none": each STEP from where the one ahead leads to. */
    private static void walkNot() {
        BOUNDS.takes("goes on", BARE.row(3, 0, 1, 4, 2, 3), 4, "walk", 3, 0, 3, 0, 0, 4);
        BOUNDS.refuses("does not go on", BARE.row(3, 0, 1, 1), NOT, "walk", 0, 0, 3, 0, 0, 2);
        BOUNDS.refuses("does not go on", BARE.row(3, 0, 1, 4, -4, -4, 3), NOT, "walk", 0, 0, 3, 0, 0, 5);
        BOUNDS.refuses("does not go on, last of 16", BARE.row(3, 0, 4, 4, 4, 4, 4, 4, 4, 4, 4, 4, 4, 4, 4, 4, 4, 1 + 2),
            NOT, "walk", 0, 0, 3, 0, 0, 16);
        BOUNDS.takes("from any corner", BARE.row(3, 0, 3, 1), 2, "walk", 3, 0, 3, 0, 0, 2);
        BOUNDS.refuses("no edge in the other space", BARE.row(3, 0, 3), NOT, "walk", 0, 1, 3, 0, 0, 1);
        BOUNDS.refuses("a new row's items", BARE.then("sheet", 3, 1, 1), NOT, "walk", 0, 0, 3, 1, 0, 1);
        BOUNDS.takes("as it is now", BARE.then("edge", 0, 2, 2).row(3, 0, 5), 1, "walk", 0, 0, 3, 0, 0, 1);
        BOUNDS.refuses("no edge at all", Story.NEW.row(3, 0, 1), NOT, "walk", 0, 0, 3, 0, 0, 1);
    }

    /** "Of a SLOT: 0 .. 3. BAD; NONE." */
    private static void about() {
        BOUNDS.range("a slot 0 .. 3", RICH.then("word", 3, 0), 0, 3, BAD, "about", Bounds.numbers(0, 0), 0);
        BOUNDS.range("0 .. 3", RICH, 0, 3, BAD, "about", Bounds.numbers(1, 0), 1);
        for (int what = 0; what < 4; what++) {
            BOUNDS.refuses("holds none", RICH, NONE, "about", 3, what);
            BOUNDS.refuses("holds none", Story.NEW, NONE, "about", what, 0);
        }
        BOUNDS.refuses("bad ahead of none", RICH, BAD, "about", 3, 4);
        BOUNDS.refuses("bad ahead of none", RICH, BAD, "about", 3, -1);
        held("all of it", RICH, 0, 3, 0, 0, 0);
        held("all of it", RICH.word(3, 0, ""), 3, 2, 0, 1, 1);
        held("all of it", BARE.word(3, 0, "CdD"), 0, 3, 0, 0, 0);
        held("all of it", BARE.word(3, 0, "ab"), 3, 2, 0, 0, 2);
        BOUNDS.changesOnly("nothing", RICH, EnumSet.noneOf(Story.Part.class), "about", 0, 0);
    }

    /** "STEP i: the EDGE, and 100, if it is gone back. BAD: also none such; NONE." */
    private static void steps() {
        BOUNDS.range("a slot 0 .. 3", RICH.then("word", 3, 0), 0, 3, BAD, "step", Bounds.numbers(0, 0), 0);
        for (int length = 1; length <= 16; length++) {
            BOUNDS.range("none such", BARE.word(3, 0, "d".repeat(length)), 0, length - 1, BAD, "step",
                Bounds.numbers(3, 0), 1);
        }
        BOUNDS.refuses("none such of no steps", BARE.word(3, 0, ""), BAD, "step", 3, 0);
        BOUNDS.refuses("none such of what is reduced", BARE.word(3, 0, "addDA"), BAD, "step", 3, 3);
        for (int i : new int[] {0, 15, 16, Integer.MAX_VALUE}) {
            BOUNDS.refuses("holds none", RICH, NONE, "step", 3, i);
        }
        BOUNDS.refuses("bad ahead of none", RICH, BAD, "step", 3, -1);
        BOUNDS.refuses("bad ahead of none", Story.NEW, BAD, "step", 4, 0);
        Story ends = BARE.text(0, TWELVE).word(3, 0, "alAL");
        int[] due = {0, 11, 100, 111};
        for (int i = 0; i < due.length; i++) {
            BOUNDS.takes("the edge, and 100", ends, due[i], "step", 3, i);
        }
        BOUNDS.changesOnly("nothing", RICH, EnumSet.noneOf(Story.Part.class), "step", 0, 0);
    }

    /** "BAD; NOT .. SPENT." */
    private static void drawnNumbers() {
        Story words = BARE.word(0, 0, "abc").word(1, 0, "").word(2, 0, "CBA").word(3, 0, "aA");
        BOUNDS.range("a slot 0 .. 3", words, 0, 3, BAD, "drawn", Bounds.numbers(0, 0), 0);
        BOUNDS.range("a slot 0 .. 3", words, 0, 3, BAD, "drawn", Bounds.numbers(0, 0), 1);
        BOUNDS.refuses("bad ahead of not", Story.NEW, BAD, "drawn", 0, 4);
        BOUNDS.refuses("bad ahead of not", Story.NEW, BAD, "drawn", -1, 0);
        BOUNDS.takes("one and the same slot", words, 0, "drawn", 2, 2);
        BOUNDS.takes("one reduced", words, 0, "drawn", 1, 3);
        BOUNDS.changesOnly("nothing", words, EnumSet.noneOf(Story.Part.class), "drawn", 0, 2);
    }

    /** "NOT: one holds none, or they are of unlike SPACES, or unlike ends (from, to)". */
    private static void drawnNot() {
        BOUNDS.refuses("one holds none", RICH, NOT, "drawn", 0, 3);
        BOUNDS.refuses("one holds none", RICH, NOT, "drawn", 3, 0);
        BOUNDS.refuses("both hold none", RICH, NOT, "drawn", 3, 3);
        BOUNDS.refuses("unlike spaces", RICH, NOT, "drawn", 0, 1);
        BOUNDS.refuses("unlike spaces, no steps", BARE.word(0, 0, "").word(1, 1, ""), NOT, "drawn", 0, 1);
        Story ends = BARE.word(0, 0, "a").word(1, 0, "ab").word(2, 0, "d").word(3, 0, "CBdd");
        BOUNDS.refuses("unlike to", ends, NOT, "drawn", 0, 1);
        BOUNDS.refuses("unlike from", ends, NOT, "drawn", 0, 2);
        BOUNDS.refuses("unlike from, like to", ends, NOT, "drawn", 2, 0);
        BOUNDS.refuses("unlike from and to", ends, NOT, "drawn", 1, 2);
        BOUNDS.takes("like ends", ends, 2, "drawn", 3, 0);
        BOUNDS.refuses("no steps, unlike corners", BARE.word(0, 0, "").word(1, 0, "dD"), NOT, "drawn", 0, 1);
    }

    private static void drawn(String sentence, String text, String one, String other, int due) {
        Story story = BARE.text(0, text).word(0, 0, one).word(3, 0, other);
        BOUNDS.takes(sentence + " " + one + " " + other, story, due, "drawn", 0, 3);
        BOUNDS.takes(sentence + " " + other + " " + one, story, due, "drawn", 3, 0);
        if (due < 0) {
            BOUNDS.refuses(sentence + " " + one + " " + other, story, due, "drawn", 0, 3);
        }
    }

    /** "0 apart, if they are one REDUCED, 1, if the one is NEXT to the other one, 2, if something is NEXT to both; else SPENT." */
    private static void drawnApart() {
        String torus = "1;a=0>0;b=0>0;:abAB";
        drawn("0", torus, "", "", 0);
        drawn("0", torus, "abB", "a", 0);
        drawn("0 ahead of 1", "1;a=0>0;b=0>0;:aA", "b", "b", 0);
        drawn("1", torus, "", "abAB", 1);
        drawn("1", torus, "ab", "ba", 1);
        drawn("1 ahead of 2", "1;a=0>0;:aaaa;:aa", "", "aa", 1);
        drawn("1 ahead of 2", "1;a=0>0;:a", "a", "aa", 1);
        drawn("2", torus, "aab", "baa", 2);
        drawn("2", "1;a=0>0;:aaaa", "aa", "AAAAAA", 2);
        drawn("2", "1;a=0>0;:aa;:aaa", "", "a", 2);
        drawn("2, by two panes", "1;a=0>0;b=0>0;:aaaa;:bbbb", "aaaa", "bbbb", 2);
        drawn("spent", torus, "aaab", "baaa", SPENT);
        drawn("spent", torus, "", "a", SPENT);
        drawn("spent: three times", "1;a=0>0;:aa", "", "aaaaaa", SPENT);
        drawn("spent: no pane", "1;a=0>0", "", "a", SPENT);
        drawn("spent: a pane apart", "2;a=0>0;b=1>1;:b", "", "a", SPENT);
        drawn("one is next to the other, the other not to it", "2;a=0>1;b=1>1;:bb", "abbA", "", 1);
        Story later = BARE.text(0, "1;a=0>0").word(0, 0, "a").word(1, 0, "");
        BOUNDS.takes("panes as they are now", later, SPENT, "drawn", 0, 1);
        BOUNDS.takes("panes as they are now", later.face(0, "a"), 1, "drawn", 0, 1);
    }

    /** "at any of its places a RIM (from any of its STEPS on, round, along or back) that begins at that CORNER". */
    private static void drawnPlaces() {
        String loops = "1;a=0>0;b=0>0;c=0>0;:bc";
        drawn("ahead of all", loops, "aa", "bcaa", 1);
        drawn("between", loops, "aa", "abca", 1);
        drawn("behind all", loops, "aa", "aabc", 1);
        drawn("from its other step on, round", loops, "aa", "acba", 1);
        drawn("back", loops, "aa", "aCBa", 1);
        drawn("back, from its other step on", loops, "aa", "aBCa", 1);
        drawn("not in another order", "1;a=0>0;b=0>0;c=0>0;d=0>0;:bcd", "", "bdc", SPENT);
        String ring = "3;a=0>1;b=1>2;c=2>0;:abc";
        drawn("at corner 0", ring, "", "abc", 1);
        drawn("at corner 1", ring, "a", "abca", 1);
        drawn("at corner 2", ring, "ab", "abcab", 1);
        drawn("at corner 2, back", ring, "ab", "C", 1);
        drawn("eight steps", "1;a=0>0;b=0>0;:abababab", "abab", "BABA", 1);
        drawn("one step", "1;a=0>0;b=0>0;:b", "a", "ba", 1);
        drawn("a rim that reduces to nothing", "1;a=0>0;b=0>0;:bB", "a", "b", SPENT);
        drawn("a rim that reduces", "1;a=0>0;b=0>0;:bBa", "", "a", 1);
        drawn("the eighth pane", "1;a=0>0;b=0>0;:bB;:bB;:bB;:bB;:bB;:bB;:bB;:aaa", "", "aaa", 1);
    }

    /** "REDUCED, if it has 16 STEPS at most." */
    private static void drawnToSixteen() {
        String loops = "1;a=0>0;b=0>0;c=0>0;d=0>0;e=0>0;:bcd;:ecd";
        String fifteen = "a".repeat(14);
        // what is next to both is these letters and DC: 16 steps, then 17
        drawn("16 between", loops, fifteen + "b", fifteen + "e", 2);
        drawn("17 between", loops, "a" + fifteen + "b", "a" + fifteen + "e", SPENT);
        drawn("15 to 16", "1;a=0>0;b=0>0;:b", "a".repeat(15), "a".repeat(15) + "b", 1);
        drawn("8 to 16", "1;a=0>0;b=0>0;:bbbbbbbb", "a".repeat(8), "a".repeat(8) + "b".repeat(8), 1);
        drawn("16 and 16, by less", "1;a=0>0;b=0>0;:b", "a".repeat(15) + "b", "b" + "a".repeat(15), 2);
        drawn("16 and 16, by as many", "1;a=0>0;b=0>0;c=0>0;:bc", "a".repeat(15) + "b", "a".repeat(15) + "C", 1);
        drawn("16 and 16 alike", loops, "a".repeat(16), "a".repeat(16), 0);
    }
}
