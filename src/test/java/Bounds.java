import java.util.Arrays;
import java.util.EnumSet;
import java.util.Set;
import java.util.TreeSet;

/**
 * What the tests of bounds share: the last number that is taken and the first that is not, what a
 * refused call leaves as it was, and a ledger of the refusals that were asked for.
 */
final class Bounds {
    /** Something of everything: two SPACES, THE LAYER, three WORDS, three SHEETS, and "dd" on THE TAPE. */
    static final Story RICH = Story.NEW
        .text(0, "3;a=0>1;b=1>2;c=2>0;d=1>1;:abc;:dd").text(1, "1;a=0>0;b=0>0;:abAB").then("layer", 0, 2, 0)
        .word(0, 0, "abc").word(1, 1, "aB").word(2, 0, "adA")
        .row(0, 0, 1, -2, 3).row(1, 1, 1, 2, 3, 4, -4).row(2, 2, 2, 1, -12).typed("dd");
    private static final long[] REFUSALS = {LoopSpaces.BAD, LoopSpaces.NOT, LoopSpaces.FULL, LoopSpaces.NONE,
        LoopSpaces.SPENT, LoopSpaces.NULL, LoopSpaces.CAST, LoopSpaces.INDEX, LoopSpaces.SIZE, LoopSpaces.BAD - 1000};
    private static final String[] NAMES = {"BAD", "NOT", "FULL", "NONE", "SPENT", "NULL", "CAST", "INDEX", "SIZE", "BAD"};

    private final Checks checks = new Checks();
    private final Set<String> refused = new TreeSet<>();

    private static String written(String sentence, String call, long[] numbers) {
        String row = Arrays.toString(numbers);
        return sentence + ": " + call + "(" + row.substring(1, row.length() - 1) + ")";
    }

    void takes(String sentence, Story ahead, long due, String call, long... numbers) {
        checks.same(written(sentence, call, numbers), ahead.answer(call, numbers), due);
    }

    /** What is refused changes nothing. */
    void refuses(String sentence, Story ahead, long due, String call, long... numbers) {
        takes(sentence, ahead, due, call, numbers);
        note(call, due);
        changesOnly(sentence, ahead, EnumSet.noneOf(Story.Part.class), call, numbers);
    }

    /** A refusal behind which THE TAPE is empty, and nothing else is changed. */
    void emptiesTape(String sentence, Story ahead, long due, String call, long... numbers) {
        takes(sentence, ahead, due, call, numbers);
        note(call, due);
        changesOnly(sentence, ahead, EnumSet.of(Story.Part.TAPE), call, numbers);
        takes(sentence + ", the tape is empty", ahead.then(call, numbers), 1, "type", 'a', 1);
    }

    void faults(String sentence, Story ahead, int place, String call, long... numbers) {
        emptiesTape(sentence, ahead, -20 - place, call, numbers);
    }

    void changesOnly(String sentence, Story ahead, Set<Story.Part> changed, String call, long... numbers) {
        Story behind = ahead.then(call, numbers);
        for (Story.Part part : Story.Part.values()) {
            checks.holds(written(sentence, call, numbers) + " leaves " + part,
                changed.contains(part) || behind.isSame(ahead, part));
        }
    }

    /** From the least to the most of one number is taken; one less and one more are refused, far ones too. */
    void range(String sentence, Story ahead, int least, int most, long due, String call, long[] numbers, int place) {
        for (long wrong : new long[] {Integer.MIN_VALUE, least - 1L, most + 1L, Integer.MAX_VALUE}) {
            refuses(sentence, ahead, due, call, with(numbers, place, wrong));
        }
        for (long right : new long[] {least, most}) {
            long[] all = with(numbers, place, right);
            checks.holds(written(sentence, call, all) + " is taken", ahead.answer(call, all) != due);
        }
    }

    static long[] with(long[] numbers, int place, long number) {
        long[] all = numbers.clone();
        all[place] = number;
        return all;
    }

    static long[] numbers(long... numbers) {
        return numbers;
    }

    private void note(String call, long due) {
        String name = "FAULT";
        for (int k = 0; k < REFUSALS.length; k++) {
            name = REFUSALS[k] == due ? NAMES[k] : name;
        }
        refused.add(call + " " + name);
    }

    /** Ends; these are the refusals that the promises name, each of which must have been asked for. */
    void end(String test, String... named) {
        for (String call : named) {
            String[] words = call.split(" ");
            for (int k = 1; k < words.length; k++) {
                checks.holds(words[0] + " was refused with " + words[k], refused.contains(words[0] + " " + words[k]));
            }
        }
        checks.end(test);
    }
}
