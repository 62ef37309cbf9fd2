import java.util.ArrayList;
import java.util.Arrays;
import java.util.EnumMap;
import java.util.List;
import java.util.Map;

/**
 * A run of calls that is told again on a new object as often as it is asked for, so that what an
 * object holds can be looked at by calls that change it, too.
 */
final class Story {
    /** What calls may change, each seen by calls whose answers the other ones do not touch. */
    enum Part { SPACE_0, SPACE_1, LAYER, SLOT_0, SLOT_1, SLOT_2, SLOT_3, SHEETS, TAPE }

    static final Story NEW = new Story(List.of());

    /** Of an object's calls: the document promises nothing behind them. */
    private static final int MOST_CALLS = 512;

    private record Call(String name, long[] numbers) { }

    private final List<Call> calls;
    private final Map<Part, long[]> seen = new EnumMap<>(Part.class);

    private Story(List<Call> calls) {
        this.calls = calls;
    }

    Story then(String name, long... numbers) {
        List<Call> more = new ArrayList<>(calls);
        more.add(new Call(name, numbers));
        return new Story(more);
    }

    Story typed(String tape) {
        Story story = this;
        for (int at = 0; at < tape.length(); at += 8) {
            String piece = tape.substring(at, Math.min(at + 8, tape.length()));
            story = story.then("type", Checks.packed(piece), piece.length());
        }
        return story;
    }

    Story text(int space, String text) {
        return typed(text).then("text", space);
    }

    Story face(int space, String rim) {
        return typed(rim).then("face", space);
    }

    Story word(int slot, int space, String word) {
        return typed(word).then("word", slot, space);
    }

    /** A SHEET that holds these. */
    Story row(int sheet, int lane, int... items) {
        Story story = then("sheet", sheet, lane, items.length);
        for (int i = 0; i < items.length; i++) {
            story = story.then("item", sheet, lane, i, items[i]);
        }
        return story;
    }

    int size() {
        return calls.size();
    }

    long answer(String name, long... numbers) {
        return new Telling().ask(name, numbers);
    }

    long[] seen(Part part) {
        return seen.computeIfAbsent(part, this::look);
    }

    boolean isSame(Story other, Part part) {
        return Arrays.equals(seen(part), other.seen(part));
    }

    private long[] look(Part part) {
        return switch (part) {
            case SPACE_0 -> lookAtSpace(0);
            case SPACE_1 -> lookAtSpace(1);
            case LAYER -> lookAtLayer();
            case SLOT_0, SLOT_1, SLOT_2, SLOT_3 -> lookAtSlot(part.ordinal() - Part.SLOT_0.ordinal());
            case SHEETS -> lookAtSheets();
            case TAPE -> lookAtTape();
        };
    }

    private long[] lookAtSpace(int space) {
        Telling telling = new Telling();
        telling.askForEach("count", space, 6);
        telling.askForEach("told", space, 13, 3);
        telling.askForEach("rim", space, 9, 9);
        return telling.answers();
    }

    private long[] lookAtLayer() {
        Telling telling = new Telling();
        telling.ask("storeys", 2);
        telling.askForEach("count", 2, 6);
        telling.askForEach("told", 2, 49, 3);
        Telling other = new Telling();
        other.askForEach("rim", 2, 33, 9);
        for (int turn = 0; turn < 13; turn++) {
            other.askForEach("moves", turn, 5);
        }
        return joined(telling.answers(), other.answers());
    }

    private long[] lookAtSlot(int slot) {
        Telling telling = new Telling();
        telling.askForEach("about", slot, 4);
        telling.askForEach("step", slot, 17);
        return telling.answers();
    }

    /** Items are seen by walks in a SPACE of twelve EDGES from a CORNER to itself. */
    private long[] lookAtSheets() {
        Telling telling = new Telling();
        telling.makeTwelve();
        for (int sheet = 0; sheet < 4; sheet++) {
            for (int lane = 0; lane < 3; lane++) {
                if (telling.ask("walk", 3, 1, sheet, lane, 0, 0) >= 0) {
                    telling.askForItems(sheet, lane);
                }
            }
            telling.ask("drop", sheet);
        }
        return telling.answers();
    }

    private long[] lookAtTape() {
        Telling byText = new Telling();
        byText.makeTwelve();
        byText.ask("text", 1);
        byText.askForEach("count", 1, 6);
        Telling byFace = new Telling();
        byFace.makeTwelve();
        byFace.ask("face", 1);
        byFace.ask("rim", 1, 0, 0);
        Telling byWord = new Telling();
        byWord.makeTwelve();
        byWord.ask("word", 3, 1);
        byWord.askForEach("step", 3, 17);
        Telling byLength = new Telling();
        byLength.ask("type", 'a', 1);
        return joined(joined(byText.answers(), byFace.answers()), joined(byWord.answers(), byLength.answers()));
    }

    private static long[] joined(long[] first, long[] second) {
        long[] all = Arrays.copyOf(first, first.length + second.length);
        System.arraycopy(second, 0, all, first.length, second.length);
        return all;
    }

    /** The calls made on a new object, and what is asked of it then. */
    private final class Telling {
        private final LoopSpaces x = new LoopSpaces();
        private final List<Long> answers = new ArrayList<>();
        private int made;

        Telling() {
            for (Call call : calls) {
                make(call.name, call.numbers);
            }
        }

        private long make(String name, long[] numbers) {
            made++;
            if (made > MOST_CALLS) {
                throw new IllegalStateException("too many calls for one object");
            }
            return make(x, name, numbers);
        }

        private static long make(LoopSpaces x, String name, long[] given) {
            int[] n = new int[6];
            for (int i = 0; i < given.length; i++) {
                n[i] = (int) given[i];
            }
            return switch (name) {
                case "corners" -> x.corners(n[0], n[1]);
                case "edge" -> x.edge(n[0], n[1], n[2]);
                case "type" -> x.type(given[0], n[1]);
                case "face" -> x.face(n[0]);
                case "text" -> x.text(n[0]);
                case "count" -> x.count(n[0], n[1]);
                case "told" -> x.told(n[0], n[1], n[2]);
                case "rim" -> x.rim(n[0], n[1], n[2]);
                case "holes" -> x.holes(n[0], n[1], n[2]);
                case "bend" -> x.bend(n[0], n[1]);
                case "tables" -> x.tables(n[0], n[1]);
                case "layers" -> x.layers(n[0], n[1]);
                case "layer" -> x.layer(n[0], n[1], n[2]);
                case "storeys" -> x.storeys(n[0]);
                case "moves" -> x.moves(n[0], n[1]);
                case "lift" -> x.lift(n[0], n[1]);
                case "moved" -> x.moved(n[0]);
                case "word" -> x.word(n[0], n[1]);
                case "walk" -> x.walk(n[0], n[1], n[2], n[3], n[4], n[5]);
                case "about" -> x.about(n[0], n[1]);
                case "step" -> x.step(n[0], n[1]);
                case "drawn" -> x.drawn(n[0], n[1]);
                case "product" -> x.product(n[0], n[1], n[2]);
                case "nought" -> x.nought(n[0], n[1]);
                case "fold" -> x.fold(n[0]);
                case "join" -> x.join();
                case "sheet" -> x.sheet(n[0], n[1], n[2]);
                case "drop" -> x.drop(n[0]);
                case "item" -> x.item(n[0], n[1], n[2], n[3]);
                default -> throw new IllegalArgumentException(name);
            };
        }

        long ask(String name, long... numbers) {
            long answer = make(name, numbers);
            answers.add(answer);
            return answer;
        }

        void askForEach(String name, long first, int behind) {
            for (int k = 0; k < behind; k++) {
                ask(name, first, k);
            }
        }

        void askForEach(String name, long first, int behind, int lastBehind) {
            // an answer below 0 to the first of a row: there is no such row
            for (int k = 0; k < behind && (k == 0 || answers.get(answers.size() - lastBehind) >= 0); k++) {
                for (int i = 0; i < lastBehind; i++) {
                    ask(name, first, k, i);
                }
            }
        }

        void askForItems(int sheet, int lane) {
            for (int i = 0; i < 21; i++) {
                ask("walk", 3, 1, sheet, lane, i, 1);
                ask("step", 3, 0);
            }
        }

        void makeTwelve() {
            make("corners", new long[] {1, 1});
            for (int e = 0; e < 12; e++) {
                make("edge", new long[] {1, 0, 0});
            }
        }

        long[] answers() {
            return answers.stream().mapToLong(Long::longValue).toArray();
        }
    }
}
