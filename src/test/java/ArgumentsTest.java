import java.lang.reflect.InvocationTargetException;
import java.lang.reflect.Method;
import java.lang.reflect.Modifier;
import java.util.Arrays;

/** All promises: every call with right and wrong numbers in every place at once, against the model. */
public final class ArgumentsTest {
    private static final Checks CHECKS = new Checks();
    private static final int[] NUMBERS = {Integer.MIN_VALUE, -1, 0, 1, 2, 3, 4, 5, 8, 12, 16, 17, 20, 21, Integer.MAX_VALUE};
    private static final int STATES = 4;
    /** Of a call with more ways than this only some are looked at, told by steps of a prime. */
    private static final int MOST_WAYS = 4000;
    private static final int[] PRIMES = {1, 13, 6067};

    private final LoopSpaces x = new LoopSpaces();
    private final Model m = new Model();

    public static void main(String[] args) throws ReflectiveOperationException {
        for (Method call : LoopSpaces.class.getDeclaredMethods()) {
            if (Modifier.isPublic(call.getModifiers()) && !call.getName().equals("type")) {
                Method due = Model.class.getDeclaredMethod(call.getName(), call.getParameterTypes());
                for (int state = 0; state < STATES; state++) {
                    allWays(call, due, state);
                }
            }
        }
        CHECKS.end("ArgumentsTest");
    }

    private static void allWays(Method call, Method due, int state) throws ReflectiveOperationException {
        int ways = 1;
        for (int i = 0; i < call.getParameterCount(); i++) {
            ways *= NUMBERS.length;
        }
        int prime = 0;
        while (ways / PRIMES[prime] > MOST_WAYS && prime < PRIMES.length - 1) {
            prime++;
        }
        for (int way = state; way < Math.max(ways, state + 1); way += PRIMES[prime]) {
            Object[] numbers = new Object[call.getParameterCount()];
            int rest = way;
            for (int i = 0; i < numbers.length; i++) {
                numbers[i] = NUMBERS[rest % NUMBERS.length];
                rest /= NUMBERS.length;
            }
            new ArgumentsTest(state).ask(call, due, numbers, state);
        }
    }

    private ArgumentsTest(int state) {
        if (state > 0) {
            type("2;a=0>1;b=1>0;c=1>1;:abab;:cc;:acB");
            x.text(0);
            m.text(0);
            type("1;a=0>0;b=0>0;:abAB");
            x.text(1);
            m.text(1);
        }
        if (state > 1) {
            words();
            sheets();
        }
        if (state > 2) {
            x.layer(0, 2, 0);
            m.layer(0, 2, 0);
            type("ab");
        }
    }

    private void type(String tape) {
        Checks.type(x, tape);
        m.tape = tape;
    }

    private void words() {
        String[] words = {"abcA", "ab", "acb"};
        for (int slot = 0; slot < words.length; slot++) {
            type(words[slot]);
            x.word(slot, slot % 2);
            m.word(slot, slot % 2);
        }
    }

    private void sheets() {
        int[] items = {1, 2, 1, 3, -3};
        for (int sheet = 0; sheet < 3; sheet++) {
            int size = sheet == 0 ? 20 : 10 - 5 * sheet;
            x.sheet(sheet, sheet, size);
            m.sheet(sheet, sheet, size);
            for (int i = 0; i < items.length && i < size; i++) {
                x.item(sheet, sheet, i, items[i]);
                m.item(sheet, sheet, i, items[i]);
            }
        }
    }

    private void ask(Method call, Method due, Object[] numbers, int state) throws ReflectiveOperationException {
        String name = "state " + state + ": " + call.getName() + Arrays.toString(numbers);
        long answer = ((Number) due.invoke(m, numbers)).longValue();
        try {
            CHECKS.same(name, ((Number) call.invoke(x, numbers)).longValue(), answer);
        } catch (InvocationTargetException thrown) {
            CHECKS.holds(name + " threw " + thrown.getCause(), false);
        }
        for (int space = 0; space < 3; space++) {
            for (int what = 0; what < 6; what++) {
                CHECKS.same(name + ", then count", x.count(space, what), m.count(space, what));
            }
        }
        for (int slot = 0; slot < 4; slot++) {
            for (int what = 0; what < 4; what++) {
                CHECKS.same(name + ", then about", x.about(slot, what), m.about(slot, what));
            }
            CHECKS.same(name + ", then drop", x.drop(slot), m.drop(slot));
        }
        CHECKS.same(name + ", then type", x.type('a', 1), m.type('a', 1));
    }
}
