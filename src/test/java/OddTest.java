import java.lang.reflect.InvocationTargetException;
import java.lang.reflect.Method;
import java.lang.reflect.Modifier;
import java.util.Arrays;

/** LANGUAGE.md's rule 7: whatever a call is asked, and in whatever state, it ends and throws nothing. */
public final class OddTest extends Calls {
    private static final int[] ODD = {LOW, LOW + 1, VOID, -101, -100, -99, -1, 0, 1, 5, 11, 12, 13, 60, 61, 99, 100, 120, 200, 201, 256, 1 << 30, HIGH - 1, HIGH};
    private static final int CALLS_OF_ONE = 400;

    private static ActorTrees x;
    private static int calls;

    private OddTest() {
    }

    public static void main(String[] args) throws IllegalAccessException {
        check = new Check("OddTest");
        for (int state = 0; state < 5; state++) {
            for (Method method : ActorTrees.class.getDeclaredMethods()) {
                if (Modifier.isPublic(method.getModifiers())) {
                    calls = 0;
                    ask(method, new Object[method.getParameterCount()], 0, state);
                }
            }
        }
        check.end();
    }

    private static void ask(Method method, Object[] told, int place, int state) throws IllegalAccessException {
        if (place == told.length) {
            call(method, told, state);
        } else if (method.getParameterTypes()[place] == boolean.class) {
            for (boolean yes : new boolean[] {false, true}) {
                told[place] = yes;
                ask(method, told, place + 1, state);
            }
        } else {
            for (int n : ODD) {
                told[place] = n;
                ask(method, told, place + 1, state);
            }
        }
    }

    private static void call(Method method, Object[] told, int state) throws IllegalAccessException {
        if (calls % CALLS_OF_ONE == 0) {
            x = inState(state);
        }
        calls++;
        String name = method.getName() + Arrays.toString(told) + " in state " + state;
        try {
            due(name, method.invoke(x, told) instanceof Integer ? 1 : 0, 1);
        } catch (InvocationTargetException thrown) {
            due(name + ": " + thrown.getCause(), 0, 1);
        }
    }

    /** 0 new, 1 one alone, 2 DOWN, 3 all that can be is full, 4 laid back to fewer. */
    private static ActorTrees inState(int state) {
        if (state == 0) {
            return new ActorTrees();
        }
        if (state < 3) {
            ActorTrees one = broom(SOME, SWITCH);
            due("stop(0)", state == 2 ? one.stop(0) : 1, 1);
            return one;
        }
        ActorTrees full = new ActorTrees();
        full.image();
        for (int a = 0; a < 12; a++) {
            full.actor(a - 1, a == 1 ? DELAY : a == 2 ? WATCH : HOLD, 1001);
        }
        for (int k = 0; k < 12; k++) {
            full.tell(1, -1, 9);
            full.tell(2, -1, k);
            full.tell(3, -1, 1);
        }
        full.run(28);
        full.drawn(40);
        full.row(0, 60);
        full.hold(5, 11);
        full.feed('s');
        if (state == 4) {
            full.back();
        }
        return full;
    }
}
