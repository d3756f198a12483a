import java.lang.reflect.Method;
import java.lang.reflect.Modifier;
import java.util.ArrayList;
import java.util.List;

/** Every method with every mix of numbers at and beyond the edges, in a few states, against the Model. */
public final class EdgesTest {
    private static final Object[] FLAGS = {true, false};
    private static final Object[] MANY = {Integer.MIN_VALUE, -101, -100, -99, -2, -1, 0, 1, 2, 3, 4, 5, 6, 8, 9, 10, 30, 32,
        40, 41, 60, 61, 63, 64, 99, 100, 300, 9999, 10000, 99999, 100000, Integer.MAX_VALUE};
    private static final Object[] SOME = {Integer.MIN_VALUE, -2, -1, 0, 2, 4, 5, 6, 9, 10, 11, 60, 100, Integer.MAX_VALUE};

    private EdgesTest() {
    }

    public static void main(String[] args) throws Exception {
        boolean wrong = false;
        for (int state = 0; state < 4 && !wrong; state++) {
            for (Method method : NamesInMelt.class.getDeclaredMethods()) {
                if (Modifier.isPublic(method.getModifiers()) && !wrong) {
                    Both pair = prepare(state);
                    mix(pair, method, new ArrayList<>());
                    wrong = pair.wrong;
                }
            }
        }
        System.out.println(wrong ? "answers are not alike" : "all edges are alike");
        if (wrong) {
            System.exit(1);
        }
    }

    private static Both prepare(int state) throws Exception {
        Both pair = new Both();
        int names = new int[] {0, 2, 5, 6}[state];
        int families = new int[] {0, 1, 3, 5}[state];
        for (int i = 0; i < names; i++) {
            pair.call("name", 12343 + 1111 * i, i);
        }
        for (int i = 0; i < families; i++) {
            pair.call("family", 1 + 2 * i, 2 * i);
        }
        for (int i = 0; i < 3 * state; i++) {
            pair.call("stone", i, true);
            pair.call("call", i);
            pair.call("half", 12 + i);
            pair.call("wants", i % 5, i % 6, 3 + i);
            pair.call("feed", 0x6d656c74, 0x73203120, 0x3b202020, 0x20202020, 0x20202020);
            pair.call("text");
            pair.call("said", 0, 1);
            pair.call("hour", 1);
        }
        return pair;
    }

    private static void mix(Both pair, Method method, List<Object> chosen) throws Exception {
        if (pair.wrong) {
            return;
        }
        int parameters = method.getParameterCount();
        if (chosen.size() == parameters) {
            pair.call(method.getName(), chosen.toArray());
            if (pair.wrong) {
                System.out.println(pair.log.get(pair.log.size() - 1));
            }
            return;
        }
        boolean flag = method.getParameterTypes()[chosen.size()] == boolean.class;
        Object[] values = flag ? FLAGS : parameters > 2 ? SOME : MANY;
        if (parameters == 5) {
            values = new Object[] {Integer.MIN_VALUE, -1, Integer.MAX_VALUE};
        }
        for (Object value : values) {
            chosen.add(value);
            mix(pair, method, chosen);
            chosen.remove(chosen.size() - 1);
        }
    }
}
