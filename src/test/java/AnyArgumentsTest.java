import java.lang.reflect.Method;
import java.lang.reflect.Modifier;
import java.util.ArrayList;
import java.util.Arrays;
import java.util.List;

/**
 * Every call of the face with every mixture of the numbers below, in networks of several sizes:
 * it ends, throws nothing (rule 7 of LANGUAGE.md), and answers what the model answers.
 */
public final class AnyArgumentsTest {
    /** The bounds that the document names, their neighbours, and such as wrap around or fold. */
    private static final int[] NUMBERS = {
        Integer.MIN_VALUE, Integer.MIN_VALUE + 1, -1000000000, -4, -3, -2, -1, 0, 1, 2, 3, 4, 5, 11, 12, 13,
        16, 17, 31, 32, 33, 4096, Integer.MAX_VALUE - 1, Integer.MAX_VALUE
    };
    private static final int[] SIZES = {0, 1, 4, 12};

    private static final Due due = new Due();

    public static void main(String[] args) throws ReflectiveOperationException {
        int methods = 0;
        for (Method real : NetworkStates.class.getDeclaredMethods()) {
            if (Modifier.isPublic(real.getModifiers())) {
                methods++;
                Method model = Model.class.getDeclaredMethod(real.getName(), real.getParameterTypes());
                for (int size : SIZES) {
                    everyMixture(real, model, size);
                }
            }
        }
        due.answer("how many calls the face has", methods, 17);
        due.end();
    }

    private static void everyMixture(Method real, Method model, int size) throws ReflectiveOperationException {
        for (Object[] arguments : mixtures(real.getParameterCount())) {
            NetworkStates n = new NetworkStates();
            Model m = new Model();
            build(n, m, size);
            String call = real.getName() + Arrays.toString(arguments) + " of " + size;
            long got = ((Number) real.invoke(n, arguments)).longValue();
            long want = ((Number) model.invoke(m, arguments)).longValue();
            due.answer(call, got, want);
            due.answer("clear() after " + call, n.clear(), m.clear());
        }
    }

    private static List<Object[]> mixtures(int length) {
        List<Object[]> all = new ArrayList<>();
        all.add(new Object[0]);
        for (int i = 0; i < length; i++) {
            List<Object[]> longer = new ArrayList<>();
            for (Object[] before : all) {
                for (int number : NUMBERS) {
                    Object[] after = Arrays.copyOf(before, before.length + 1);
                    after[before.length] = number;
                    longer.add(after);
                }
            }
            all = longer;
        }
        return all;
    }

    /** Free and held edges, all shares that differ, some edges between the same two nodes. */
    private static void build(NetworkStates n, Model m, int size) {
        for (int i = 0; i < size; i++) {
            int a = (i * i + i / 4) % 5;
            int b = (a + 1 + i % 4) % 5;
            int share = (i * 7 + 3) % 17;
            int how = i % 5 < 3 ? 2 : i % 2;
            due.answer("link", n.link(a, b, share), m.link(a, b, share));
            due.answer("hold", n.hold(i, how), m.hold(i, how));
        }
    }
}
