import java.lang.reflect.InvocationTargetException;
import java.lang.reflect.Method;
import java.lang.reflect.Modifier;
import java.util.ArrayList;
import java.util.Arrays;
import java.util.Comparator;
import java.util.List;
import java.util.Random;

/** Any calls with any arguments: nothing is thrown but what the face says, and a call that throws changes nothing. */
public final class AnyCallTest {
    private static final int RUNS = 300;
    private static final int CALLS = 250;
    private static final long[] EDGES = {Integer.MIN_VALUE, Integer.MAX_VALUE, -2, -1, 99, 100, 900, 999, 1000, 1 << 16, 255};

    private final Random random;
    private final CrossedLines x;
    private final List<Method> face = new ArrayList<>();

    private AnyCallTest(long seed) {
        random = new Random(seed);
        x = random.nextInt(5) == 0 ? new CrossedLines() : Check.told(new Texts(random).exchange());
        for (Method method : CrossedLines.class.getDeclaredMethods()) {
            if (Modifier.isPublic(method.getModifiers())) {
                face.add(method);
            }
        }
        face.sort(Comparator.comparing(Method::getName));
    }

    public static void main(String[] args) throws IllegalAccessException {
        for (int seed = 0; seed < RUNS; seed++) {
            AnyCallTest run = new AnyCallTest(seed);
            for (int i = 0; i < CALLS; i++) {
                run.anyCall();
            }
        }
        Check.end();
    }

    private void anyCall() throws IllegalAccessException {
        Method method = face.get(random.nextInt(face.size()));
        Object[] told = new Object[method.getParameterCount()];
        for (int i = 0; i < told.length; i++) {
            long v = random.nextInt(6) == 0 ? EDGES[random.nextInt(EDGES.length)] : random.nextInt(random.nextInt(4) == 0 ? 300 : 9);
            told[i] = method.getParameterTypes()[i] == long.class ? (Object) v : (Object) (int) v;
        }
        if (method.getName().equals("feed") && random.nextInt(3) == 0) {
            Check.feed(x, "lines 4;cord;cord 0 2;slips:call;call 0 to 1 at 3 lasts 4;".getBytes());
        }
        String before = state();
        String call = method.getName() + Arrays.toString(told);
        try {
            method.invoke(x, told);
        } catch (InvocationTargetException e) {
            Class<?> kind = e.getCause().getClass();
            boolean isTold = Arrays.asList(method.getExceptionTypes()).contains(kind);
            Check.due(call + " threw " + e.getCause(), isTold ? 1 : 0, 1);
            Check.due(call + " threw and changed something", before.equals(state()) ? 1 : 0, 1);
        }
    }

    private String state() {
        StringBuilder told = new StringBuilder();
        for (int what = 0; what < 12; what++) {
            told.append(x.count(what)).append(' ');
        }
        for (int c = 0; c < x.count(3); c++) {
            for (int what = 0; what < 7; what++) {
                told.append(x.call(c, what)).append(' ');
            }
        }
        for (int l = 0; l < x.count(1); l++) {
            told.append(x.line(l, 1)).append(x.line(l, 2)).append(' ');
        }
        return told.append(x.fault(0)).append(' ').append(x.fault(1)).toString();
    }
}
