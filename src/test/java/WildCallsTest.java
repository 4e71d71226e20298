import java.lang.reflect.InvocationTargetException;
import java.lang.reflect.Method;
import java.lang.reflect.Modifier;
import java.util.ArrayList;
import java.util.Arrays;
import java.util.Comparator;
import java.util.List;
import java.util.Random;

/** Any call with any numbers: it answers, or throws just what its promise names, and then nothing has changed. */
public final class WildCallsTest {
    private static final int OBJECTS = 400;
    private static final int CALLS = 512;
    private static final int[] FAR = {Integer.MIN_VALUE, Integer.MIN_VALUE + 1, -1000, -33, -32, -2, -1, 7, 10, 31, 32, 33,
        60, 61, 99, 100, 120, 121, 400, 1000, 65536, Integer.MAX_VALUE - 1, Integer.MAX_VALUE};

    private final Random chance;
    private final GripEstates x = new GripEstates();

    private WildCallsTest(int seed) {
        chance = new Random(seed);
    }

    public static void main(String[] args) throws Exception {
        List<Method> methods = new ArrayList<>();
        for (Method m : GripEstates.class.getDeclaredMethods()) {
            if (Modifier.isPublic(m.getModifiers())) {
                methods.add(m);
            }
        }
        methods.sort(Comparator.comparing(Method::getName));
        for (int i = 0; i < OBJECTS; i++) {
            new WildCallsTest(i).go(methods);
        }
        Check.end();
    }

    private void go(List<Method> methods) throws Exception {
        Model m = new Model();
        for (int i = 0; i < chance.nextInt(4); i++) {
            Check.valley(x, new Texts(chance).valley(m, 14));
            Check.law(x, new Texts(chance).law(m));
        }
        for (int i = 0; i < CALLS; i++) {
            call(methods.get(chance.nextInt(methods.size())));
        }
    }

    private void call(Method method) throws Exception {
        Object[] values = new Object[method.getParameterCount()];
        for (int i = 0; i < values.length; i++) {
            boolean flag = method.getParameterTypes()[i] == boolean.class;
            values[i] = flag ? (Object) chance.nextBoolean() : (Object) number();
        }
        String before = chance.nextInt(4) == 0 ? Check.seen(x) : null;
        try {
            method.invoke(x, values);
        } catch (InvocationTargetException e) {
            boolean named = Arrays.asList(method.getExceptionTypes()).contains(e.getCause().getClass());
            if (!named) {
                e.getCause().printStackTrace(System.out);
            }
            String what = method.getName() + Arrays.toString(values);
            Check.due(what + " throws what it names", true, named);
            if (before != null) {
                Check.due(what + " changes nothing", before, Check.seen(x));
            }
        }
    }

    private int number() {
        switch (chance.nextInt(4)) {
            case 0: return FAR[chance.nextInt(FAR.length)];
            case 1: return chance.nextInt();
            default: return chance.nextInt(10);
        }
    }
}
