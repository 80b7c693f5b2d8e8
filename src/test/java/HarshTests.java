import java.lang.management.ManagementFactory;
import java.lang.reflect.Constructor;
import java.lang.reflect.Field;
import java.lang.reflect.InvocationTargetException;
import java.lang.reflect.Method;
import java.lang.reflect.Modifier;
import java.util.Random;
import java.util.TreeMap;
import java.util.TreeSet;

/** Any arguments in any state; the face; what refused calls leave; what calls make. */
public final class HarshTests {
    private static final int[] EDGES = {Integer.MIN_VALUE, Integer.MIN_VALUE + 1, -65536, -256, -31,
        -21, -9, -7, -6, -5, -4, -3, -2, -1, 0, 1, 2, 3, 4, 5, 6, 7, 8, 9, 10, 13, 19, 20, 21, 23, 29,
        30, 31, 32, 33, 126, 127, 255, 256, 9999, 10000, 65536, Integer.MAX_VALUE - 1,
        Integer.MAX_VALUE};

    public static void main(String[] args) throws Exception {
        face();
        TreeMap<String, Method> calls = calls();
        for (int seed = 0; seed < 300; seed++) {
            anyArguments(calls, seed);
        }
        refusedCallsChangeNothing(calls);
        askingChangesNothing(calls);
        everyTextOfThreeSigns();
        callsFitInOneRoom();
        Check.end();
    }

    private static TreeMap<String, Method> calls() {
        TreeMap<String, Method> calls = new TreeMap<>();
        for (Method method : LongestRuns.class.getDeclaredMethods()) {
            if (Modifier.isPublic(method.getModifiers())) {
                calls.put(method.getName(), method);
            }
        }
        return calls;
    }

    private static void face() {
        String[] want = {"shelf 2", "say 1", "wipe 0", "fault 0", "program 1", "node 3", "choose 1",
            "forget 0", "run 2", "most 2", "row 2", "age 4", "sort 2", "bound 2", "fast 2", "crowd 1",
            "period 2", "breaks 2", "done 1", "late 1", "image 1", "restore 1", "told 1"};
        TreeSet<String> methods = new TreeSet<>();
        for (Method method : LongestRuns.class.getDeclaredMethods()) {
            int modifiers = method.getModifiers();
            Check.holds("no other visible method: " + method,
                    Modifier.isPublic(modifiers) || Modifier.isPrivate(modifiers));
            if (Modifier.isPublic(modifiers)) {
                methods.add(method.getName() + " " + method.getParameterCount());
                Check.holds("int of " + method, method.getReturnType() == int.class);
                Check.holds("no static " + method, !Modifier.isStatic(modifiers));
            }
        }
        Check.holds("methods " + methods, methods.equals(new TreeSet<>(java.util.List.of(want))));
        TreeSet<String> fields = new TreeSet<>();
        for (Field field : LongestRuns.class.getDeclaredFields()) {
            if (!Modifier.isPrivate(field.getModifiers())) {
                fields.add(field.getName());
            }
        }
        Check.holds("constants " + fields, fields.equals(new TreeSet<>(
                java.util.List.of("NONE", "UNKNOWN", "OUTSIDE", "STATE", "FULL", "NO"))));
        Constructor<?>[] constructors = LongestRuns.class.getDeclaredConstructors();
        Check.due("constructors", constructors.length, 1);
        Check.due("its parameters", constructors[0].getParameterCount(), 0);
        Check.holds("final", Modifier.isFinal(LongestRuns.class.getModifiers()));
    }

    private static int call(LongestRuns x, Method method, int[] some) {
        Object[] arguments = new Object[method.getParameterCount()];
        for (int i = 0; i < arguments.length; i++) {
            arguments[i] = some[i];
        }
        try {
            return (Integer) method.invoke(x, arguments);
        } catch (InvocationTargetException e) {
            Check.holds(method + java.util.Arrays.toString(some) + " threw " + e.getCause(), false);
        } catch (IllegalAccessException e) {
            Check.holds("no access to " + method, false);
        }
        return 0;
    }

    private static int anyNumber(Random by) {
        return by.nextInt(3) == 0 ? EDGES[by.nextInt(EDGES.length)] : by.nextInt(6);
    }

    /** Programs are written in between, so that the calls meet all kinds of states. */
    private static void anyArguments(TreeMap<String, Method> calls, int seed) {
        Random by = new Random(seed);
        LongestRuns x = new LongestRuns();
        Method[] all = calls.values().toArray(new Method[0]);
        // No more than 512 calls are promised: a text may take 32 of them.
        for (int made = 0; made < 480; made++) {
            if (by.nextInt(10) == 0) {
                String text = ModelTests.shortTextBy(by, 29);
                Check.say(x, text);
                x.program(by.nextInt(4));
                x.wipe();
                made += text.length() + 2;
            }
            int[] some = {anyNumber(by), anyNumber(by), anyNumber(by), anyNumber(by)};
            Method method = all[by.nextInt(all.length)];
            int answer = call(x, method, some);
            Check.holds(method.getName() + " answers no less than NONE", answer >= -6);
        }
    }

    private static LongestRuns busy() {
        LongestRuns x = Check.with("d?;02;13", ";4c;67", "-", "b;0?15");
        x.shelf(3, 1 + 16);
        Check.choose(x, 4, 1, 0, 1, 1, 2, 3);
        x.period(0, 90);
        x.period(2, 7);
        x.period(3, 500);
        Check.say(x, ";?0");
        return x;
    }

    private static void refusedCallsChangeNothing(TreeMap<String, Method> calls) {
        LongestRuns x = busy();
        String state = Check.stateOf(x);
        for (Method method : calls.values()) {
            if (method.getParameterCount() > 0) {
                for (int edge : EDGES) {
                    for (int other : new int[] {edge, 0, 1}) {
                        x = busy();
                        int answer = call(x, method, new int[] {edge, other, edge, other});
                        boolean isRefused = answer < 0 && answer != LongestRuns.NONE;
                        Check.holds(method.getName() + " " + edge + " " + other + " is refused",
                                !isRefused || state.equals(Check.stateOf(x)));
                    }
                }
            }
        }
        x = busy();
        Check.due("a faulty pad", x.program(0), -5);
        Check.due("too many held", x.shelf(1, 1), -5);
        Check.due("too many held", x.shelf(3, 21), -5);
        Check.due("no image", x.restore(1), -3);
        Check.holds("they change nothing", state.equals(Check.stateOf(x)));
    }

    private static void askingChangesNothing(TreeMap<String, Method> calls) {
        String[] asking = {"fault", "node", "run", "most", "row", "age", "sort", "bound", "fast",
            "crowd", "breaks", "done", "late", "told", "image"};
        for (String name : asking) {
            LongestRuns x = busy();
            String state = Check.stateOf(x);
            for (int i = 0; i < 256; i++) {
                call(x, calls.get(name), new int[] {i & 3, i >> 2 & 7, i >> 5 & 1, i >> 6 & 3});
            }
            Check.holds(name + " changes nothing", state.equals(Check.stateOf(x)));
        }
    }

    private static void everyTextOfThreeSigns() {
        for (int i = 0; i < 94 * 94; i++) {
            LongestRuns x = new LongestRuns();
            Model model = new Model();
            char[] signs = {"b;?d0".charAt(i % 5), (char) (33 + i / 94), (char) (33 + i % 94)};
            for (char sign : signs) {
                x.say(sign);
                model.say(sign);
                Check.due("fault of " + new String(signs), x.fault(), model.fault());
            }
        }
    }

    /** All that an object and its 512 calls make must fit in one room of 7.3 million elements. */
    private static void callsFitInOneRoom() {
        com.sun.management.ThreadMXBean threads =
                (com.sun.management.ThreadMXBean) ManagementFactory.getThreadMXBean();
        long before = threads.getCurrentThreadAllocatedBytes();
        int sum = 0;
        for (int i = 0; i < 2; i++) {
            sum += askAll(busy());
        }
        long after = threads.getCurrentThreadAllocatedBytes();
        Check.holds("two objects and 500 calls make " + (after - before) + " bytes, " + sum,
                after - before < 4L * 7300000);
    }

    private static int askAll(LongestRuns x) {
        int sum = x.say('1') + x.say('2') + x.fault() + x.program(2) + x.wipe() + x.image(0);
        for (int p = 0; p < 4; p++) {
            for (int what = 0; what < 5; what++) {
                sum += x.run(p, what) + x.most(p, what) + x.row(p, what) + x.bound(p, what);
                sum += x.fast(p, what) + x.late(what) + x.told(what) + x.sort(p, what);
                sum += x.age(p, what, 0, what) + x.node(p, what, 0) + x.breaks(p, what);
            }
            sum += x.crowd(p) + x.done(p) + x.period(p, 50 * p);
        }
        return sum + x.restore(0) + x.shelf(2, 12) + x.shelf(2, 10) + x.choose(1) + x.forget();
    }
}
