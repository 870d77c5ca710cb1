import java.lang.reflect.InvocationTargetException;
import java.lang.reflect.Method;
import java.util.Arrays;
import java.util.Random;

/** No call throws but element, whatever it is told; the face is the document's; a run's calls fit in their room. */
public final class MachineTest {
    private static final int[] FAR = {Integer.MIN_VALUE, Integer.MIN_VALUE + 1, -129, -2, -1, 0, 1, 2, 3, 5, 6, 7, 8, 12, 39, 40, 60, 99,
        100, 101, 112, 117, 118, 120, 121, 255, 256, 65536, Integer.MAX_VALUE - 1, Integer.MAX_VALUE};
    private static final Check check = new Check("MachineTest");

    public static void main(String[] args) throws Exception {
        face();
        Method[] methods = KitchenCards.class.getDeclaredMethods();
        Arrays.sort(methods, (a, b) -> a.getName().compareTo(b.getName()));
        for (int seed = 0; seed < 300; seed++) {
            farCalls(methods, seed);
        }
        room();
        check.end();
    }

    private static void face() {
        StringBuilder names = new StringBuilder();
        Method[] methods = KitchenCards.class.getDeclaredMethods();
        Arrays.sort(methods, (a, b) -> a.getName().compareTo(b.getName()));
        for (Method method : methods) {
            if (!java.lang.reflect.Modifier.isPrivate(method.getModifiers())) {
                names.append(method.getReturnType()).append(' ').append(method.getName()).append(method.getParameterCount()).append(' ');
            }
        }
        check.same("the face", names.toString(), "int bestOrder3 int check4 int copy5 int count1 int effort1 long element2 int fault1 "
            + "int from2 int give1 int height1 int image0 int keep4 int letter2 int line1 int must4 int need4 long never0 int of2 int order3 "
            + "int pair3 int program1 int put3 int restore0 int row3 int run3 int show2 int slips5 int step4 int table1 int toss1 int tree2 "
            + "int widest3 ");
        for (java.lang.reflect.Field field : KitchenCards.class.getDeclaredFields()) {
            check.due(field.getName() + " is private", java.lang.reflect.Modifier.isPrivate(field.getModifiers()) ? 1 : 0, 1);
        }
        check.due("constructors", KitchenCards.class.getDeclaredConstructors().length, 1);
    }

    private static void farCalls(Method[] methods, int seed) throws Exception {
        Random random = new Random(seed);
        KitchenCards x = new KitchenCards();
        String[] texts = {"((p>q)vr)", "(p>(q>p))", "p", "(~pvq)", "~~(pvq)"};
        for (int i = random.nextInt(5); i > 0; i--) {
            Check.given(x, texts[random.nextInt(texts.length)]);
            Check.line(x, texts[random.nextInt(texts.length)]);
            Check.program(x, "m;d;c;");
        }
        for (int call = 0; call < 200; call++) {
            Method method = methods[random.nextInt(methods.length)];
            if (java.lang.reflect.Modifier.isPrivate(method.getModifiers())) {
                continue;
            }
            Object[] told = new Object[method.getParameterCount()];
            for (int i = 0; i < told.length; i++) {
                told[i] = FAR[random.nextInt(random.nextInt(3) == 0 ? FAR.length : 13)];
            }
            try {
                method.invoke(x, told);
            } catch (InvocationTargetException thrown) {
                Class<?> kind = thrown.getCause().getClass();
                boolean due = method.getName().equals("element")
                    && (kind == IllegalArgumentException.class || kind == IllegalStateException.class);
                check.due(method.getName() + Arrays.toString(told) + " threw " + thrown.getCause(), due ? 1 : 0, 1);
            }
        }
    }

    /** What the dearest calls make stays far below the room of one run: 7.3 million fields and elements. */
    private static void room() {
        long most = 7_300_000L * 8;
        check.due("lines and restores fit", made(0) < most / 4 ? 1 : 0, 1);
        check.due("cards fit", made(1) < most / 4 ? 1 : 0, 1);
        check.due("best orders fit", made(2) < most / 4 ? 1 : 0, 1);
        check.due("heights, trees, widest ones fit", made(3) < most / 4 ? 1 : 0, 1);
    }

    private static long made(int what) {
        com.sun.management.ThreadMXBean threads =
            (com.sun.management.ThreadMXBean) java.lang.management.ManagementFactory.getThreadMXBean();
        long thread = Thread.currentThread().getId();
        long before = threads.getThreadAllocatedBytes(thread);
        KitchenCards x = new KitchenCards();
        Check.given(x, "((pvq)>(qvp))");
        Check.line(x, "(((pvq)v(pvq))v((pvq)v((pvq)v((pvq)v((pvq)v(pvq))))))");
        Check.line(x, "(pvq)");
        Check.line(x, "(qvp)");
        Check.program(x, "m;d;c;");
        Check.layBytes(x, 1, 1, 2, 3);
        x.image();
        for (int call = 0; call < 480; call++) {
            switch (what) {
                case 0:
                    x.line(7);
                    x.restore();
                    break;
                case 1: x.keep(0, 1, 6, 0); x.toss(0); break;
                case 2: x.bestOrder(0, 1, 0); break;
                default: x.height(1); x.tree(1, 9); x.widest(0, 1, 0); x.need(0, 1, 0, 0); break;
            }
        }
        return threads.getThreadAllocatedBytes(thread) - before;
    }
}
