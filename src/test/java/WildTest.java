import java.lang.reflect.Method;
import java.lang.reflect.Modifier;
import java.util.Arrays;
import java.util.Comparator;
import java.util.Random;

// Any arguments in any state: each call comes back with an answer, and a refused one changes nothing
// that a second object, which was not asked it, would answer otherwise.
public final class WildTest {
    private static final int[] EDGES = {0, 1, -1, 2, 3, 4, 5, 6, 7, 8, 9, 10, 11, 16, 17, 31, 32, 33, 35, 36, 37, 60, 63, 64, 100, 120,
        255, 256, 999, 1000, 1001, 1023, 1024, 4096, 9000, 30000, 30001, Integer.MAX_VALUE, Integer.MIN_VALUE, Integer.MIN_VALUE + 1};

    public static void main(String[] args) throws Exception {
        Method[] calls = EarField.class.getDeclaredMethods();
        calls = Arrays.stream(calls).filter(m -> Modifier.isPublic(m.getModifiers())).toArray(Method[]::new);
        Arrays.sort(calls, Comparator.comparing(Method::getName));
        int wrong = calls.length == 44 ? 0 : 1;
        if (wrong != 0) System.out.println("calls: " + calls.length);
        long asked = 0;
        for (int run = 0; run < 300; run++) {
            Random random = new Random(run);
            EarField field = begin(random);
            EarField twin = begin(new Random(run));
            for (int i = 0; i < 400; i++) {
                Method call = calls[random.nextInt(calls.length)];
                Object[] with = arguments(call, random);
                long answer;
                try {
                    answer = ((Number) call.invoke(field, with)).longValue();
                } catch (java.lang.reflect.InvocationTargetException e) {
                    System.out.println("run " + run + ": " + call.getName() + Arrays.toString(with) + " threw " + e.getCause());
                    wrong++;
                    break;
                }
                asked++;
                boolean refused = answer <= EarField.UNKNOWN && answer >= EarField.FULL && !call.getName().equals("hour");
                if (refused && !call.getName().equals("at") || isReading(call.getName())) continue;
                long other = ((Number) call.invoke(twin, with)).longValue();
                if (other == answer) continue;
                System.out.println("run " + run + ": " + call.getName() + Arrays.toString(with) + " answered " + answer + " and " + other);
                wrong++;
                break;
            }
        }
        System.out.println("WildTest: " + asked + " calls, " + wrong + " wrong");
        if (wrong != 0) System.exit(1);
    }

    // Calls that only tell something are left out of the twin's run, so that they may change nothing either.
    private static boolean isReading(String name) {
        return Arrays.asList("longest", "best", "life", "foretold", "courses", "course", "judge", "settle", "quarrel", "fault", "rings",
            "cells").contains(name);
    }

    private static EarField begin(Random random) {
        EarField x = new EarField();
        int boxes = random.nextInt(11);
        for (int i = 0; i < boxes; i++) x.box(random.nextInt(2), random.nextInt(3000));
        for (int i = 0; i < 3 * boxes; i++) Due.link(x, random.nextInt(boxes), random.nextInt(boxes));
        x.rounds(5);
        if (random.nextBoolean()) Due.ask(x, "mean loud where box above 0 every 3");
        return x;
    }

    private static Object[] arguments(Method call, Random random) {
        Class<?>[] kinds = call.getParameterTypes();
        Object[] with = new Object[kinds.length];
        for (int i = 0; i < kinds.length; i++) {
            if (kinds[i] == boolean.class) with[i] = random.nextBoolean();
            else if (kinds[i] == long.class) with[i] = random.nextLong();
            else if (random.nextInt(4) == 0) with[i] = EDGES[random.nextInt(EDGES.length)];
            else with[i] = random.nextInt(i == 0 ? 10 : 7);
        }
        return with;
    }
}
