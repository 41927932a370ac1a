import java.lang.reflect.Method;
import java.util.ArrayList;
import java.util.List;
import java.util.Random;

// Random runs of calls (the same each time), each answer held against the plain model.
public final class RandomRunsTest {
    private static final String[] WORDS = {"least", "most", "mean", "loud", "count", "where", "box", "above", "below", "and", "every",
        "loudx", "L", "-", "7", "123", "0", "61", "60", "05"};
    private static final int[] ODD = {-1, -2, -5, 100, 1000, 30001, Integer.MAX_VALUE, Integer.MIN_VALUE, 64, 37, 1 << 20};

    private final Random random;
    private final EarField real = new EarField();
    private final Plain plain = new Plain();
    private final List<String> calls = new ArrayList<>();
    private final int profile;
    private final boolean wild;

    RandomRunsTest(long seed) {
        random = new Random(seed);
        profile = (int) (seed % 6);
        wild = random.nextInt(3) == 0;
    }

    public static void main(String[] args) {
        int first = args.length > 0 ? Integer.parseInt(args[0]) : 1;
        int runs = args.length > 1 ? Integer.parseInt(args[1]) : 600;
        int wrong = 0;
        for (int seed = first; seed < first + runs && wrong < 5; seed++) {
            if (!new RandomRunsTest(seed).run(seed)) wrong++;
        }
        System.out.println(wrong == 0 ? runs + " random runs answer as the plain model" : wrong + " random runs are wrong");
        if (wrong != 0) System.exit(1);
    }

    private boolean run(long seed) {
        start();
        // What an object answers beyond its 512th call is free.
        for (int i = 0; i < 400 && calls.size() < 440; i++) {
            if (!step()) {
                System.out.println("seed " + seed + ":");
                for (String call : calls) System.out.println("  " + call);
                return false;
            }
        }
        return true;
    }

    // Most runs begin with some boxes that hear one another, so that deep states come up.
    private void start() {
        if (random.nextInt(8) == 0) return;
        int boxes = 1 + random.nextInt(10);
        int power = random.nextBoolean() ? 30000 : 20 + random.nextInt(400);
        for (int i = 0; i < boxes; i++) call("box", random.nextInt(2), random.nextInt(power + 1));
        int density = 1 + random.nextInt(4);
        for (int a = 0; a < boxes; a++) {
            for (int b = a + 1; b < boxes; b++) {
                if (random.nextInt(4) >= density) continue;
                call("hears", a, b, 1);
                if (random.nextInt(10) != 0) call("hears", b, a, 1);
            }
        }
        call("rounds", 1 + random.nextInt(9));
    }

    private boolean step() {
        int part = random.nextInt(3) == 0 ? random.nextInt(6) : profile;
        switch (part) {
            case 0: return boxStep();
            case 1: return questionStep();
            case 2: return powerStep();
            case 3: return bearingStep();
            case 4: return programStep();
            default: return courtStep();
        }
    }

    private int odd(int usual) {
        return random.nextInt(wild ? 12 : 60) == 0 ? ODD[random.nextInt(ODD.length)] : usual;
    }

    private int in(int low, int high) { return odd(low + random.nextInt(high - low + 1)); }

    private int some() { return odd(random.nextInt(Math.max(1, plain.bs.size()) + (wild ? 1 : 0))); }

    private boolean boxStep() {
        switch (random.nextInt(16)) {
            case 0: return call("box", in(0, 1), in(0, 300));
            case 1: return call("hears", some(), some(), random.nextInt(2));
            case 2: return call("sleep", some(), in(1, 4), in(0, 15));
            case 3: return call("clock", some(), in(-20, 20), in(-50, 50));
            case 4: return call("set", in(0, 7), in(0, random.nextBoolean() ? 3 : 20));
            case 5: return call("power", some(), random.nextInt(4) == 0 ? 0 : in(1, 200));
            case 6: case 7: return call("at", some(), in(0, 6));
            case 8: return call("rounds", in(1, 4));
            case 9: return call("rings");
            case 10: case 11: case 12: return call("say", some(), in(0, 999));
            case 13: return call("ticks", in(1, random.nextInt(5) == 0 ? 60 : 4));
            case 14: return call("lost", in(0, 8));
            default: return random.nextInt(4) == 0 ? call("count", in(0, 7)) : call("kept", in(0, 13));
        }
    }

    private boolean questionStep() {
        switch (random.nextInt(12)) {
            case 0: case 1: return question();
            case 2: case 3: return call("loud", some(), in(0, 23), in(0, 16));
            case 4: return call("lies", some(), in(0, 16));
            case 5: case 6: return call("result", in(0, 6));
            case 7: return call("lost", in(0, 7));
            case 8: return loudAll();
            case 9: return call("set", 4, in(0, 3));
            default: return call("ticks", in(1, 5));
        }
    }

    private boolean loudAll() {
        int hour = plain.tick % 24;
        for (int i = 0; i < plain.bs.size(); i++) {
            if (!call("loud", i, hour, in(0, 15))) return false;
        }
        return true;
    }

    private boolean question() {
        if (random.nextInt(3) == 0) call("erase");
        StringBuilder text = new StringBuilder();
        text.append(new String[] {"least loud", "most loud", "mean loud", "count"}[random.nextInt(4)]);
        int conds = random.nextInt(5) == 0 ? random.nextInt(11) : random.nextInt(3);
        for (int i = 0; i < conds; i++) {
            text.append(i == 0 ? " where " : " and ").append(random.nextBoolean() ? "loud" : "box");
            text.append(random.nextBoolean() ? " above " : " below ").append(random.nextInt(12));
        }
        text.append(" every ").append(1 + random.nextInt(6));
        if (random.nextInt(3) == 0) spoil(text);
        for (int i = 0; i < text.length(); ) {
            int n = Math.min(1 + random.nextInt(8), text.length() - i);
            long bytes = 0;
            for (int k = 0; k < n; k++) bytes |= (long) (text.charAt(i + k) & 255) << (8 * k);
            if (n < 8 && random.nextBoolean()) bytes |= random.nextLong() << (8 * n);
            if (!call("write", bytes, n)) return false;
            i += n;
        }
        return call("fault") && call("count", 3) && call("ask") && (random.nextBoolean() || call("erase"));
    }

    private void spoil(StringBuilder text) {
        int place = random.nextInt(text.length() + 1);
        switch (random.nextInt(7)) {
            case 0: text.setLength(place); break;
            case 5: case 6: dropToken(text); break;
            case 1: text.insert(place, WORDS[random.nextInt(WORDS.length)]); break;
            case 2: text.insert(place, " " + WORDS[random.nextInt(WORDS.length)] + " "); break;
            case 3: text.insert(place, (char) random.nextInt(256)); break;
            default: if (place < text.length()) text.deleteCharAt(place);
        }
    }

    private void dropToken(StringBuilder text) {
        String[] tokens = text.toString().split(" ");
        tokens[random.nextInt(tokens.length)] = "";
        text.setLength(0);
        text.append(String.join(" ", tokens));
    }

    private boolean powerStep() {
        switch (random.nextInt(10)) {
            case 0: return call("foretold", some(), in(0, random.nextBoolean() ? 1000 : 20));
            case 1: return call("life", some());
            case 2: case 3: return call("longest");
            case 4: case 5: return call("best", some());
            case 6: return call("set", in(0, 3), in(0, 20));
            case 7: return call("power", some(), in(0, 900));
            case 8: return random.nextInt(4) == 0 ? call("rounds", 2) : call("hears", some(), some(), random.nextInt(2));
            default: return random.nextInt(4) == 0 ? question() : call("sleep", some(), in(1, 12), in(0, 60));
        }
    }

    private boolean bearingStep() {
        switch (random.nextInt(8)) {
            case 0: return random.nextInt(6) != 0 || fact();
            case 1: case 2: return call("hour", some(), in(0, 2), in(0, 1));
            case 3: return call("place", some(), in(0, 36));
            case 4: case 5: return call("cells", some(), in(0, 2));
            case 6: return call("set", 5, in(1, 5));
            default: return random.nextInt(3) == 0 ? fact() : call("hears", some(), some(), random.nextInt(2));
        }
    }

    private boolean fact() {
        int lo = random.nextInt(5) == 0 ? in(-999, 999) : in(-9, 9);
        return call("fact", some(), some(), some(), lo, odd(random.nextInt(20) == 0 ? lo - 1 : Math.min(999, lo + random.nextInt(9))));
    }

    private boolean programStep() {
        switch (random.nextInt(12)) {
            case 0: return random.nextInt(3) == 0 ? call("program", in(1, 8), random.nextLong()) : call("hand");
            case 1: return call("tear", some(), in(0, 7), in(0, 255));
            case 2: case 3: return call("has", some(), in(0, 2));
            case 4: return call("begin", odd(random.nextInt(1 << plain.bs.size())));
            case 5: return call("begin", 1 << random.nextInt(plain.bs.size() + 1) | 1);
            case 6: return random.nextInt(3) == 0 ? call("power", some(), in(0, 90)) : call("count", 5);
            case 7: return call("hears", some(), some(), random.nextInt(2));
            default: return call("hand");
        }
    }

    private boolean courtStep() {
        int days = plain.days;
        switch (random.nextInt(18)) {
            case 0: return random.nextInt(8) == 0 ? call("days", in(1, 5)) : call("count", 6);
            case 1: case 2: return call("way", in(0, 5), in(0, 5), random.nextInt(3) == 0 ? 0 : 1);
            case 3: return call("ear", in(0, 5), in(0, 63));
            case 4: case 5: case 6: return call("log", in(0, 5), in(0, days - 1), in(0, 2));
            case 7: return call("liars", random.nextInt(3) == 0 ? 0 : 1 << random.nextInt(7));
            case 8: return call("courses");
            case 9: case 10: return call("course", random.nextInt(plain.days == 5 ? 300 : 20), in(0, days - 1));
            case 11: return call("quarrel");
            case 12: return call("set", 6, in(0, 3));
            case 13: case 14: return claim("judge");
            case 15: return call("log", in(0, 5), in(0, days - 1), 2);
            default: return claim("settle");
        }
    }

    private boolean claim(String what) {
        int sort = in(0, 1);
        int d = sort == 0 && random.nextInt(10) != 0 ? 0 : random.nextInt(20) == 0 ? in(-2, 8) : in(0, 5);
        int a = in(0, plain.days - 1);
        return call(what, sort, in(0, 5), d, a, in(Math.max(0, Math.min(a, plain.days - 1)), plain.days - 1));
    }

    private boolean call(String name, long... v) {
        long got = answer(real, name, v);
        long due = answer(plain, name, v);
        StringBuilder told = new StringBuilder(name + "(");
        for (int k = 0; k < v.length; k++) told.append(k == 0 ? "" : ", ").append(v[k]);
        calls.add(told + ") answered " + got + (got == due ? "" : ", due is " + due));
        return got == due;
    }

    private static long answer(Object of, String name, long[] v) {
        for (Method m : of.getClass().getDeclaredMethods()) {
            if (!m.getName().equals(name) || m.getParameterCount() != v.length || isHelper(m)) continue;
            Object[] with = new Object[v.length];
            for (int k = 0; k < v.length; k++) {
                Class<?> kind = m.getParameterTypes()[k];
                if (kind == boolean.class) with[k] = v[k] == 1;
                else if (kind == long.class) with[k] = v[k];
                else with[k] = (int) v[k];
            }
            try {
                return ((Number) m.invoke(of, with)).longValue();
            } catch (ReflectiveOperationException e) {
                throw new IllegalStateException(name, e);
            }
        }
        throw new IllegalArgumentException(name);
    }

    // The plain model has helpers by the names of calls, but they answer other kinds.
    private static boolean isHelper(Method m) {
        if (m.getReturnType() != int.class && m.getReturnType() != long.class) return true;
        for (Class<?> kind : m.getParameterTypes()) if (!kind.isPrimitive()) return true;
        return false;
    }
}
