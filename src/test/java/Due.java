// Holds answers against those that are due, and ends the test with exit code 1 if one was wrong.
final class Due {
    private int wrong;
    private int asked;
    private String about = "";

    void about(String promise) { about = promise; }

    void is(String call, long got, long due) {
        asked++;
        if (got == due) return;
        wrong++;
        System.out.println(about + ": " + call + " answered " + got + ", due is " + due);
    }

    void end(String name) {
        System.out.println(name + ": " + asked + " answers, " + wrong + " not as due");
        if (wrong != 0) System.exit(1);
    }

    static void write(EarField x, String text) {
        for (int i = 0; i < text.length(); i += 8) {
            int n = Math.min(8, text.length() - i);
            long bytes = 0;
            for (int k = 0; k < n; k++) bytes |= (long) text.charAt(i + k) << 8 * k;
            x.write(bytes, n);
        }
    }

    static int ask(EarField x, String text) {
        x.erase();
        write(x, text);
        return x.ask();
    }

    // Both hear one another.
    static void link(EarField x, int a, int b) {
        x.hears(a, b, true);
        x.hears(b, a, true);
    }

    // So many branches with so much power, each with the next one in hearing.
    static EarField chain(int boxes, int power) {
        EarField x = new EarField();
        for (int i = 0; i < boxes; i++) x.box(1, power);
        for (int i = 1; i < boxes; i++) link(x, i - 1, i);
        return x;
    }
}
