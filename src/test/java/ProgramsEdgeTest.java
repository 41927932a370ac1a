// Promises 30 to 34: each sentence that names a boundary, at it, one step inside and one step outside.
public final class ProgramsEdgeTest {
    private static final Due due = new Due();
    private static final Refusal rich = new Refusal(due, Refusal::rich);

    public static void main(String[] args) {
        partsTold();
        values();
        noneButRoot();
        programNumbers();
        marks();
        handedTo();
        handedBy();
        byWhatWasAhead();
        leastPart();
        leastGiver();
        spent();
        tornPart();
        tornRefused();
        hasWhat();
        sound();
        begun();
        allOrNone();
        areas();
        due.end("ProgramsEdgeTest");
    }

    // Each hears THE ROOT, and nobody else.
    private static EarField star(int boxes, int power) {
        EarField x = new EarField();
        for (int b = 0; b < boxes; b++) x.box(0, power);
        for (int b = 1; b < boxes; b++) x.hears(b, 0, true);
        return x;
    }

    private static void partsTold() {
        due.about("30: A PROGRAM has n PARTS (1 .. 8)");
        for (int n : new int[] {1, 2, 7, 8}) {
            EarField x = star(2, 1000);
            due.is("n " + n, x.program(n, 0x0807060504030201L), 1);
            due.is("THE ROOT has all", x.has(0, 0), (1 << n) - 1);
            for (int part = 0; part < n; part++) {
                due.is("one handed", x.hand(), 1);
                due.is("value " + part, x.tear(1, part, part + 1), part + 1);
            }
            due.is("no more", x.hand(), 0);
            due.is("no PART " + n, x.tear(1, n, 0), -2);
            due.is("SOUND", x.has(1, 1), 1);
        }
        rich.outside("n", 1, 8, (y, v) -> y.program(v, 5), -3);
        due.about("30: NOT: there is no BOX");
        Refusal none = new Refusal(due, EarField::new);
        none.is("n 1", y -> y.program(1, 5), -4);
        none.is("n 8", y -> y.program(8, -1L), -4);
        none.outside("OUTSIDE ahead of NOT", 1, 8, (y, v) -> y.program(v, 5), -3);
        EarField z = star(1, 0);
        due.is("one that is DEAD will do", z.program(1, 5), 1);
    }

    private static void values() {
        due.about("30: each 0 .. 255, PART i values >> 8 i & 255");
        long[] told = {0L, -1L, 0x00ff00ff00ff00ffL, 0xff00ff00ff00ff00L, 0x8000000000000001L, 0x0102030405060708L, 1L << 63, 0x7fL, 0x80L};
        for (long bytes : told) {
            EarField x = star(2, 1000);
            x.program(8, bytes);
            for (int part = 0; part < 8; part++) {
                x.hand();
                int value = (int) (bytes >>> 8 * part) & 255;
                due.is("PART " + part + " of " + bytes, x.tear(1, part, value), value);
            }
            due.is("SOUND", x.has(1, 1), 1);
        }
        // What stands behind the last PART is none of it.
        EarField y = star(2, 1000);
        y.program(2, 0x0fff0102L);
        y.hand();
        y.hand();
        due.is("two PARTS", y.has(1, 0), 3);
        due.is("SOUND", y.has(1, 1), 1);
        y.tear(1, 0, 1);
        y.tear(1, 1, 2);
        due.is("the sum is 3", y.has(1, 1), 1);
    }

    private static void noneButRoot() {
        due.about("30: none but THE ROOT has any");
        EarField x = star(10, 1000);
        x.program(2, 0x0102L);
        x.hand();
        x.hand();
        for (int b = 0; b < 10; b++) due.is("has all " + b, x.has(b, 0), 3);
        due.is("with fewer PARTS", x.program(1, 9), 2);
        for (int b = 0; b < 10; b++) due.is("has " + b, x.has(b, 0), b == 0 ? 1 : 0);
        due.is("with more PARTS", x.program(8, 9), 3);
        for (int b = 0; b < 10; b++) due.is("has " + b, x.has(b, 0), b == 0 ? 255 : 0);
        // A BOX that comes later has none.
        EarField y = star(2, 1000);
        y.program(1, 5);
        y.box(1, 1000);
        due.is("a new one", y.has(2, 0), 0);
        y.hears(2, 0, true);
        due.is("is handed it too", y.hand(), 2);
    }

    private static void programNumbers() {
        due.about("Terms: PROGRAMS are numbered from 1");
        EarField x = star(1, 10);
        for (int number = 1; number <= 300; number++) due.is("its number", x.program(1, 5), number);
        due.is("so many", x.count(5), 300);
        due.is("begun", x.begin(1), 1);
        due.is("RUNS", x.has(0, 2), 300);
    }

    private static void marks() {
        due.about("Terms: MARK is their sum modulo 251");
        // One PART of v; torn to w it is SOUND just when both are alike modulo 251.
        for (int v : new int[] {0, 1, 4, 5, 250, 251, 252, 255}) {
            EarField x = star(2, 1000);
            x.program(1, v);
            x.hand();
            for (int w : new int[] {0, 1, 4, 5, 249, 250, 251, 252, 255}) {
                x.tear(1, 0, w);
                due.is(v + " torn to " + w, x.has(1, 1), v % 251 == w % 251 ? 1 : 0);
            }
        }
        // 8 times 255 is 2040, 8 times 251 and 32.
        EarField y = star(2, 1000);
        y.program(8, -1L);
        for (int i = 0; i < 8; i++) y.hand();
        due.is("2040", y.has(1, 1), 1);
        for (int part = 0; part < 8; part++) y.tear(1, part, 4);
        due.is("32", y.has(1, 1), 1);
        y.tear(1, 7, 3);
        due.is("31", y.has(1, 1), 0);
        y.tear(1, 0, 5);
        due.is("32 again", y.has(1, 1), 1);
        y.tear(1, 0, 255);
        due.is("282", y.has(1, 1), 0);
        y.tear(1, 0, 254);
        y.tear(1, 1, 6);
        due.is("283 is 32", y.has(1, 1), 1);
    }

    private static void handedTo() {
        due.about("Terms: HANDED: each BOX but THE ROOT that is not DEAD");
        for (int power = 0; power <= 1; power++) {
            EarField x = star(3, 100);
            x.program(1, 5);
            x.power(1, power);
            due.is("box 1 has " + power, x.hand(), 1 + power);
            due.is("so it has it", x.has(1, 0), power);
            due.is("2 has it", x.has(2, 0), 1);
        }
        // THE ROOT is handed nothing, though it hears: it has all.
        EarField y = star(2, 100);
        y.hears(0, 1, true);
        y.program(2, 5);
        due.is("1", y.hand(), 1);
        due.is("1", y.hand(), 1);
        due.is("all", y.hand(), 0);
        due.is("spent nothing more", y.at(0, 0), 90);
        EarField z = star(10, 100);
        z.program(1, 5);
        due.is("all nine", z.hand(), 9);
        due.is("no PROGRAM", star(10, 100).hand(), 0);
        due.is("no BOX", new EarField().hand(), 0);
    }

    private static void handedBy() {
        due.about("Terms: that some BOX, not DEAD, that it HEARS has");
        for (int power = 0; power <= 1; power++) {
            EarField x = star(2, 100);
            x.program(1, 5);
            x.power(0, power);
            due.is("THE ROOT has " + power, x.hand(), power);
        }
        EarField y = star(3, 100);
        y.hears(1, 0, false);
        y.hears(0, 1, true);
        y.program(1, 5);
        due.is("being heard is nothing", y.hand(), 1);
        due.is("1 has none", y.has(1, 0), 0);
        y.hears(1, 2, true);
        y.power(2, 0);
        due.is("a DEAD one hands nothing", y.hand(), 0);
        y.power(2, 1);
        due.is("one that lives does", y.hand(), 1);
        due.is("asleep or not", y.has(1, 0), 1);
    }

    private static void byWhatWasAhead() {
        due.about("Terms: by what was ahead");
        EarField x = Due.chain(10, 1000);
        x.program(3, 0x010203L);
        for (int time = 1; time <= 12; time++) {
            int handed = 0;
            for (int b = 1; b < 10; b++) if (time >= b && time < b + 3) handed++;
            due.is("time " + time, x.hand(), handed);
            for (int b = 1; b < 10; b++) {
                int parts = Math.max(0, Math.min(3, time - b + 1));
                due.is("box " + b, x.has(b, 0), (1 << parts) - 1);
            }
        }
        // One that spends its last gives and gets by what was ahead.
        EarField y = star(3, 5);
        y.hears(2, 0, false);
        y.hears(2, 1, true);
        y.program(2, 0x0102L);
        due.is("0 to 1", y.hand(), 1);
        due.is("THE ROOT is DEAD", y.at(0, 0), 0);
        due.is("1 to 2", y.hand(), 1);
        due.is("1 spent its 3", y.at(1, 0), 0);
        due.is("none", y.hand(), 0);
        EarField z = star(3, 1000);
        z.hears(2, 0, false);
        z.hears(2, 1, true);
        z.program(2, 0x0102L);
        z.hand();
        z.power(1, 2);
        due.is("1 gets one and gives one", z.hand(), 2);
        due.is("though it spent its last for the first", z.has(2, 0), 1);
        due.is("has both", z.has(1, 0), 3);
    }

    private static void leastPart() {
        due.about("Terms: the least PART that it has not");
        EarField y = star(4, 1000);
        y.program(3, 0x010203L);
        y.hears(3, 0, false);
        y.hears(3, 1, true);
        y.hears(3, 2, true);
        y.hears(2, 0, false);
        y.hand();
        y.hand();
        due.is("3 has 0", y.has(3, 0), 1);
        y.hand();
        due.is("3 has 0 and 1", y.has(3, 0), 3);
        y.hears(3, 1, false);
        due.is("of one that has none", y.hand(), 0);
        y.hears(3, 0, true);
        due.is("the last", y.hand(), 1);
        due.is("3 has all", y.has(3, 0), 7);
        // The least that anybody has, not the least of the first giver.
        EarField z = star(3, 1000);
        z.program(2, 0x0102L);
        z.hand();
        z.hears(2, 1, true);
        z.hears(1, 0, false);
        due.is("2 gets PART 1 of THE ROOT", z.hand(), 1);
        due.is("2 has both", z.has(2, 0), 3);
        due.is("1 has one", z.has(1, 0), 1);
        due.is("THE ROOT said three", z.at(0, 0), 985);
    }

    private static void leastGiver() {
        due.about("Terms: it gets it as the least of these has it");
        for (int least = 1; least <= 8; least++) {
            EarField x = star(10, 1000);
            x.hears(9, 0, false);
            x.program(1, 5);
            x.hand();
            for (int b = 1; b < 9; b++) x.tear(b, 0, 100 + b);
            for (int b = least; b < 9; b++) x.hears(9, b, true);
            due.is("handed", x.hand(), 1);
            due.is("as " + least + " has it", x.tear(9, 0, 0), 100 + least);
            due.is("who spent SAY", x.at(least, 0), 998 - 5);
            if (least < 8) due.is("the next did not", x.at(least + 1, 0), 998);
            due.is("9 spent HEAR", x.at(9, 0), 998);
        }
    }

    private static void spent() {
        due.about("Terms: and spends HEAR, that one SAY");
        int[][] costs = {{0, 0}, {1, 1}, {5, 2}, {20, 20}};
        for (int[] c : costs) {
            EarField x = star(3, 1000);
            x.set(2, c[0]);
            x.set(3, c[1]);
            x.program(1, 5);
            x.hand();
            due.is("THE ROOT said two", x.at(0, 0), 1000 - 2 * c[0]);
            due.is("1 heard one", x.at(1, 0), 1000 - c[1]);
        }
        for (int power = 1; power <= 4; power++) {
            EarField x = star(2, 100);
            x.power(1, power);
            x.program(1, 5);
            x.hand();
            due.is("HEAR 2 of " + power, x.at(1, 0), Math.max(0, power - 2));
            due.is("got all the same", x.has(1, 0), 1);
        }
        for (int power = 4; power <= 11; power++) {
            EarField x = star(3, 100);
            x.power(0, power);
            x.program(1, 5);
            due.is("both", x.hand(), 2);
            due.is("twice SAY 5 of " + power, x.at(0, 0), Math.max(0, power - 10));
        }
    }

    private static EarField handedOne() {
        EarField x = star(3, 1000);
        x.program(3, 0xff0001L);
        x.power(2, 0);
        for (int i = 0; i < 3; i++) x.hand();
        x.power(2, 1000);
        x.hand();
        return x;
    }

    private static void tornPart() {
        due.about("32: v there (0 .. 255): what it was");
        EarField x = handedOne();
        int[] first = {1, 0, 255};
        for (int part = 0; part < 3; part++) {
            int was = first[part];
            for (int v : new int[] {0, 1, 254, 255}) {
                due.is("PART " + part + " to " + v, x.tear(1, part, v), was);
                was = v;
            }
        }
        due.is("it has all still", x.has(1, 0), 7);
        due.is("another one's PART", x.tear(2, 0, 9), 1);
        due.is("THE ROOT's own is whole", x.has(0, 1), 1);
        x.program(3, 0x010203L);
        x.hand();
        due.is("handed anew", x.tear(1, 0, 9), 3);
    }

    private static void tornRefused() {
        due.about("32: UNKNOWN; OUTSIDE; NOT: it has it not");
        Refusal one = new Refusal(due, ProgramsEdgeTest::handedOne);
        one.outside("box", 1, 2, (y, v) -> y.tear(v, 0, 9), -2);
        one.outside("part", 0, 2, (y, v) -> y.tear(1, v, 9), -2);
        one.outside("v", 0, 255, (y, v) -> y.tear(1, 0, v), -3);
        one.is("THE ROOT", y -> y.tear(0, 0, 9), -2);
        one.is("it has PART 1 not", y -> y.tear(2, 1, 9), -4);
        one.is("it has PART 2 not", y -> y.tear(2, 2, 255), -4);
        one.outside("OUTSIDE ahead of NOT", 0, 255, (y, v) -> y.tear(2, 2, v), -3);
        one.is("UNKNOWN ahead of OUTSIDE: part", y -> y.tear(2, 3, 256), -2);
        one.is("UNKNOWN ahead of OUTSIDE: THE ROOT", y -> y.tear(0, 0, 256), -2);
        Refusal none = new Refusal(due, () -> star(3, 100));
        none.is("no PROGRAM, no PART", y -> y.tear(1, 0, 9), -2);
        for (int n = 1; n <= 8; n++) {
            int parts = n;
            Refusal all = new Refusal(due, () -> handedAll(parts));
            all.is("PART " + n + " of " + n, y -> y.tear(1, parts, 9), -2);
            due.is("PART " + (n - 1), handedAll(n).tear(1, n - 1, 9), 0);
        }
    }

    private static EarField handedAll(int n) {
        EarField x = star(2, 1000);
        x.program(n, 0);
        for (int i = 0; i < n; i++) x.hand();
        return x;
    }

    private static void hasWhat() {
        due.about("33: what 0 .. 2; UNKNOWN; OUTSIDE");
        EarField x = star(10, 1000);
        for (int what = 0; what < 3; what++) due.is("no PROGRAM: " + what, x.has(9, what), 0);
        rich.outside("what", 0, 2, (y, v) -> y.has(1, v), -3);
        rich.outside("box", 0, 6, (y, v) -> y.has(v, 0), -2);
        rich.is("UNKNOWN ahead of OUTSIDE", y -> y.has(7, 3), -2);
    }

    private static void sound() {
        due.about("Terms: SOUND is a BOX that has all, with the sum modulo 251 MARK");
        for (int n = 1; n <= 8; n++) {
            EarField x = star(2, 1000);
            x.program(n, 0);
            due.is("THE ROOT", x.has(0, 1), 1);
            for (int part = 0; part < n; part++) {
                due.is("with " + part + " of " + n + ", though the sum is the same", x.has(1, 1), 0);
                x.hand();
            }
            due.is("with all " + n, x.has(1, 1), 1);
            x.power(1, 0);
            due.is("a DEAD one too", x.has(1, 1), 1);
        }
    }

    private static void begun() {
        due.about("34: BEGUN in an AREA: in how many BOXES; 0: none");
        for (int boxes = 1; boxes <= 10; boxes++) {
            EarField x = star(boxes, 1000);
            x.program(1, 5);
            x.hand();
            due.is("none in it", x.begin(0), 0);
            due.is("the last alone", x.begin(1 << boxes - 1), 1);
            due.is("it RUNS it", x.has(boxes - 1, 2), 1);
            due.is("all", x.begin((1 << boxes) - 1), boxes);
            x.program(1, 6);
            due.is("THE ROOT alone", x.begin(1), 1);
            for (int b = 0; b < boxes; b++) due.is("RUNS", x.has(b, 2), b == 0 ? 2 : 1);
        }
    }

    private static void allOrNone() {
        due.about("Terms: if all BOXES in it that are not DEAD are SOUND, each of them RUNS; else none does");
        for (int lacking = 0; lacking < 4; lacking++) {
            EarField x = star(4, 1000);
            x.program(1, 5);
            if (lacking > 0) x.hears(lacking, 0, false);
            x.hand();
            due.is("lacking " + lacking, x.begin(15), lacking == 0 ? 4 : 0);
            for (int b = 0; b < 4; b++) due.is("RUNS " + b, x.has(b, 2), lacking == 0 ? 1 : 0);
            if (lacking == 0) continue;
            due.is("without it", x.begin(15 & ~(1 << lacking)), 3);
            due.is("it RUNS none", x.has(lacking, 2), 0);
            x.power(lacking, 0);
            due.is("DEAD it does not matter", x.begin(15), 3);
            due.is("nor does it RUN", x.has(lacking, 2), 0);
            x.power(lacking, 1);
            due.is("with 1 it does", x.begin(15), 0);
        }
        // A DEAD one that is SOUND does not RUN.
        EarField y = star(2, 1000);
        y.program(1, 5);
        y.hand();
        y.power(1, 0);
        due.is("THE ROOT", y.begin(3), 1);
        due.is("not 1", y.has(1, 2), 0);
        due.is("1 alone", y.begin(2), 0);
        y.power(0, 0);
        due.is("nobody", y.begin(3), 0);
        // Torn, and then mended.
        EarField z = star(2, 1000);
        z.program(1, 5);
        z.hand();
        z.tear(1, 0, 6);
        due.is("torn", z.begin(3), 0);
        z.tear(1, 0, 5);
        due.is("mended", z.begin(3), 2);
    }

    private static void areas() {
        due.about("34: OUTSIDE: bits of no BOXES; NOT: there is no PROGRAM");
        for (int n : new int[] {1, 2, 9, 10}) {
            int boxes = n;
            Refusal some = new Refusal(due, () -> {
                EarField x = star(boxes, 1000);
                x.program(1, 5);
                x.hand();
                return x;
            });
            some.outside("of " + n, 0, (1 << n) - 1, (y, v) -> y.begin(v), -3);
            some.is("one bit too far of " + n, y -> y.begin(1 | 1 << boxes), -3);
            Refusal none = new Refusal(due, () -> star(boxes, 1000));
            none.is("no PROGRAM, least", y -> y.begin(0), -4);
            none.is("no PROGRAM, most", y -> y.begin((1 << boxes) - 1), -4);
            none.outside("OUTSIDE ahead of NOT", 0, (1 << n) - 1, (y, v) -> y.begin(v), -3);
        }
    }
}
