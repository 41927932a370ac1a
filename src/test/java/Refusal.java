import java.util.ArrayList;
import java.util.List;
import java.util.function.BiConsumer;
import java.util.function.Supplier;
import java.util.function.ToLongFunction;

// "Refused, and nothing changes": the refused call is made on one of two objects that are alike,
// and then both must answer alike, whatever they are asked.
final class Refusal {
    // An object is used for 512 calls at most: so each way of asking gets objects of its own.
    private static final List<BiConsumer<EarField, List<Long>>> WAYS = List.of(
        Refusal::tell, Refusal::emptyEars, Refusal::emptyRest, Refusal::passTicks, Refusal::goOn);

    private final Due due;
    private final Supplier<EarField> made;

    Refusal(Due due, Supplier<EarField> made) {
        this.due = due;
        this.made = made;
    }

    void is(String name, ToLongFunction<EarField> call, long answer) {
        for (int way = 0; way < WAYS.size(); way++) {
            EarField asked = made.get();
            due.is(name, call.applyAsLong(asked), answer);
            List<Long> after = new ArrayList<>();
            List<Long> without = new ArrayList<>();
            WAYS.get(way).accept(asked, after);
            WAYS.get(way).accept(made.get(), without);
            due.is(name + " left all as it was, asked way " + way + " from place", firstUnlike(after, without), -1);
        }
    }

    // A number that may be from least to most: one step outside, and as far outside as can be.
    void outside(String name, int least, int most, WithNumber call, long answer) {
        for (int v : new int[] {least - 1, most + 1, Integer.MIN_VALUE, Integer.MAX_VALUE}) {
            is(name + " " + v, x -> call.on(x, v), answer);
        }
    }

    interface WithNumber {
        long on(EarField x, int v);
    }

    private static int firstUnlike(List<Long> a, List<Long> b) {
        for (int i = 0; i < Math.max(a.size(), b.size()); i++) {
            if (i >= a.size() || i >= b.size() || !a.get(i).equals(b.get(i))) return i;
        }
        return -1;
    }

    private static void add(List<Long> to, long answer) { to.add(answer); }

    // All that only tells something.
    private static void tell(EarField x, List<Long> to) {
        int boxes = x.count(0);
        for (int i = 0; i < 7; i++) add(to, x.count(i));
        for (int i = 0; i < 8; i++) add(to, x.lost(i));
        for (int i = 0; i < 7; i++) add(to, x.result(i));
        for (int i = 0; i < 13; i++) add(to, x.kept(i));
        add(to, x.rings());
        add(to, x.fault());
        add(to, x.longest());
        add(to, x.courses());
        for (int t = 0; t < 5; t++) add(to, x.course(3, t));
        add(to, x.quarrel());
        for (int spot = 0; spot < 6; spot++) add(to, x.judge(0, spot, 0, 0, 0));
        add(to, x.settle(0, 1, 0, 0, 0));
        for (int b = 0; b < boxes; b++) {
            for (int what = 0; what < 6; what++) add(to, x.at(b, what));
            for (int what = 0; what < 3; what++) add(to, x.has(b, what));
            for (int m = 0; m < 3; m++) add(to, x.hour(b, m, m & 1));
            for (int m = 0; m < 3; m++) add(to, x.cells(b, m));
            add(to, x.life(b));
            add(to, x.foretold(b, 30));
            add(to, x.best(b));
        }
    }

    // What one tells of as it is taken away: who hears whom, and what is known of hours.
    private static void emptyEars(EarField x, List<Long> to) {
        int boxes = x.count(0);
        for (int a = 0; a < boxes; a++) {
            for (int b = 0; b < boxes; b++) add(to, x.hears(a, b, false));
            for (int h = 0; h < 24; h++) add(to, x.loud(a, h, 16));
        }
    }

    private static void emptyRest(EarField x, List<Long> to) {
        int boxes = x.count(0);
        for (int what = 0; what < 7; what++) add(to, x.set(what, 1));
        for (int b = 0; b < boxes; b++) {
            add(to, x.lies(b, 16));
            add(to, x.place(b, 36));
            for (int part = 0; part < 8; part++) add(to, x.tear(b, part, 0));
            add(to, x.say(b, 1));
            add(to, x.power(b, 0));
        }
        for (int ear = 0; ear < 6; ear++) {
            for (int t = 0; t < 5; t++) add(to, x.log(ear, t, 2));
            add(to, x.ear(ear, 0));
            for (int spot = 0; spot < ear; spot++) add(to, x.way(ear, spot, false));
        }
        add(to, x.liars(0));
        add(to, x.days(4));
        add(to, x.fact(0, 0, 1, 0, 0));
        add(to, x.erase());
    }

    // Sleep rows and clocks come to light as ticks pass, and so do words in rows.
    private static void passTicks(EarField x, List<Long> to) {
        int boxes = x.count(0);
        for (int i = 0; i < 12; i++) {
            add(to, x.ticks(1));
            for (int b = 0; b < boxes; b++) {
                add(to, x.at(b, 4));
                add(to, x.at(b, 0));
            }
            add(to, x.result(3));
            add(to, x.kept(0));
        }
        for (int i = 0; i < 8; i++) add(to, x.lost(i));
        for (int i = 0; i < 12; i++) add(to, x.kept(i));
        for (int b = 0; b < boxes; b++) add(to, x.at(b, 3));
    }

    private static void goOn(EarField x, List<Long> to) {
        int boxes = x.count(0);
        add(to, x.write(0x20352020L, 4));
        add(to, x.fault());
        add(to, x.ask());
        add(to, x.begin((1 << boxes) - 1));
        add(to, x.begin(1));
        for (int i = 0; i < 4; i++) {
            add(to, x.hand());
            add(to, x.rounds(1));
            for (int b = 0; b < boxes; b++) {
                add(to, x.has(b, 0));
                add(to, x.has(b, 2));
                add(to, x.at(b, 1));
                add(to, x.at(b, 2));
            }
        }
        add(to, x.ticks(60));
        for (int i = 0; i < 7; i++) add(to, x.result(i));
        for (int b = 0; b < boxes; b++) add(to, x.at(b, 0));
        add(to, x.program(1, 5));
        add(to, x.box(1, 5));
    }

    // Something of all that an object may hold, in some 120 calls: seven boxes, one of them dead.
    static EarField rich() {
        EarField x = new EarField();
        int[] powers = {9000, 8000, 7000, 600, 500, 400, 0};
        for (int b = 0; b < 7; b++) x.box(b % 2, powers[b]);
        int[][] links = {{0, 1}, {1, 2}, {0, 3}, {3, 4}, {4, 5}, {5, 6}};
        for (int[] link : links) Due.link(x, link[0], link[1]);
        x.hears(5, 0, true);
        x.sleep(2, 3, 5);
        x.clock(2, 7, -9);
        x.sleep(4, 12, 1023);
        x.clock(5, -20, 50);
        int[] settings = {1, 2, 4, 3, 2, 3, 1};
        for (int what = 0; what < 7; what++) x.set(what, settings[what]);
        x.rounds(4);
        for (int b = 0; b < 6; b++) for (int h = 0; h < 9; h += 4) x.loud(b, h, 3 + 2 * b);
        x.lies(3, 11);
        Due.ask(x, "mean loud where loud above 1 every 4");
        x.say(1, 700);
        x.say(3, 800);
        x.ticks(6);
        x.say(5, 77);
        x.say(5, 78);
        x.say(2, 79);
        Due.write(x, "count every");
        x.fact(1, 0, 1, 2, 5);
        x.fact(2, 0, 1, 6, 9);
        x.fact(3, 1, 4, -9, 9);
        for (int b = 0; b < 4; b++) x.place(b, 8 * b);
        x.program(3, 0xfa0102L);
        x.hand();
        x.hand();
        x.tear(1, 0, 9);
        x.begin(1);
        court(x);
        return x;
    }

    private static void court(EarField x) {
        x.days(3);
        for (int spot = 0; spot < 4; spot++) x.way(spot, spot + 1, true);
        int[] spots = {3, 6, 12, 24, 32};
        for (int ear = 0; ear < 5; ear++) x.ear(ear, spots[ear]);
        x.log(0, 0, 1);
        x.log(1, 1, 0);
        x.log(2, 2, 1);
        x.log(3, 0, 1);
        x.liars(8);
    }
}
