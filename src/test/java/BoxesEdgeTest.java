// Promises 1 to 11: each sentence that names a boundary, at it, one step inside and one step outside.
public final class BoxesEdgeTest {
    private static final Due due = new Due();
    private static final Refusal rich = new Refusal(due, Refusal::rich);
    private static final int NO = Integer.MIN_VALUE;

    public static void main(String[] args) {
        empty();
        emptyRefuses();
        power();
        branch();
        tenBoxes();
        hearers();
        sleepRows();
        sleepBits();
        wrapOfSleep();
        drift();
        offset();
        cutTowardsZero();
        costs();
        holdReachMisses();
        powerSet();
        rootsCount();
        atWhat();
        roundsTold();
        roundsChanged();
        ringsOfRounds();
        countsAboveNine();
        parents();
        rings();
        words();
        lastCall();
        due.end("BoxesEdgeTest");
    }

    private static EarField ten() { return Due.chain(10, 100); }

    private static void empty() {
        due.about("1: No BOXES, TICK 0");
        EarField x = new EarField();
        int[] counts = {0, 0, 0, 0, 0, 0, 4};
        for (int what = 0; what < 7; what++) due.is("count " + what, x.count(what), counts[what]);
        for (int cause = 0; cause < 8; cause++) due.is("lost " + cause, x.lost(cause), 0);
        due.is("kept", x.kept(0), -1);
        due.is("rings", x.rings(), 0);
        due.is("rounds", x.rounds(20), 0);
        due.is("fault", x.fault(), 0);
        due.is("erase", x.erase(), 0);
        due.is("longest", x.longest(), -1);
        due.is("hand", x.hand(), 0);
        due.is("courses", x.courses(), 6);
        due.is("quarrel", x.quarrel(), 0);
        due.is("judge", x.judge(0, 0, 0, 0, 3), 2);
        due.is("settle", x.settle(0, 0, 0, 0, 3), -1);
        due.is("ticks", x.ticks(60), 60);
        due.is("ticks", x.count(2), 60);
        due.is("first box", x.box(0, 0), 0);
        due.is("and second", x.box(0, 0), 1);
    }

    private static void emptyRefuses() {
        due.about("1: without BOXES");
        Refusal none = new Refusal(due, EarField::new);
        none.is("hears", x -> x.hears(0, 1, true), -2);
        none.is("sleep", x -> x.sleep(0, 1, 1), -2);
        none.is("clock", x -> x.clock(0, 0, 0), -2);
        none.is("power", x -> x.power(0, 1), -2);
        none.is("at", x -> x.at(0, 0), -2);
        none.is("say", x -> x.say(0, 1), -2);
        none.is("loud", x -> x.loud(0, 0, 1), -2);
        none.is("lies", x -> x.lies(0, 1), -2);
        none.is("foretold", x -> x.foretold(0, 1), -2);
        none.is("life", x -> x.life(0), -2);
        none.is("best", x -> x.best(0), -2);
        none.is("fact", x -> x.fact(0, 0, 1, 0, 0), -2);
        none.is("hour", x -> x.hour(0, 0, 0), NO);
        none.is("place", x -> x.place(0, 1), -2);
        none.is("cells", x -> x.cells(0, 0), -2);
        none.is("program", x -> x.program(1, 1), -4);
        none.is("tear", x -> x.tear(0, 0, 1), -2);
        none.is("has", x -> x.has(0, 0), -2);
        none.is("begin in none", x -> x.begin(0), -4);
        none.is("begin in box 0", x -> x.begin(1), -3);
        none.is("result", x -> x.result(0), -4);
        none.is("ask", x -> x.ask(), -4);
    }

    private static void power() {
        due.about("2: POWER 0 .. 30000");
        EarField x = new EarField();
        int[] powers = {0, 1, 29999, 30000};
        for (int b = 0; b < 4; b++) due.is("power " + powers[b], x.box(0, powers[b]), b);
        for (int b = 0; b < 4; b++) due.is("it has " + powers[b], x.at(b, 0), powers[b]);
        due.is("with 0 it is DEAD", x.count(1), 3);
        rich.outside("power", 0, 30000, (y, v) -> y.box(0, v), -3);
    }

    private static void branch() {
        due.about("2: LEAF (0) or BRANCH (1)");
        EarField x = new EarField();
        due.is("a leaf", x.box(0, 5), 0);
        due.is("a branch", x.box(1, 5), 1);
        rich.outside("branch", 0, 1, (y, v) -> y.box(v, 5), -3);
        due.about("2: THE ROOT, whatever it is");
        for (int branch = 0; branch < 2; branch++) {
            EarField y = new EarField();
            y.box(branch, 100);
            y.box(1, 100);
            Due.link(y, 0, 1);
            y.rounds(1);
            y.loud(1, 0, 7);
            Due.ask(y, "count every 9");
            y.say(1, 4);
            y.ticks(3);
            due.is("keeps words", y.kept(0), 4);
            due.is("joins sums", y.result(4), 2);
        }
    }

    private static void tenBoxes() {
        due.about("2: numbered from 0, 10 at most");
        EarField x = new EarField();
        for (int b = 0; b < 9; b++) due.is("box", x.box(b & 1, 7), b);
        due.is("nine", x.count(0), 9);
        due.is("no box 9 yet", x.at(9, 0), -2);
        due.is("the tenth", x.box(1, 8), 9);
        due.is("ten", x.count(0), 10);
        due.is("box 9", x.at(9, 0), 8);
        due.is("the eleventh", x.box(1, 8), -5);
        due.is("ten still", x.count(0), 10);
        Refusal full = new Refusal(due, BoxesEdgeTest::ten);
        full.is("FULL", y -> y.box(0, 100), -5);
        full.is("FULL, a dead one", y -> y.box(1, 0), -5);
        full.is("OUTSIDE ahead of FULL", y -> y.box(0, 30001), -3);
        full.is("OUTSIDE ahead of FULL", y -> y.box(-1, 0), -3);
    }

    private static void hearers() {
        due.about("3: UNKNOWN: also one and itself");
        EarField x = ten();
        due.is("first and last", x.hears(0, 9, true), 0);
        due.is("last and first", x.hears(9, 0, true), 0);
        due.is("did", x.hears(0, 9, true), 1);
        due.is("did, and not now", x.hears(0, 9, false), 1);
        due.is("did not", x.hears(0, 9, false), 0);
        due.is("the other way still", x.hears(9, 0, true), 1);
        Refusal full = new Refusal(due, BoxesEdgeTest::ten);
        full.outside("a", 0, 9, (y, v) -> y.hears(v, 5, true), -2);
        full.outside("b", 0, 9, (y, v) -> y.hears(5, v, true), -2);
        full.is("0 and itself", y -> y.hears(0, 0, true), -2);
        full.is("9 and itself", y -> y.hears(9, 9, true), -2);
        full.is("32 bits on", y -> y.hears(0, 33, false), -2);
        rich.outside("a of seven", 0, 6, (y, v) -> y.hears(v, 1, false), -2);
        rich.outside("b of seven", 0, 6, (y, v) -> y.hears(1, v, false), -2);
        rich.is("itself", y -> y.hears(1, 1, false), -2);
    }

    private static void sleepRows() {
        due.about("4: P 1 .. 12 bits");
        EarField x = ten();
        for (int p : new int[] {1, 2, 11, 12}) due.is("p " + p, x.sleep(9, p, 1), 1);
        rich.outside("p", 1, 12, (y, v) -> y.sleep(2, v, 0), -3);
        rich.is("p 13 with bits of it", y -> y.sleep(2, 13, 4096), -3);
        rich.is("p 33", y -> y.sleep(2, 33, 1), -3);
        rich.outside("box", 0, 6, (y, v) -> y.sleep(v, 2, 1), -2);
        rich.is("UNKNOWN ahead of OUTSIDE", y -> y.sleep(7, 0, -1), -2);
        due.about("4: P 1, awake, at first");
        EarField z = ten();
        for (int t = 0; t < 3; t++) {
            due.is("awake in tick " + t, z.at(9, 4), 1);
            z.ticks(1);
        }
    }

    private static void sleepBits() {
        due.about("4: bits (below 2 to the p)");
        EarField x = ten();
        for (int p : new int[] {1, 2, 11, 12}) {
            int end = 1 << p;
            due.is("bits 0", x.sleep(0, p, 0), 1);
            due.is("asleep by 0", x.at(0, 4), 0);
            due.is("bits 1", x.sleep(0, p, 1), 1);
            due.is("awake by 1", x.at(0, 4), 1);
            due.is("one less than most", x.sleep(0, p, end - 2), 1);
            due.is("asleep without bit 0", x.at(0, 4), 0);
            due.is("most", x.sleep(0, p, end - 1), 1);
            due.is("awake by most", x.at(0, 4), 1);
            int limit = p;
            rich.outside("bits of p " + p, 0, end - 1, (y, v) -> y.sleep(2, limit, v), -3);
        }
    }

    private static void wrapOfSleep() {
        due.about("What it is: bit (LOCAL modulo P, 0 at least)");
        EarField x = ten();
        x.sleep(0, 12, 1 << 11);
        x.sleep(1, 12, 1);
        x.sleep(2, 3, 4);
        x.clock(2, 0, -50);
        for (int t = 0; t < 26; t++) {
            due.is("bit 11 in tick " + t, x.at(0, 4), t % 12 == 11 ? 1 : 0);
            due.is("bit 0 in tick " + t, x.at(1, 4), t % 12 == 0 ? 1 : 0);
            due.is("bit 2 of 3 in hour " + (t - 50), x.at(2, 4), (t - 50 + 60) % 3 == 2 ? 1 : 0);
            x.ticks(1);
        }
        // Hour 0 and those beside it, for every bit of a row.
        for (int offset = -13; offset < 14; offset++) {
            EarField y = ten();
            y.clock(0, 0, offset);
            for (int bit = 0; bit < 12; bit++) {
                y.sleep(0, 12, 1 << bit);
                due.is("bit " + bit + " in hour " + offset, y.at(0, 4), (offset + 24) % 12 == bit ? 1 : 0);
            }
        }
        due.about("What it is: AWAKE, if it is not DEAD");
        EarField z = ten();
        z.power(1, 1);
        due.is("with 1", z.at(1, 4), 1);
        z.power(1, 0);
        due.is("with 0", z.at(1, 4), 0);
    }

    private static void drift() {
        due.about("5: DRIFT (-20 .. 20)");
        EarField x = ten();
        x.ticks(50);
        due.is("0 at first", x.at(3, 3), 50);
        int[] drifts = {-20, -19, 0, 19, 20};
        int[] hours = {40, 41, 50, 59, 60};
        for (int i = 0; i < 5; i++) {
            due.is("drift " + drifts[i], x.clock(3, drifts[i], 0), 1);
            due.is("hour by " + drifts[i], x.at(3, 3), hours[i]);
        }
        due.is("another box's clock", x.at(2, 3), 50);
        rich.outside("drift", -20, 20, (y, v) -> y.clock(2, v, 0), -3);
        rich.outside("box", 0, 6, (y, v) -> y.clock(v, 1, 1), -2);
        rich.is("UNKNOWN ahead of OUTSIDE", y -> y.clock(-1, 21, 51), -2);
    }

    private static void offset() {
        due.about("5: OFFSET (-50 .. 50)");
        EarField x = ten();
        for (int offset : new int[] {-50, -49, -1, 0, 1, 49, 50}) {
            due.is("offset " + offset, x.clock(9, 0, offset), 1);
            due.is("hour by " + offset, x.at(9, 3), offset);
        }
        rich.outside("offset", -50, 50, (y, v) -> y.clock(2, 0, v), -3);
    }

    private static void cutTowardsZero() {
        due.about("What it is: DRIFT times t by 100, cut towards 0");
        EarField x = ten();
        int[] drifts = {1, -1, 20, -20, 3, -3};
        for (int i = 0; i < 6; i++) x.clock(i, drifts[i], 0);
        x.clock(6, -20, 5);
        int[][] dueAt = {{4, 4, 4, 4, 4, 4, 4, 9}, {5, 5, 5, 6, 4, 5, 5, 9}, {9, 9, 9, 10, 8, 9, 9, 13},
            {33, 33, 33, 39, 27, 33, 33, 32}, {34, 34, 34, 40, 28, 35, 33, 33}, {99, 99, 99, 118, 80, 101, 97, 85},
            {100, 101, 99, 120, 80, 103, 97, 85}, {101, 102, 100, 121, 81, 104, 98, 86}};
        for (int[] row : dueAt) {
            while (x.count(2) < row[0]) x.ticks(1);
            for (int i = 0; i < 7; i++) due.is("box " + i + " in tick " + row[0], x.at(i, 3), row[i + 1]);
        }
        EarField y = ten();
        y.clock(0, -20, -50);
        y.clock(1, 20, 50);
        for (int i = 0; i < 150; i++) y.ticks(60);
        due.is("least in tick 9000", y.at(0, 3), 9000 - 1800 - 50);
        due.is("most in tick 9000", y.at(1, 3), 9000 + 1800 + 50);
    }

    private static void costs() {
        due.about("6: COSTS 0 .. 20 each; SLEEP 0, AWAKE 1, SAY 5, HEAR 2 at first");
        int[] first = {0, 1, 5, 2};
        for (int what = 0; what < 4; what++) {
            int cost = what;
            EarField x = ten();
            int was = first[what];
            for (int v : new int[] {0, 1, 19, 20}) {
                due.is("cost " + what, x.set(what, v), was);
                was = v;
            }
            rich.outside("cost " + what, 0, 20, (y, v) -> y.set(cost, v), -3);
        }
        for (int v : new int[] {0, 20}) {
            EarField x = Due.chain(4, 1000);
            x.rounds(3);
            x.sleep(3, 1, 0);
            for (int what = 0; what < 4; what++) x.set(what, v);
            x.say(1, 1);
            x.ticks(1);
            due.is("asleep, for " + v, x.at(3, 0), 1000 - v);
            due.is("awake and said, for " + v, x.at(1, 0), 1000 - 2 * v);
            due.is("awake and heard, for " + v, x.at(0, 0), 1000 - 2 * v);
        }
    }

    private static void holdReachMisses() {
        due.about("6: HOLD 0 .. 9, 1 at first; REACH 1 .. 5, 2 at first; MISSES 0 .. 3, 0 at first");
        int[] least = {0, 1, 0};
        int[] most = {9, 5, 3};
        int[] first = {1, 2, 0};
        for (int i = 0; i < 3; i++) {
            int what = 4 + i;
            EarField x = ten();
            int was = first[i];
            for (int v : new int[] {least[i], least[i] + 1, most[i] - 1, most[i]}) {
                due.is("set " + what, x.set(what, v), was);
                was = v;
            }
            rich.outside("set " + what, least[i], most[i], (y, v) -> y.set(what, v), -3);
        }
        rich.outside("what", 0, 6, (y, v) -> y.set(v, 1), -3);
    }

    private static void powerSet() {
        due.about("7: POWER becomes so much (0: it is DEAD)");
        EarField x = ten();
        int was = 100;
        for (int v : new int[] {0, 1, 29999, 30000, 0}) {
            due.is("to " + v, x.power(9, v), was);
            due.is("it is " + v, x.at(9, 0), v);
            due.is("alive", x.count(1), v == 0 ? 9 : 10);
            was = v;
        }
        due.is("the dead may live again", x.power(9, 1), 0);
        rich.outside("v", 0, 30000, (y, v) -> y.power(1, v), -3);
        rich.outside("v of a dead one", 0, 30000, (y, v) -> y.power(6, v), -3);
        rich.outside("box", 0, 6, (y, v) -> y.power(v, 1), -2);
        rich.is("UNKNOWN ahead of OUTSIDE", y -> y.power(7, -1), -2);
    }

    private static void rootsCount() {
        due.about("Terms: THE ROOT has COUNT 0, if it is not DEAD");
        EarField x = ten();
        due.is("0", x.at(0, 1), 0);
        due.is("no PARENT", x.at(0, 2), -1);
        x.power(0, 0);
        due.is("DEAD", x.at(0, 1), -1);
        due.is("nobody finds it", x.rounds(20), 0);
        x.power(0, 1);
        due.is("1 is enough", x.at(0, 1), 0);
        due.is("all find it", x.rounds(20), 9);
        due.is("the root has no PARENT still", x.at(0, 2), -1);
        EarField y = Due.chain(2, 1);
        y.ticks(1);
        due.is("it spent its last", y.at(0, 1), -1);
    }

    private static void atWhat() {
        due.about("8: what 0 .. 5; NONE");
        EarField x = ten();
        int[] dueAt = {100, -1, -1, 0, 1, 0};
        for (int what = 0; what < 6; what++) due.is("of box 9: " + what, x.at(9, what), dueAt[what]);
        rich.outside("what", 0, 5, (y, v) -> y.at(1, v), -3);
        rich.outside("box", 0, 6, (y, v) -> y.at(v, 0), -2);
        rich.is("UNKNOWN ahead of OUTSIDE", y -> y.at(7, 6), -2);
        EarField y = Due.chain(2, 100);
        for (int words = 0; words <= 4; words++) {
            due.is("words", y.at(1, 5), words);
            y.say(1, words);
        }
        due.is("four at most", y.at(1, 5), 4);
    }

    private static void roundsTold() {
        due.about("9: n ROUNDS (1 .. 20)");
        for (int n : new int[] {1, 2, 19, 20}) due.is("n " + n, ten().rounds(n), Math.min(n, 9));
        rich.outside("n", 1, 20, (y, v) -> y.rounds(v), -3);
        Refusal chain = new Refusal(due, BoxesEdgeTest::ten);
        chain.outside("n", 1, 20, (y, v) -> y.rounds(v), -3);
    }

    private static void roundsChanged() {
        due.about("9: in how many something changed");
        EarField x = ten();
        due.is("eight", x.rounds(8), 8);
        due.is("8 is home", x.at(8, 1), 8);
        due.is("9 is not", x.at(9, 1), -1);
        due.is("of two the first", x.rounds(2), 1);
        due.is("of one none", x.rounds(1), 0);
        // A PARENT alone that changes is a change too; so is a COUNT alone.
        EarField y = Due.chain(4, 100);
        Due.link(y, 0, 2);
        Due.link(y, 3, 1);
        y.rounds(3);
        due.is("the least of two", y.at(3, 2), 1);
        y.hears(3, 1, false);
        due.is("the other PARENT", y.rounds(1), 1);
        due.is("the same COUNT", y.at(3, 1), 2);
        EarField z = Due.chain(3, 100);
        z.rounds(2);
        z.hears(0, 1, false);
        z.rounds(2);
        due.is("COUNT of 2", z.at(2, 1), 4);
        due.is("by the same PARENT", z.at(2, 2), 1);
        due.is("changes again", z.rounds(1), 1);
        due.is("as one box did", z.at(1, 1), 5);
        due.is("by its PARENT", z.at(1, 2), 2);
    }

    private static void ringsOfRounds() {
        due.about("Terms: A ROUND, for all BOXES at once by what was ahead of it");
        EarField x = Due.chain(10, 100);
        for (int round = 1; round <= 9; round++) {
            x.rounds(1);
            for (int b = 1; b < 10; b++) {
                due.is("COUNT of " + b + " after " + round, x.at(b, 1), b <= round ? b : -1);
                due.is("PARENT of " + b + " after " + round, x.at(b, 2), b <= round ? b - 1 : -1);
            }
        }
        // The same with the numbers turned round, so that no order of BOXES does it at once.
        EarField y = new EarField();
        for (int b = 0; b < 10; b++) y.box(0, 5);
        Due.link(y, 0, 9);
        for (int b = 9; b > 1; b--) Due.link(y, b, b - 1);
        for (int round = 1; round <= 9; round++) {
            y.rounds(1);
            for (int b = 1; b < 10; b++) due.is("COUNT of " + b, y.at(b, 1), 10 - b <= round ? 10 - b : -1);
        }
    }

    private static void countsAboveNine() {
        due.about("Terms: none, if it would be above 9");
        EarField x = ten();
        x.rounds(9);
        due.is("9 is a COUNT", x.at(9, 1), 9);
        due.is("with a PARENT", x.at(9, 2), 8);
        // 2 and 1 count one another up: 1 2, 3 2, 3 4, 5 4, 5 6, 7 6, 7 8, 9 8, 9 none, none none.
        EarField y = Due.chain(3, 100);
        y.rounds(2);
        y.hears(0, 1, false);
        int[][] counts = {{3, 2}, {3, 4}, {5, 4}, {5, 6}, {7, 6}, {7, 8}, {9, 8}, {9, -1}, {-1, -1}, {-1, -1}};
        for (int round = 0; round < 10; round++) {
            due.is("changed in round " + round, y.rounds(1), round < 9 ? 1 : 0);
            for (int b = 1; b < 3; b++) {
                due.is("COUNT of " + b, y.at(b, 1), counts[round][b - 1]);
                due.is("PARENT of " + b, y.at(b, 2), counts[round][b - 1] < 0 ? -1 : 3 - b);
            }
        }
    }

    private static void parents() {
        due.about("Terms: the least of those of BOXES that are not DEAD, have one, HEAR it and are HEARD by it");
        EarField x = new EarField();
        for (int b = 0; b < 10; b++) x.box(0, 100);
        for (int b = 1; b < 9; b++) Due.link(x, 0, b);
        for (int b = 2; b < 9; b++) Due.link(x, 9, b);
        x.rounds(2);
        for (int b = 2; b < 8; b++) {
            due.is("the least is " + b, x.at(9, 2), b);
            if (b % 3 == 0) x.power(b, 0);
            else if (b % 3 == 1) x.hears(9, b, false);
            else x.hears(b, 9, false);
            due.is("then another one", x.rounds(1), 1);
        }
        due.is("8 is left", x.at(9, 2), 8);
        x.hears(8, 9, false);
        x.rounds(1);
        due.is("none is left: COUNT", x.at(9, 1), -1);
        due.is("none is left: PARENT", x.at(9, 2), -1);
        // One without a COUNT does not do, whatever its number.
        EarField y = new EarField();
        for (int b = 0; b < 4; b++) y.box(0, 100);
        Due.link(y, 1, 3);
        Due.link(y, 2, 3);
        Due.link(y, 0, 2);
        y.rounds(2);
        due.is("2 has a COUNT, 1 has none", y.at(3, 2), 2);
        y.rounds(1);
        due.is("1 has one by 3", y.at(1, 1), 3);
        due.is("3 has 2 still, as 1 is farther", y.at(3, 2), 2);
        // The DEAD keep what they have.
        y.power(2, 0);
        y.power(3, 0);
        due.is("1 alone changes", y.rounds(1), 1);
        due.is("1 has none", y.at(1, 1), -1);
        due.is("3 keeps its COUNT", y.at(3, 1), 2);
        due.is("3 keeps its PARENT", y.at(3, 2), 2);
    }

    private static void rings() {
        due.about("10: how many rings PARENTS make");
        for (int pairs = 0; pairs <= 4; pairs++) {
            EarField x = new EarField();
            for (int b = 0; b < 10; b++) x.box(0, 100);
            for (int b = 1; b < 9; b += 2) {
                Due.link(x, 0, b);
                Due.link(x, b, b + 1);
            }
            Due.link(x, 2, 9);
            x.rounds(3);
            due.is("trees only", x.rings(), 0);
            for (int k = 0; k < pairs; k++) x.hears(0, 2 * k + 1, false);
            x.rounds(1);
            due.is("pairs cut off", x.rings(), pairs);
            due.is("telling changes nothing", x.rings(), pairs);
            x.rounds(20);
            due.is("they count themselves out", x.rings(), 0);
        }
        // Those whose way leads to a ring are not in it, whatever their numbers.
        for (int tail = 1; tail <= 9; tail++) {
            EarField x = new EarField();
            for (int b = 0; b < 10; b++) x.box(0, 100);
            int one = tail == 4 ? 6 : 4;
            int other = tail == 5 ? 6 : 5;
            Due.link(x, 0, one);
            Due.link(x, one, other);
            Due.link(x, other, tail);
            x.rounds(3);
            due.is("its way", x.at(tail, 2), other);
            x.hears(0, one, false);
            x.power(tail, 0);
            x.rounds(1);
            due.is("one ring, and " + tail + " leads to it", x.rings(), 1);
            due.is("its way still", x.at(tail, 2), other);
        }
    }

    private static void words() {
        due.about("11: a value 0 .. 999");
        for (int value : new int[] {0, 1, 998, 999}) {
            EarField x = Due.chain(2, 100);
            x.rounds(1);
            due.is("value " + value, x.say(1, value), 1);
            x.ticks(1);
            due.is("kept", x.kept(0), value);
        }
        rich.outside("value", 0, 999, (y, v) -> y.say(1, v), -3);
        rich.outside("box", 0, 6, (y, v) -> y.say(v, 5), -2);
        rich.is("UNKNOWN ahead of OUTSIDE", y -> y.say(7, 1000), -2);
        due.about("11: NOT: it is THE ROOT, or DEAD");
        rich.is("THE ROOT", y -> y.say(0, 5), -4);
        rich.is("DEAD", y -> y.say(6, 5), -4);
        rich.is("OUTSIDE ahead of NOT: THE ROOT", y -> y.say(0, 1000), -3);
        rich.is("OUTSIDE ahead of NOT: DEAD", y -> y.say(6, -1), -3);
        EarField z = Due.chain(2, 1);
        due.is("with 1 it lives", z.say(1, 5), 1);
        z.power(1, 0);
        due.is("with 0 it does not", z.say(1, 5), -4);
        due.about("11: ROW OF WORDS (4 at most)");
        Refusal full = new Refusal(due, BoxesEdgeTest::fullRow);
        full.is("FULL", y -> y.say(1, 5), -5);
        full.is("OUTSIDE ahead of FULL", y -> y.say(1, 1000), -3);
        EarField w = fullRow();
        due.is("another box's ROW", w.say(2, 5), 1);
        w.power(1, 0);
        due.is("NOT ahead of FULL", w.say(1, 5), -4);
        w.power(1, 100);
        w.rounds(1);
        w.ticks(1);
        due.is("one was said", w.at(1, 5), 3);
        due.is("room for one", w.say(1, 5), 4);
        due.is("not for two", w.say(1, 6), -5);
        w.ticks(4);
        int[] dueKept = {5, 4, 3, 2, 1};
        for (int i = 0; i < 5; i++) due.is("the refused are not in it", w.kept(i), dueKept[i]);
    }

    private static EarField fullRow() {
        EarField x = Due.chain(3, 100);
        for (int i = 1; i <= 4; i++) due.is("word " + i, x.say(1, i), i);
        return x;
    }

    private static void lastCall() {
        due.about("What it is: 512 calls");
        EarField x = new EarField();
        x.box(0, 30000);
        for (int call = 2; call < 512; call++) x.power(0, call);
        due.is("the 512th call", x.power(0, 1), 511);
    }
}
