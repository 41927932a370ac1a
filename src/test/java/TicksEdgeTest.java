// Promises 12 to 14 and the steps of a TICK: each sentence that names a boundary, at it and on both sides of it.
public final class TicksEdgeTest {
    private static final Due due = new Due();
    private static final Refusal rich = new Refusal(due, Refusal::rich);

    public static void main(String[] args) {
        ticksTold();
        beyond9000();
        spentAtMost();
        deadByStepOne();
        deadLater();
        epochEvery();
        epochAwake();
        hourOfDay();
        loudKnown();
        liar();
        held();
        deepestOfAny();
        roomInRow();
        notInRow();
        saysTheFirst();
        hearsOneAlone();
        toldToAnother();
        causeDead();
        causeNotHeard();
        causeAsleep();
        causeMet();
        fullRow();
        gotByBranch();
        gotByLeaf();
        lateSums();
        lostWhat();
        keptWords();
        due.end("TicksEdgeTest");
    }

    // Three boxes in a row, their PARENTS found: so they talk home.
    private static EarField three(int branch, int power) {
        EarField x = new EarField();
        for (int b = 0; b < 3; b++) x.box(branch, power);
        Due.link(x, 0, 1);
        Due.link(x, 1, 2);
        x.rounds(2);
        return x;
    }

    // So many children of THE ROOT, that do not hear one another.
    private static EarField star(int children, int power) {
        EarField x = new EarField();
        for (int b = 0; b <= children; b++) x.box(1, power);
        for (int b = 1; b <= children; b++) Due.link(x, 0, b);
        x.rounds(1);
        return x;
    }

    private static void isLost(EarField x, int... causes) {
        for (int cause = 0; cause < causes.length; cause++) due.is("lost " + cause, x.lost(cause), causes[cause]);
    }

    private static void ticksTold() {
        due.about("12: n TICKS (1 .. 60): THE TICK");
        EarField x = new EarField();
        int tick = 0;
        for (int n : new int[] {1, 2, 59, 60}) {
            tick += n;
            due.is("n " + n, x.ticks(n), tick);
            due.is("THE TICK", x.count(2), tick);
        }
        rich.outside("n", 1, 60, (y, v) -> y.ticks(v), -3);
    }

    private static EarField at(int tick) {
        EarField x = three(1, 30000);
        while (x.count(2) + 60 <= tick) x.ticks(60);
        if (x.count(2) < tick) x.ticks(tick - x.count(2));
        return x;
    }

    private static void beyond9000() {
        due.about("12: OUTSIDE: also beyond 9000");
        due.is("8999", at(8998).ticks(1), 8999);
        due.is("9000", at(8999).ticks(1), 9000);
        due.is("9000 by 60", at(8940).ticks(60), 9000);
        due.is("9000 by 59", at(8941).ticks(59), 9000);
        new Refusal(due, () -> at(8941)).is("9001 by 60", x -> x.ticks(60), -3);
        new Refusal(due, () -> at(8999)).is("9001 by 2", x -> x.ticks(2), -3);
        new Refusal(due, () -> at(9000)).is("9001 by 1", x -> x.ticks(1), -3);
    }

    private static void spentAtMost() {
        due.about("Terms: What is spent is as much of the POWER as there is at most");
        int[][] cases = {{1, 0}, {2, 0}, {3, 1}, {4, 2}};
        for (int[] c : cases) {
            EarField x = three(1, 100);
            x.set(1, 2);
            x.power(2, c[0]);
            x.ticks(1);
            due.is("AWAKE 2 of " + c[0], x.at(2, 0), c[1]);
            EarField y = three(1, 100);
            y.set(0, 2);
            y.sleep(2, 1, 0);
            y.power(2, c[0]);
            y.ticks(1);
            due.is("SLEEP 2 of " + c[0], y.at(2, 0), c[1]);
        }
        // AWAKE 1 and then SAY 5, HEAR 2.
        int[][] saying = {{2, 0}, {5, 0}, {6, 0}, {7, 1}};
        for (int[] c : saying) {
            EarField x = three(1, 100);
            x.power(2, c[0]);
            x.say(2, 8);
            x.ticks(1);
            due.is("SAY 5 of " + (c[0] - 1), x.at(2, 0), c[1]);
            due.is("said all the same", x.at(1, 5), 1);
        }
        int[][] hearing = {{2, 0}, {3, 0}, {4, 1}};
        for (int[] c : hearing) {
            EarField x = three(1, 100);
            x.power(1, c[0]);
            x.say(2, 8);
            x.ticks(1);
            due.is("HEAR 2 of " + (c[0] - 1), x.at(1, 0), c[1]);
            due.is("got all the same", x.at(1, 5), 1);
        }
        EarField z = three(1, 0);
        z.ticks(60);
        due.is("0 stays 0", z.at(1, 0), 0);
    }

    private static void deadByStepOne() {
        due.about("Terms: DEAD, AWAKE: as behind step 1");
        for (int power = 1; power <= 2; power++) {
            EarField x = star(1, 100);
            x.power(1, power);
            x.say(1, 8);
            x.ticks(1);
            due.is("a sayer with " + power, x.lost(7), power - 1);
            due.is("its word", x.at(1, 5), 2 - power);
            EarField y = star(1, 100);
            y.power(0, power);
            y.say(1, 8);
            y.ticks(1);
            due.is("a parent with " + power + ": DEAD", y.lost(0), 2 - power);
            due.is("or it gets that", y.lost(6), power - 1);
            EarField z = star(1, 100);
            z.power(0, power);
            z.loud(0, 0, 4);
            Due.ask(z, "count every 1");
            z.ticks(1);
            due.is("a teller with " + power, z.result(2), power - 1);
        }
    }

    private static void deadLater() {
        due.about("Terms: what dies later in a TICK is DEAD from the next one on");
        EarField x = star(1, 100);
        x.power(0, 3);
        x.say(1, 8);
        x.say(1, 9);
        x.ticks(1);
        due.is("died as it heard", x.at(0, 0), 0);
        due.is("got", x.kept(0), 8);
        x.ticks(1);
        due.is("DEAD in the next one", x.lost(0), 1);
        due.is("nothing more", x.kept(0), 8);
        EarField y = star(1, 100);
        y.power(1, 6);
        y.say(1, 8);
        y.say(1, 9);
        y.ticks(2);
        due.is("died as it said the first", y.lost(7), 1);
        due.is("the second is left", y.at(1, 5), 1);
    }

    private static void epochEvery() {
        due.about("Terms: a QUESTION is asked and t modulo EVERY is 0");
        int[] asked = {0, 1, 2, 3, 4};
        int[] first = {0, 3, 3, 3, 6};
        for (int i = 0; i < 5; i++) {
            EarField x = star(0, 100);
            for (int h = 0; h < 24; h++) x.loud(0, h, h % 16);
            if (asked[i] > 0) x.ticks(asked[i]);
            Due.ask(x, "most loud every 3");
            while (x.count(2) < first[i]) {
                x.ticks(1);
                due.is("no EPOCH yet in " + (x.count(2) - 1), x.result(2), 0);
            }
            x.ticks(1);
            due.is("the first EPOCH is at " + first[i], x.result(0), first[i]);
            x.ticks(2);
            due.is("it lasts three TICKS", x.result(0), first[i]);
            x.ticks(1);
            due.is("then the next", x.result(0), first[i] + 3);
        }
        EarField y = star(0, 100);
        for (int h = 0; h < 24; h++) y.loud(0, h, h % 16);
        Due.ask(y, "most loud every 1");
        for (int t = 0; t < 16; t++) {
            y.ticks(1);
            due.is("every 1", y.result(0), t);
        }
        EarField z = star(0, 100);
        z.loud(0, 0, 1);
        z.loud(0, 12, 2);
        Due.ask(z, "most loud every 60");
        z.ticks(60);
        due.is("every 60, in 59", z.result(0), 1);
        z.ticks(1);
        due.is("every 60, in 60", z.result(0), 2);
    }

    private static void epochAwake() {
        due.about("Terms: of each BOX that is AWAKE");
        for (int bits = 0; bits < 4; bits++) {
            EarField x = star(1, 100);
            x.loud(0, 0, 4);
            x.loud(1, 0, 5);
            x.sleep(0, 2, bits);
            x.sleep(1, 2, bits);
            Due.ask(x, "count every 30");
            x.ticks(2);
            due.is("awake in 0 by " + bits, x.result(4), (bits & 1) == 1 ? 3 : 0);
            due.is("said in 0 by " + bits, x.lost(7), (bits & 1) == 1 ? 1 : 0);
        }
        EarField y = star(1, 100);
        for (int h = 0; h < 2; h++) y.loud(0, h, 4 + h);
        Due.ask(y, "count every 1");
        y.ticks(1);
        due.is("its own", y.result(3), 4);
        y.sleep(0, 1, 0);
        y.ticks(1);
        due.is("SUMS of all others are empty", y.result(2), 0);
    }

    private static void hourOfDay() {
        due.about("Terms: LOUD of hour t modulo 24");
        EarField x = star(0, 200);
        for (int h = 0; h < 16; h++) x.loud(0, h, h);
        for (int h = 16; h < 24; h++) x.loud(0, h, h - 16);
        Due.ask(x, "most loud every 1");
        int[] loud = {0, 15, 0, 7, 0, 1, 7, 0};
        int[] ticks = {0, 15, 16, 23, 24, 25, 47, 48};
        for (int i = 0; i < 8; i++) {
            if (x.count(2) < ticks[i]) x.ticks(ticks[i] - x.count(2));
            x.ticks(1);
            due.is("t " + ticks[i], x.result(1), loud[i]);
        }
        // Not the LOCAL hour.
        EarField y = star(0, 200);
        y.clock(0, 0, 5);
        y.loud(0, 0, 3);
        y.loud(0, 5, 9);
        Due.ask(y, "most loud every 30");
        y.ticks(1);
        due.is("hour 0", y.result(1), 3);
    }

    private static void loudKnown() {
        due.about("Terms: whose LOUD is known and meets the QUESTION");
        for (int v : new int[] {0, 1, 14, 15, 16}) {
            EarField x = star(0, 100);
            x.loud(0, 0, v);
            Due.ask(x, "least loud every 9");
            x.ticks(1);
            due.is("LOUD " + v, x.result(0), v == 16 ? -1 : v);
            due.is("told", x.result(2), v == 16 ? 0 : 1);
        }
        String[] conds = {"loud above 4", "loud below 4", "box above 1", "box below 1", "loud above 0", "loud below 0", "loud below 99",
            "loud above 99", "box above 99", "box below 00", "loud above 04", "loud above 2 and loud below 5", "loud above 4 and box above 1"};
        int[] whom = {4, 1, 4, 1, 7, 0, 7, 0, 0, 0, 4, 3, 4};
        for (int i = 0; i < conds.length; i++) {
            EarField x = three(1, 100);
            for (int b = 0; b < 3; b++) x.loud(b, 0, 3 + b);
            Due.ask(x, "count where " + conds[i] + " every 9");
            x.ticks(4);
            due.is(conds[i], x.result(4), whom[i]);
        }
    }

    private static void liar() {
        due.about("Terms: a LIAR's: what it LIES");
        for (int lie : new int[] {0, 1, 14, 15, 16}) {
            EarField x = star(1, 100);
            x.loud(1, 0, 6);
            x.lies(1, lie);
            Due.ask(x, "most loud where loud above 5 and loud below 7 every 9");
            x.ticks(2);
            due.is("LIES " + lie, x.result(1), lie == 16 ? 6 : lie);
        }
        EarField y = star(1, 100);
        y.lies(1, 9);
        Due.ask(y, "count every 9");
        y.ticks(2);
        due.is("one that knows nothing tells nothing", y.result(2), 0);
    }

    private static void held() {
        due.about("Terms: when t is EPOCH's TICK and HOLD times (DEEPEST less COUNT) at least");
        for (int hold : new int[] {0, 1, 2, 8, 9}) {
            EarField x = three(1, 1000);
            x.set(4, hold);
            x.loud(1, 0, 5);
            Due.ask(x, "count every 60");
            for (int t = 0; t <= hold + 1; t++) {
                x.ticks(1);
                due.is("HOLD " + hold + ", COUNT 1 of 2, in " + t, x.lost(7), t >= hold ? 1 : 0);
            }
            EarField y = three(1, 1000);
            y.set(4, hold);
            y.loud(2, 0, 5);
            Due.ask(y, "count every 60");
            y.ticks(1);
            due.is("the DEEPEST holds nothing", y.lost(7), 1);
        }
        EarField z = Due.chain(10, 1000);
        z.rounds(9);
        z.set(4, 2);
        z.loud(1, 0, 5);
        Due.ask(z, "count every 60");
        z.ticks(16);
        due.is("2 times (9 less 1) is 16", z.lost(7), 0);
        z.ticks(1);
        due.is("in 16", z.lost(7), 1);
        // In a second EPOCH the same from its own TICK on.
        EarField w = three(1, 1000);
        w.set(4, 3);
        for (int h = 0; h < 24; h++) w.loud(1, h, 5);
        Due.ask(w, "count every 10");
        w.ticks(13);
        due.is("up to 12", w.lost(7), 1);
        w.ticks(1);
        due.is("in 13", w.lost(7), 2);
    }

    private static void deepestOfAny() {
        due.about("Terms: DEEPEST is the greatest COUNT of any BOX");
        EarField x = three(1, 1000);
        x.set(4, 4);
        x.loud(1, 0, 5);
        Due.ask(x, "count every 60");
        x.sleep(2, 1, 0);
        x.ticks(4);
        due.is("one asleep counts", x.lost(7), 0);
        x.ticks(1);
        due.is("in 4", x.lost(7), 1);
        EarField z = three(1, 1000);
        z.set(4, 4);
        z.loud(1, 0, 5);
        Due.ask(z, "count every 60");
        z.power(2, 0);
        z.ticks(4);
        due.is("any BOX: a DEAD one that has a COUNT", z.lost(7), 0);
        z.ticks(1);
        due.is("in 4 too", z.lost(7), 1);
        EarField y = star(2, 1000);
        y.set(4, 9);
        y.loud(1, 0, 5);
        Due.ask(y, "count every 60");
        y.ticks(1);
        due.is("none is deeper: at once", y.lost(7), 1);
    }

    private static void roomInRow() {
        due.about("Terms: puts it at the end of its ROW (if there is room)");
        for (int words = 2; words <= 4; words++) {
            EarField x = star(1, 1000);
            x.set(4, 0);
            x.loud(1, 0, 5);
            Due.ask(x, "count every 60");
            for (int i = 0; i < words; i++) x.say(1, i);
            x.ticks(1);
            due.is("words " + words + ": one was said", x.at(1, 5), words == 4 ? 3 : words);
            x.ticks(1);
            due.is("then room for all", x.at(1, 5), words == 4 ? 3 : words - 1);
            for (int i = 2; i < words; i++) x.ticks(1);
            due.is("the SUM is last", x.result(2), 0);
            x.ticks(1);
            due.is("and comes behind the words", x.result(2), 1);
            x.ticks(1);
            due.is("once", x.lost(6), words + 1);
        }
    }

    private static void notInRow() {
        due.about("Terms: A BOX with a PARENT that is AWAKE puts its SUM at the end of its ROW");
        EarField x = Due.chain(2, 1000);
        x.loud(1, 0, 5);
        Due.ask(x, "count every 60");
        for (int t = 0; t < 3; t++) {
            x.ticks(1);
            due.is("without a PARENT it does not", x.at(1, 5), 0);
        }
        x.rounds(1);
        x.ticks(1);
        due.is("with one it does, and says it", x.result(4), 2);
        // HOLD 2: in 2 and 3 it sleeps, in 4 it is awake.
        EarField y = three(1, 1000);
        y.set(4, 2);
        y.sleep(1, 6, 51);
        y.loud(1, 0, 5);
        y.say(1, 9);
        Due.ask(y, "count every 60");
        y.ticks(1);
        due.is("its word is said in 0", y.kept(0), 9);
        for (int t = 1; t < 4; t++) {
            y.ticks(1);
            due.is("in " + t + " its ROW is empty", y.at(1, 5), 0);
        }
        y.ticks(1);
        due.is("in 4 it says it", y.result(4), 2);
    }

    private static void saysTheFirst() {
        due.about("Terms: Each BOX with a PARENT that is AWAKE says the first of its ROW (which goes)");
        EarField x = star(1, 1000);
        for (int i = 0; i < 4; i++) x.say(1, 10 + i);
        for (int i = 0; i < 4; i++) {
            x.ticks(1);
            due.is("in order", x.kept(0), 10 + i);
            due.is("it goes", x.at(1, 5), 3 - i);
        }
        x.ticks(1);
        due.is("an empty ROW says nothing", x.lost(7), 4);
        due.is("and spends nothing for it", x.at(1, 0), 1000 - 5 - 20);
        EarField y = star(1, 1000);
        y.sleep(1, 1, 0);
        y.say(1, 5);
        y.ticks(1);
        due.is("asleep it says nothing", y.at(1, 5), 1);
        EarField z = Due.chain(2, 1000);
        z.say(1, 5);
        z.ticks(1);
        due.is("without a PARENT it says nothing", z.at(1, 5), 1);
    }

    private static void hearsOneAlone() {
        due.about("Terms: Each other one that is AWAKE and HEARS one or more that said something spends HEAR");
        int[] got = {0, 1, 0, 0};
        for (int sayers = 0; sayers <= 3; sayers++) {
            EarField x = star(3, 1000);
            for (int b = 1; b <= sayers; b++) x.say(b, b);
            x.ticks(1);
            due.is("root that hears " + sayers, x.at(0, 0), sayers == 0 ? 999 : 997);
            due.is("if it is one alone", x.lost(6), got[sayers]);
            due.is("else MET", x.lost(3), sayers - got[sayers]);
            due.is("said", x.lost(7), sayers);
        }
        EarField y = star(3, 1000);
        y.sleep(0, 1, 0);
        y.say(1, 1);
        y.ticks(1);
        due.is("one asleep spends no HEAR", y.at(0, 0), 1000);
        EarField z = three(1, 1000);
        z.say(1, 1);
        z.say(2, 2);
        z.ticks(1);
        due.is("one that said something spends SAY, not HEAR", z.at(1, 0), 994);
        due.is("nor does the other", z.at(2, 0), 994);
    }

    private static void toldToAnother() {
        due.about("Terms: and this is its PARENT (it says to no other one)");
        EarField x = three(1, 1000);
        x.say(1, 5);
        x.ticks(1);
        due.is("2 hears 1, its own PARENT", x.at(2, 0), 997);
        due.is("and gets nothing", x.at(2, 5), 0);
        due.is("the root gets it", x.kept(0), 5);
        EarField y = star(2, 1000);
        y.hears(2, 1, true);
        y.say(1, 5);
        y.ticks(1);
        due.is("2 hears 1, no child of its own", y.at(2, 0), 997);
        due.is("and gets nothing", y.at(2, 5), 0);
        isLost(y, 0, 0, 0, 0, 0, 0, 1, 1);
        // One child and one that is none: they meet there.
        EarField z = Due.chain(4, 1000);
        z.rounds(3);
        z.hears(0, 3, true);
        z.say(1, 5);
        z.say(3, 6);
        z.ticks(1);
        due.is("1 met 3 at the root, and 3 met 1 at 2", z.lost(3), 2);
        due.is("nothing came to 2", z.at(2, 5), 0);
        due.is("who heard both", z.at(2, 0), 997);
    }

    private static void causeDead() {
        due.about("Terms: LOST: 0 the PARENT is DEAD, ahead of all others");
        EarField x = star(2, 1000);
        x.power(0, 0);
        x.say(1, 1);
        x.ticks(1);
        isLost(x, 1, 0, 0, 0, 0, 0, 0, 1);
        x.hears(0, 1, false);
        x.say(1, 1);
        x.ticks(1);
        isLost(x, 2, 0, 0, 0, 0, 0, 0, 2);
        x.sleep(0, 1, 0);
        x.say(1, 1);
        x.ticks(1);
        isLost(x, 3, 0, 0, 0, 0, 0, 0, 3);
        x.hears(0, 1, true);
        x.sleep(0, 1, 1);
        x.say(1, 1);
        x.say(2, 1);
        x.ticks(1);
        isLost(x, 5, 0, 0, 0, 0, 0, 0, 5);
    }

    private static void causeNotHeard() {
        due.about("Terms: LOST: 1 it does not HEAR it, ahead of asleep and MET");
        EarField x = star(3, 1000);
        x.hears(0, 1, false);
        x.say(1, 1);
        x.ticks(1);
        isLost(x, 0, 1, 0, 0, 0, 0, 0, 1);
        due.is("it spends no HEAR", x.at(0, 0), 999);
        x.sleep(0, 1, 0);
        x.say(1, 1);
        x.ticks(1);
        isLost(x, 0, 2, 0, 0, 0, 0, 0, 2);
        x.sleep(0, 1, 1);
        x.say(1, 1);
        x.say(2, 2);
        x.say(3, 3);
        x.ticks(1);
        isLost(x, 0, 3, 0, 2, 0, 0, 0, 5);
        x.say(1, 1);
        x.say(2, 2);
        x.ticks(1);
        due.is("2 alone is heard", x.kept(0), 2);
        isLost(x, 0, 4, 0, 2, 0, 0, 1, 7);
        EarField y = three(1, 1000);
        y.hears(1, 2, false);
        y.say(1, 1);
        y.say(2, 2);
        y.ticks(1);
        isLost(y, 0, 1, 0, 0, 0, 0, 1, 2);
    }

    private static void causeAsleep() {
        due.about("Terms: LOST: 2 it is asleep, ahead of MET");
        EarField x = star(2, 1000);
        x.sleep(0, 2, 2);
        x.say(1, 1);
        x.say(1, 2);
        x.ticks(1);
        isLost(x, 0, 0, 1, 0, 0, 0, 0, 1);
        x.ticks(1);
        isLost(x, 0, 0, 1, 0, 0, 0, 1, 2);
        x.say(1, 1);
        x.say(2, 2);
        x.ticks(1);
        isLost(x, 0, 0, 3, 0, 0, 0, 1, 4);
    }

    private static void causeMet() {
        due.about("Terms: LOST: 3 MET (it said something itself, or HEARS more than one)");
        EarField x = three(1, 1000);
        x.say(1, 1);
        x.say(2, 2);
        x.ticks(1);
        isLost(x, 0, 0, 0, 1, 0, 0, 1, 2);
        EarField y = Due.chain(4, 1000);
        Due.link(y, 1, 3);
        y.hears(2, 3, false);
        y.rounds(3);
        due.is("1 has two children", y.at(3, 2), 1);
        y.say(2, 2);
        y.ticks(1);
        isLost(y, 0, 0, 0, 0, 0, 0, 0, 1);
        due.is("one alone comes to its ROW", y.at(1, 5), 1);
        y.ticks(1);
        y.say(2, 2);
        y.say(3, 3);
        y.ticks(1);
        isLost(y, 0, 0, 0, 2, 0, 0, 1, 4);
        due.is("its ROW is empty", y.at(1, 5), 0);
    }

    // Box 1 hears its child 2, has no PARENT itself, and so many words in its ROW.
    private static EarField stray(int words, int branch) {
        EarField x = three(branch, 1000);
        x.power(2, 0);
        x.hears(0, 1, false);
        x.rounds(1);
        x.power(2, 1000);
        for (int i = 0; i < words; i++) x.say(1, i);
        return x;
    }

    private static void fullRow() {
        due.about("Terms: else it comes to the end of its ROW, LOST by 4, if that is full");
        for (int words = 0; words <= 4; words++) {
            EarField x = stray(words, 0);
            x.say(2, 50);
            x.ticks(1);
            due.is("a word to " + words, x.at(1, 5), Math.min(4, words + 1));
            isLost(x, 0, 0, 0, 0, words == 4 ? 1 : 0, 0, 0, 1);
            due.is("HEAR is spent", x.at(1, 0), 997);
            EarField y = stray(words, 0);
            y.loud(2, 0, 5);
            Due.ask(y, "count every 60");
            y.ticks(1);
            due.is("a SUM to " + words, y.at(1, 5), Math.min(4, words + 1));
            isLost(y, 0, 0, 0, 0, words == 4 ? 1 : 0, 0, 0, 1);
        }
        // At the end: what is there goes home ahead of it.
        EarField z = three(1, 1000);
        z.power(1, 1000);
        z.say(2, 50);
        z.ticks(1);
        z.say(1, 60);
        z.ticks(2);
        due.is("the last", z.kept(0), 60);
        due.is("the first", z.kept(1), 50);
    }

    private static void gotByBranch() {
        due.about("Terms: by a BRANCH whose SUM is not said yet in this EPOCH, a SUM is joined to its own");
        for (int words = 3; words <= 4; words++) {
            EarField x = stray(words, 1);
            x.loud(2, 0, 5);
            Due.ask(x, "count every 60");
            x.ticks(1);
            due.is("no room is needed for that", x.at(1, 5), words);
            due.is("nothing is LOST", x.lost(4), 0);
        }
        // HOLD 0: it said its own in 0, so that of 2, said in 1, comes to its ROW, and home in 2.
        EarField y = three(1, 1000);
        y.set(4, 0);
        for (int b = 0; b < 3; b++) y.loud(b, 0, 5);
        y.say(2, 9);
        y.sleep(2, 3, 3);
        Due.ask(y, "count every 60");
        y.ticks(1);
        due.is("1 said its own", y.result(4), 3);
        due.is("2 met it with its word", y.lost(3), 1);
        y.ticks(1);
        due.is("in its ROW", y.at(1, 5), 1);
        y.ticks(1);
        due.is("home", y.result(4), 7);
        due.is("each BOX once", y.result(2), 3);
        // In a new EPOCH nothing is said yet.
        EarField z = three(1, 1000);
        for (int h = 0; h < 24; h++) z.loud(2, h, 5);
        Due.ask(z, "count every 2");
        z.ticks(1);
        due.is("joined in 0", z.at(1, 5), 0);
        z.ticks(1);
        due.is("home in 1", z.result(4), 4);
        z.ticks(1);
        due.is("joined in 2", z.at(1, 5), 0);
        z.ticks(1);
        due.is("home in 3", z.result(4), 4);
        isLost(z, 0, 0, 0, 0, 0, 0, 2, 4);
    }

    private static void gotByLeaf() {
        due.about("Terms: a LEAF has it in its ROW");
        EarField x = three(0, 1000);
        for (int b = 0; b < 3; b++) x.loud(b, 0, 5 + b);
        Due.ask(x, "count every 60");
        x.ticks(1);
        due.is("2's SUM in the ROW of 1", x.at(1, 5), 1);
        x.ticks(1);
        due.is("said ahead of its own", x.result(4), 5);
        due.is("its own is in the ROW", x.at(1, 5), 1);
        x.ticks(1);
        due.is("all", x.result(4), 7);
        due.is("all together", x.result(3), 18);
        isLost(x, 0, 0, 0, 0, 0, 0, 2, 3);
    }

    private static void lateSums() {
        due.about("Terms: all SUMS that were not said are LATE (those in ROWS too)");
        // HOLD h, every e: 1's SUM is said in h; if an EPOCH begins sooner, it is LATE.
        for (int hold = 0; hold <= 4; hold++) {
            EarField x = three(1, 1000);
            x.set(4, hold);
            x.loud(1, 0, 5);
            Due.ask(x, "count every 3");
            x.ticks(3);
            due.is("HOLD " + hold + " within 3", x.lost(6), hold < 3 ? 1 : 0);
            due.is("not LATE yet", x.lost(5), 0);
            x.ticks(1);
            due.is("LATE in 3", x.lost(5), hold < 3 ? 0 : 1);
            x.ticks(10);
            due.is("once", x.lost(5), hold < 3 ? 0 : 1);
            due.is("and not said", x.lost(7), hold < 3 ? 1 : 0);
        }
        // One in the ROW as the EPOCH begins; words stay.
        for (int words = 0; words <= 3; words++) {
            EarField x = star(1, 1000);
            x.loud(1, 0, 5);
            for (int i = 0; i < words; i++) x.say(1, i);
            Due.ask(x, "count every 2");
            x.ticks(2);
            due.is("words " + words + ": left in the ROW", x.at(1, 5), Math.max(0, words - 1));
            x.ticks(1);
            due.is("LATE", x.lost(5), words < 2 ? 0 : 1);
            x.ticks(10);
            due.is("words all came home", x.lost(6), words < 2 ? words + 1 : words);
        }
        // Empty SUMS are not LATE, nor is what THE ROOT has of its own.
        EarField y = three(1, 1000);
        for (int h = 0; h < 24; h++) y.loud(0, h, 5);
        Due.ask(y, "count every 1");
        y.ticks(5);
        due.is("none", y.lost(5), 0);
        // Four SUMS in one ROW, of which it says the first ahead of the next EPOCH.
        EarField z = stray(3, 0);
        for (int h = 0; h < 24; h++) z.loud(2, h, 5);
        Due.ask(z, "count every 2");
        z.ticks(2);
        due.is("one SUM behind three words", z.at(1, 5), 4);
        z.ticks(1);
        due.is("it is LATE, and the next stands there", z.lost(5), 1);
        due.is("four again", z.at(1, 5), 4);
        isLost(z, 0, 0, 0, 0, 0, 1, 0, 2);
    }

    private static void lostWhat() {
        due.about("13: a cause (0 .. 4), LATE (5), GOT (6), all that was said (7)");
        EarField x = new EarField();
        for (int cause = 0; cause < 8; cause++) due.is("at first " + cause, x.lost(cause), 0);
        rich.outside("cause", 0, 7, (y, v) -> y.lost(v), -3);
    }

    private static void keptWords() {
        due.about("Terms: a WORD is KEPT (the last 12 are)");
        EarField x = star(1, 1000);
        for (int words = 0; words <= 14; words++) {
            for (int i = 0; i < 14; i++) due.is(words + " words: " + i, x.kept(i), i < Math.min(words, 12) ? 100 + words - i : -1);
            x.say(1, 101 + words);
            x.ticks(1);
        }
        due.about("14: from 0, the last one 0; OUTSIDE: i below 0");
        due.is("0", x.kept(0), 115);
        due.is("1", x.kept(1), 114);
        due.is("11", x.kept(11), 104);
        due.is("12", x.kept(12), -1);
        due.is("far", x.kept(Integer.MAX_VALUE), -1);
        rich.is("-1", y -> y.kept(-1), -3);
        rich.is("the least", y -> y.kept(Integer.MIN_VALUE), -3);
        rich.is("beyond", y -> y.kept(12), -1);
        due.about("Terms: SUMS are not KEPT");
        EarField z = star(1, 1000);
        z.loud(1, 0, 5);
        Due.ask(z, "count every 60");
        z.ticks(2);
        due.is("home", z.lost(6), 1);
        due.is("not KEPT", z.kept(0), -1);
    }
}
