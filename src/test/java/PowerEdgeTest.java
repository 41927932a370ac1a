// Promises 22 to 25: each sentence that names a boundary, at it, one step inside and one step outside.
public final class PowerEdgeTest {
    private static final Due due = new Due();
    private static final Refusal rich = new Refusal(due, Refusal::rich);

    public static void main(String[] args) {
        foretoldN();
        foretoldPower();
        foretoldSleep();
        foretoldEpochs();
        foretoldParents();
        lifeAtMost1000();
        lifeByPower();
        lifeOfTheDead();
        lifeWithEpochs();
        longestOfNone();
        steps();
        notDead();
        bothHear();
        greatest();
        firstOfSeveral();
        parentsThatWere();
        childrenOfAll();
        treesThatWere();
        manyTrees();
        bestWho();
        tellingOnly();
        due.end("PowerEdgeTest");
    }

    // A chain with its PARENTS found, and a QUESTION asked each so many TICKS.
    private static EarField chain(int boxes, int power, int every) {
        EarField x = Due.chain(boxes, power);
        x.rounds(9);
        if (every > 0) Due.ask(x, "count every " + every);
        return x;
    }

    private static void foretoldN() {
        due.about("22: n TICKS (0 .. 1000)");
        for (int n : new int[] {0, 1, 2, 999, 1000}) due.is("n " + n, chain(2, 100, 0).foretold(1, n), n);
        due.is("dearest", dearest().foretold(0, 1000), 1000 * (20 + 9 * 20));
        due.is("dearest of a child", dearest().foretold(9, 1000), 1000 * (20 + 20));
        rich.outside("n", 0, 1000, (y, v) -> y.foretold(1, v), -3);
        rich.outside("box", 0, 6, (y, v) -> y.foretold(v, 10), -2);
        rich.is("UNKNOWN ahead of OUTSIDE", y -> y.foretold(7, 1001), -2);
        due.about("22: from now on, beyond TICK 9000 too");
        EarField x = chain(2, 30000, 0);
        for (int i = 0; i < 150; i++) x.ticks(60);
        due.is("in 9000", x.foretold(1, 1000), 1000);
    }

    private static EarField dearest() {
        EarField x = new EarField();
        for (int b = 0; b < 10; b++) x.box(1, 30000);
        for (int b = 1; b < 10; b++) Due.link(x, 0, b);
        x.rounds(1);
        for (int what = 0; what < 4; what++) x.set(what, 20);
        Due.ask(x, "count every 1");
        return x;
    }

    private static void foretoldPower() {
        due.about("22: POWER does not matter");
        EarField x = chain(2, 100, 2);
        for (int power : new int[] {0, 1, 2, 30000}) {
            x.power(1, power);
            due.is("with " + power, x.foretold(1, 4), 4 + 2 * 5);
        }
    }

    private static void foretoldSleep() {
        due.about("22: AWAKE or SLEEP in each");
        EarField x = chain(2, 1000, 0);
        x.set(0, 3);
        x.set(1, 10);
        x.sleep(1, 12, 1 << 11);
        due.is("asleep in 0 .. 10", x.foretold(1, 11), 33);
        due.is("awake in 11", x.foretold(1, 12), 43);
        due.is("asleep in 12", x.foretold(1, 13), 46);
        x.ticks(11);
        due.is("now it is 11", x.foretold(1, 1), 10);
        due.is("asleep in 12", x.foretold(1, 2), 13);
        // Clocks drift: hour 101 comes in TICK 100.
        EarField y = chain(2, 1000, 0);
        y.clock(1, 1, 0);
        y.sleep(1, 2, 2);
        for (int i = 0; i < 9; i++) y.ticks(11);
        due.is("in 99 awake", y.foretold(1, 1), 1);
        due.is("in 100 awake too", y.foretold(1, 2), 2);
        due.is("in 101 asleep", y.foretold(1, 3), 2);
        due.is("in 102 awake", y.foretold(1, 4), 3);
        EarField z = chain(2, 1000, 0);
        z.clock(1, 0, -1);
        z.sleep(1, 12, 1 << 11);
        due.is("hour -1 is bit 11", z.foretold(1, 1), 1);
        due.is("hour 0 is bit 0", z.foretold(1, 2), 1);
    }

    private static void foretoldEpochs() {
        due.about("22: for each in which an EPOCH would begin (t modulo EVERY is 0; none without a QUESTION)");
        int[] spent = {0, 6, 7, 8, 14, 15, 16, 22};
        EarField x = chain(2, 1000, 3);
        for (int n = 0; n < 8; n++) due.is("n " + n, x.foretold(1, n), spent[n]);
        x.ticks(1);
        due.is("from 1: up to 2", x.foretold(1, 2), 2);
        due.is("from 1: up to 3", x.foretold(1, 3), 8);
        x.ticks(2);
        due.is("from 3", x.foretold(1, 1), 6);
        EarField y = chain(2, 1000, 60);
        y.ticks(1);
        due.is("up to 59", y.foretold(1, 59), 59);
        due.is("up to 60", y.foretold(1, 60), 65);
        due.is("up to 120", y.foretold(1, 120), 130);
        due.is("without a QUESTION", chain(2, 1000, 0).foretold(1, 60), 60);
        // Asleep or not, what an EPOCH takes is the same.
        EarField z = chain(2, 1000, 1);
        z.sleep(1, 1, 0);
        due.is("asleep", z.foretold(1, 10), 50);
    }

    private static void foretoldParents() {
        due.about("22: SAY, if it has a PARENT, and HEAR for each BOX whose PARENT it is");
        for (int children = 0; children <= 8; children++) {
            EarField x = new EarField();
            for (int b = 0; b < 10; b++) x.box(1, 100);
            Due.link(x, 0, 1);
            for (int b = 2; b < 2 + children; b++) Due.link(x, 1, b);
            x.rounds(2);
            Due.ask(x, "count every 1");
            due.is("children " + children, x.foretold(1, 1), 1 + 5 + 2 * children);
            due.is("the root has one", x.foretold(0, 1), 1 + 2);
            due.is("no way home, no PARENT", x.foretold(9, 1), children == 8 ? 6 : 1);
        }
    }

    private static void lifeAtMost1000() {
        due.about("23: LIFE: the greatest n (1000 at most)");
        int[] powers = {0, 1, 2, 998, 999, 1000, 1001, 30000};
        for (int power : powers) {
            EarField x = chain(2, 100, 0);
            x.power(1, power);
            due.is("with " + power, x.life(1), Math.min(power, 1000));
        }
        rich.outside("box", 0, 6, (y, v) -> y.life(v), -2);
    }

    private static void lifeByPower() {
        due.about("23: for which that is POWER at most");
        for (int cost = 1; cost <= 20; cost++) {
            EarField x = chain(2, 100, 0);
            x.set(1, cost);
            for (int power : new int[] {cost - 1, cost, cost + 1, 10 * cost - 1, 10 * cost, 10 * cost + 1}) {
                x.power(1, power);
                int life = x.life(1);
                due.is("cost " + cost + " of " + power, life, power / cost);
                due.is("that is POWER at most", x.foretold(1, life) <= power ? 1 : 0, 1);
                due.is("one more is not", x.foretold(1, life + 1) > power ? 1 : 0, 1);
            }
        }
        // Far more than there is: 20 and 9 times 20 a TICK.
        EarField y = dearest();
        due.is("30000 by 200", y.life(0), 150);
        y.power(0, 29999);
        due.is("29999 by 200", y.life(0), 149);
    }

    private static void lifeOfTheDead() {
        due.about("23: of a DEAD one");
        EarField x = chain(2, 100, 0);
        x.power(1, 0);
        due.is("awake for 1", x.life(1), 0);
        x.sleep(1, 12, 1 << 11);
        due.is("asleep for nothing in 11 TICKS", x.life(1), 11);
        x.set(1, 0);
        due.is("all for nothing", x.life(1), 1000);
    }

    private static void lifeWithEpochs() {
        due.about("23: with what EPOCHS take");
        // 6 in 0, 3, 6 ..; 1 else: 8 each three.
        int[] powers = {5, 6, 7, 8, 13, 14, 16, 22, 80};
        int[] lives = {0, 1, 2, 3, 3, 4, 6, 7, 30};
        for (int i = 0; i < powers.length; i++) {
            EarField x = chain(2, 100, 3);
            x.power(1, powers[i]);
            due.is("with " + powers[i], x.life(1), lives[i]);
            due.is("as LONGEST has it, by the same PARENTS", x.longest(), Math.min(lives[i], chain(2, 100, 3).life(0)));
        }
    }

    private static void longestOfNone() {
        due.about("24: NONE: no BOX is not DEAD");
        EarField x = new EarField();
        due.is("no BOX", x.longest(), -1);
        x.box(0, 0);
        x.box(0, 0);
        due.is("all DEAD", x.longest(), -1);
        due.is("PARENT of a DEAD one", x.best(1), -1);
        x.power(1, 7);
        due.is("one that lives, without THE ROOT", x.longest(), 7);
        due.is("no way home", x.best(1), -1);
        x.power(0, 3);
        due.is("THE ROOT is the least", x.longest(), 3);
        x.power(1, 0);
        due.is("THE ROOT alone", x.longest(), 3);
        x.power(0, 30000);
        due.is("1000 at most", x.longest(), 1000);
    }

    private static void steps() {
        due.about("Terms: STEPS home of a BOX are the fewest; one less");
        EarField x = Due.chain(10, 100);
        due.is("a row of ten", x.longest(), 100);
        for (int b = 0; b < 10; b++) due.is("PARENT of " + b, x.best(b), b - 1);
        Due.link(x, 0, 9);
        int[] ring = {-1, 0, 1, 2, 3, 4, 7, 8, 9, 0};
        for (int b = 0; b < 10; b++) due.is("in a ring, PARENT of " + b, x.best(b), ring[b]);
        // Of as many STEPS is not one less: 1 and 2 hear one another, and that is nothing.
        EarField y = new EarField();
        for (int b = 0; b < 4; b++) y.box(0, 100);
        Due.link(y, 0, 1);
        Due.link(y, 0, 2);
        Due.link(y, 1, 2);
        due.is("2 home at once", y.best(2), 0);
        due.is("1 too", y.best(1), 0);
        due.is("3 has no way", y.best(3), -1);
        Due.link(y, 3, 2);
        due.is("3 by 2", y.best(3), 2);
        Due.link(y, 3, 1);
        due.is("3 by 1", y.best(3), 1);
        Due.link(y, 3, 0);
        due.is("3 at once", y.best(3), 0);
    }

    private static void notDead() {
        due.about("Terms: over BOXES not DEAD");
        EarField x = new EarField();
        for (int b = 0; b < 4; b++) x.box(0, 100);
        Due.link(x, 0, 1);
        Due.link(x, 1, 3);
        Due.link(x, 0, 2);
        Due.link(x, 2, 3);
        x.power(1, 1);
        due.is("with 1 it lives: the least LIFE", x.longest(), 1);
        due.is("a PARENT", x.best(3), 1);
        x.power(1, 0);
        due.is("with 0 it does not count", x.longest(), 100);
        due.is("nor is it a PARENT", x.best(3), 2);
        due.is("nor has it one", x.best(1), -1);
        x.power(2, 0);
        due.is("no way is left", x.best(3), -1);
        x.power(2, 100);
        x.power(0, 0);
        due.is("THE ROOT is DEAD", x.best(3), -1);
        due.is("no PARENT", x.best(2), -1);
        due.is("they live on", x.longest(), 100);
    }

    private static void bothHear() {
        due.about("Terms: that HEAR one another");
        for (int lacking = 0; lacking < 4; lacking++) {
            EarField x = new EarField();
            for (int b = 0; b < 3; b++) x.box(0, 100);
            if (lacking != 1) x.hears(0, 1, true);
            if (lacking != 2) x.hears(1, 0, true);
            Due.link(x, 1, 2);
            if (lacking == 3) x.hears(2, 1, false);
            due.is("PARENT of 1, lacking " + lacking, x.best(1), lacking == 1 || lacking == 2 ? -1 : 0);
            due.is("PARENT of 2, lacking " + lacking, x.best(2), lacking == 0 ? 1 : -1);
        }
    }

    // THE ROOT, two branches with so much power, three more that hear both; SAY 5 and HEAR 2 in each TICK.
    private static EarField two(int one, int other) {
        EarField x = new EarField();
        int[] powers = {30000, one, other, 6000, 6000, 6000};
        for (int power : powers) x.box(1, power);
        for (int b = 1; b < 3; b++) {
            Due.link(x, 0, b);
            for (int child = 3; child < 6; child++) Due.link(x, b, child);
        }
        Due.ask(x, "count every 1");
        return x;
    }

    private static void greatest() {
        due.about("Terms: THE LONGEST is that by which the least LIFE of all BOXES not DEAD is greatest");
        // A branch spends 6, and 2 for each child: 6, 8, 10, 12.
        int[][] cases = {{120, 120, 12, 1}, {120, 60, 10, 3}, {60, 120, 10, 0}, {120, 80, 10, 2}, {80, 120, 10, 1}, {120, 59, 9, 2},
            {1200, 60, 10, 3}, {60, 1200, 10, 0}, {119, 61, 10, 2}};
        for (int[] c : cases) {
            EarField x = two(c[0], c[1]);
            int longest = x.longest();
            int most = 0;
            int children = 0;
            // What is due, by trying all of them.
            for (int k = 0; k <= 3; k++) {
                int least = Math.min(c[0] / (6 + 2 * k), c[1] / (6 + 2 * (3 - k)));
                most = Math.max(most, Math.min(least, 1000));
            }
            for (int b = 3; b < 6; b++) if (x.best(b) == 1) children++;
            due.is("LONGEST of " + c[0] + " and " + c[1], longest, most);
            int made = Math.min(c[0] / (6 + 2 * children), c[1] / (6 + 2 * (3 - children)));
            due.is("and the TREE is such a one", made, most);
        }
        // Another BOX may be the least, whatever the TREE.
        EarField y = two(120, 60);
        y.power(5, 12);
        due.is("5 lives two TICKS", y.longest(), 2);
        due.is("so the first TREE does", y.best(3) + y.best(4) + y.best(5), 3);
    }

    private static void firstOfSeveral() {
        due.about("Terms: of several the first (by PARENTS of BOX 1, 2, ..)");
        // 100: two children at most for 10 TICKS each way; 1 2 is the lesser split.
        EarField x = two(100, 100);
        due.is("10", x.longest(), 10);
        int[] first = {1, 1, 2};
        for (int b = 3; b < 6; b++) due.is("PARENT of " + b, x.best(b), first[b - 3]);
        x.power(1, 80);
        int[] one = {1, 2, 2};
        due.is("10 still", x.longest(), 10);
        for (int b = 3; b < 6; b++) due.is("then PARENT of " + b, x.best(b), one[b - 3]);
        x.hears(1, 3, false);
        int[] other = {2, 1, 2};
        due.is("10 still", x.longest(), 10);
        for (int b = 3; b < 6; b++) due.is("3 out of hearing: PARENT of " + b, x.best(b), other[b - 3]);
        EarField y = two(30000, 30000);
        due.is("1000 each way", y.longest(), 1000);
        for (int b = 3; b < 6; b++) due.is("all to the first", y.best(b), 1);
    }

    private static void parentsThatWere() {
        due.about("24: the TREE, not what ROUNDS made");
        EarField x = chain(3, 100, 1);
        due.is("as it is", x.longest(), Math.min(100 / 3, 100 / 8));
        Due.link(x, 0, 2);
        due.is("2 home at once", x.longest(), 100 / 6);
        due.is("PARENT that it has", x.at(2, 2), 1);
        due.is("PARENT in the TREE", x.best(2), 0);
        x.power(2, 0);
        due.is("a DEAD child is none there", x.longest(), 100 / 6);
        due.is("but in FORETOLD it is", x.foretold(1, 1), 8);
    }

    private static void childrenOfAll() {
        due.about("24: LIFE by the children of the TREE, THE ROOT's too");
        for (int children = 1; children <= 9; children++) {
            EarField x = new EarField();
            for (int b = 0; b < 10; b++) x.box(1, 30000);
            for (int b = 1; b <= children; b++) Due.link(x, 0, b);
            Due.ask(x, "count every 1");
            x.power(0, 10 * (1 + 2 * children));
            due.is("THE ROOT has " + children, x.longest(), 10);
            x.power(0, 10 * (1 + 2 * children) - 1);
            due.is("one less", x.longest(), 9);
        }
        // 8 and 9 at THE ROOT, and 1 and 2 behind them: the first BOXES of the order have a choice.
        for (int set = 0; set < 4; set++) {
            EarField x = new EarField();
            for (int b = 0; b < 10; b++) x.box(1, 30000);
            for (int b = 8; b < 10; b++) {
                Due.link(x, 0, b);
                for (int leaf = 1; leaf < 3; leaf++) Due.link(x, b, leaf);
            }
            Due.ask(x, "count every 1");
            if ((set & 1) == 1) x.hears(8, 1, false);
            if ((set & 2) == 2) x.hears(8, 2, false);
            due.is("PARENT of 1", x.best(1), (set & 1) == 1 ? 9 : 8);
            due.is("PARENT of 2", x.best(2), (set & 2) == 2 ? 9 : 8);
            x.power(8, 80);
            x.power(9, 80);
            due.is("each takes one at most", x.longest(), set == 3 ? 8 : 10);
            due.is("then PARENT of 1", x.best(1), (set & 1) == 1 ? 9 : 8);
            due.is("then PARENT of 2", x.best(2), set == 1 ? 8 : 9);
            x.power(8, 60);
            x.power(9, 100);
            due.is("8 takes none", x.longest(), 10);
            due.is("so PARENT of 1", x.best(1), 9);
            due.is("so PARENT of 2", x.best(2), 9);
        }
    }

    private static void treesThatWere() {
        due.about("24, 25: nothing is left of TREES that were told ahead of it");
        EarField x = two(60, 1200);
        due.is("1 takes none", x.longest(), 10);
        for (int b = 3; b < 6; b++) due.is("PARENT of " + b, x.best(b), 2);
        x.power(5, 0);
        due.is("5 is DEAD", x.longest(), 10);
        due.is("it has no PARENT", x.best(5), -1);
        due.is("3 goes to 2", x.best(3), 2);
        x.power(5, 6000);
        x.hears(5, 1, false);
        x.hears(5, 2, false);
        due.is("5 has no way home", x.longest(), 10);
        due.is("so it has no PARENT", x.best(5), -1);
        due.is("4 goes to 2", x.best(4), 2);
        // With two of its own 2 lives a TICK less than with one more, that is none now.
        x.power(2, 100);
        due.is("2 takes two", x.longest(), 10);
        due.is("3", x.best(3), 2);
        due.is("4", x.best(4), 2);
        x.power(0, 0);
        due.is("no way home for any", x.longest(), 60);
        for (int b = 0; b < 6; b++) due.is("no PARENT of " + b, x.best(b), -1);
    }

    private static void manyTrees() {
        due.about("24, 25: MANY: more than 20000 TREES");
        // Three, four and two: 3 3 3 3 4 4 are 1296, and no ten BOXES give more.
        EarField x = new EarField();
        for (int b = 0; b < 10; b++) x.box(1, 1000);
        for (int b = 1; b < 4; b++) Due.link(x, 0, b);
        for (int a = 1; a < 4; a++) for (int b = 4; b < 8; b++) Due.link(x, a, b);
        for (int a = 4; a < 8; a++) for (int b = 8; b < 10; b++) Due.link(x, a, b);
        Due.ask(x, "count every 1");
        x.power(1, 60);
        x.power(2, 80);
        x.power(4, 70);
        x.power(5, 60);
        due.is("not NOT", x.longest(), 10);
        int[] parents = {-1, 0, 0, 0, 2, 3, 3, 3, 6, 6};
        for (int b = 0; b < 10; b++) due.is("PARENT of " + b, x.best(b), parents[b]);
        for (int b = 0; b < 10; b++) x.power(b, 30000);
        due.is("1000", x.longest(), 1000);
        int[] first = {-1, 0, 0, 0, 1, 1, 1, 1, 4, 4};
        for (int b = 0; b < 10; b++) due.is("the first TREE of all: " + b, x.best(b), first[b]);
        // The last TREE of all, when nothing else will do.
        int[] few = {30000, 60, 60, 30000, 60, 60, 60, 30000, 30000, 30000};
        for (int b = 0; b < 10; b++) x.power(b, few[b]);
        due.is("10", x.longest(), 10);
        int[] last = {-1, 0, 0, 0, 3, 3, 3, 3, 7, 7};
        for (int b = 0; b < 10; b++) due.is("the last TREE of all: " + b, x.best(b), last[b]);
    }

    private static void bestWho() {
        due.about("25: PARENT of a BOX; UNKNOWN");
        rich.outside("box", 0, 6, (y, v) -> y.best(v), -2);
        EarField x = new EarField();
        due.is("no BOX", x.best(0), -2);
        x.box(0, 5);
        due.is("THE ROOT has none", x.best(0), -1);
        due.is("no BOX 1", x.best(1), -2);
    }

    private static void tellingOnly() {
        due.about("22 to 25: telling changes nothing");
        rich.is("foretold", y -> y.foretold(1, 1000), 2000 + 250 * 7);
        rich.is("life", y -> y.life(1), 1000);
        rich.is("longest", y -> y.longest(), Refusal.rich().longest());
        rich.is("best", y -> y.best(2), 1);
    }
}
