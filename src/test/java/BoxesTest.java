// Promises 1 to 14.
public final class BoxesTest {
    private static final Due due = new Due();

    public static void main(String[] args) {
        newObject();
        boxes();
        hearing();
        sleepAndClock();
        settings();
        power();
        at();
        rounds();
        rings();
        say();
        ticks();
        lost();
        deadBoxes();
        kept();
        due.end("BoxesTest");
    }

    private static void newObject() {
        due.about("1");
        EarField x = new EarField();
        for (int what = 0; what < 6; what++) due.is("count " + what, x.count(what), 0);
        due.is("T", x.count(6), 4);
        due.is("no box", x.at(0, 0), -2);
        due.is("liars", x.liars(0), 0);
    }

    private static void boxes() {
        due.about("2");
        EarField x = new EarField();
        due.is("branch 2", x.box(2, 5), -3);
        due.is("branch -1", x.box(-1, 5), -3);
        due.is("power -1", x.box(0, -1), -3);
        due.is("power 30001", x.box(0, 30001), -3);
        due.is("none was made", x.count(0), 0);
        due.is("dead", x.box(1, 0), 0);
        for (int i = 1; i < 10; i++) due.is("box " + i, x.box(i % 2, 30000), i);
        due.is("an eleventh", x.box(0, 1), -5);
        due.is("OUTSIDE comes ahead of FULL", x.box(2, 1), -3);
        due.is("ten", x.count(0), 10);
        due.is("one of them dead", x.count(1), 9);
    }

    private static void hearing() {
        due.about("3");
        EarField x = Due.chain(3, 9);
        due.is("did not", x.hears(0, 2, true), 0);
        due.is("did", x.hears(0, 2, true), 1);
        due.is("each way for itself", x.hears(2, 0, false), 0);
        due.is("no more", x.hears(0, 2, false), 1);
        due.is("was not", x.hears(0, 2, false), 0);
        due.is("itself", x.hears(1, 1, true), -2);
        due.is("a", x.hears(3, 0, true), -2);
        due.is("b", x.hears(0, 3, true), -2);
        due.is("a below", x.hears(-1, 0, true), -2);
        due.is("b below", x.hears(0, -1, true), -2);
    }

    private static void sleepAndClock() {
        due.about("4");
        EarField x = Due.chain(1, 9);
        due.is("awake at first", x.at(0, 4), 1);
        due.is("p 12", x.sleep(0, 12, 4095), 1);
        due.is("bits 4096", x.sleep(0, 12, 4096), -3);
        due.is("p 0", x.sleep(0, 0, 0), -3);
        due.is("p 13", x.sleep(0, 13, 0), -3);
        due.is("bits -1", x.sleep(0, 3, -1), -3);
        due.is("UNKNOWN first", x.sleep(1, 0, 0), -2);
        due.is("still awake", x.at(0, 4), 1);
        due.is("p 1, asleep", x.sleep(0, 1, 0), 1);
        due.is("asleep", x.at(0, 4), 0);
        due.is("p 3, bit 1", x.sleep(0, 3, 2), 1);
        due.is("at tick 0", x.at(0, 4), 0);
        x.ticks(1);
        due.is("at tick 1", x.at(0, 4), 1);
        x.ticks(1);
        due.is("at tick 2", x.at(0, 4), 0);
        due.about("5");
        due.is("offset", x.clock(0, 0, -4), 1);
        due.is("local hour below 0", x.at(0, 3), -2);
        due.is("-2 modulo 3 is 1", x.at(0, 4), 1);
        due.is("drift 21", x.clock(0, 21, 0), -3);
        due.is("drift -21", x.clock(0, -21, 0), -3);
        due.is("offset 51", x.clock(0, 0, 51), -3);
        due.is("offset -51", x.clock(0, 0, -51), -3);
        due.is("UNKNOWN first", x.clock(-1, 21, 0), -2);
        due.is("nothing changed", x.at(0, 3), -2);
        x.ticks(57);
        due.is("tick", x.count(2), 59);
        x.clock(0, -20, 50);
        due.is("59 - 11 + 50", x.at(0, 3), 98);
        x.clock(0, 20, -50);
        due.is("59 + 11 - 50", x.at(0, 3), 20);
    }

    private static void settings() {
        due.about("6");
        EarField x = new EarField();
        int[] first = {0, 1, 5, 2, 1, 2, 0};
        int[] most = {20, 20, 20, 20, 9, 5, 3};
        for (int what = 0; what < 7; what++) {
            due.is("too much " + what, x.set(what, most[what] + 1), -3);
            due.is("too little " + what, x.set(what, what == 5 ? 0 : -1), -3);
            due.is("first of " + what, x.set(what, most[what]), first[what]);
            due.is("then " + what, x.set(what, 1), most[what]);
        }
        due.is("no 7", x.set(7, 0), -3);
        due.is("no -1", x.set(-1, 0), -3);
        due.is("least reach", x.set(5, 1), 1);
    }

    private static void power() {
        due.about("7");
        EarField x = Due.chain(2, 70);
        due.is("was 70", x.power(1, 30000), 70);
        due.is("was 30000", x.power(1, 0), 30000);
        due.is("dead", x.count(1), 1);
        due.is("asleep when dead", x.at(1, 4), 0);
        due.is("back", x.power(1, 3), 0);
        due.is("alive", x.count(1), 2);
        due.is("too much", x.power(1, 30001), -3);
        due.is("too little", x.power(1, -1), -3);
        due.is("UNKNOWN first", x.power(2, -1), -2);
        due.is("kept", x.at(1, 0), 3);
    }

    private static void at() {
        due.about("8");
        EarField x = Due.chain(3, 70);
        due.is("count of the root", x.at(0, 1), 0);
        due.is("parent of the root", x.at(0, 2), -1);
        due.is("no count", x.at(2, 1), -1);
        due.is("no parent", x.at(2, 2), -1);
        x.rounds(2);
        due.is("count", x.at(2, 1), 2);
        due.is("parent", x.at(2, 2), 1);
        x.say(2, 5);
        due.is("words", x.at(2, 5), 1);
        due.is("no 6", x.at(2, 6), -3);
        due.is("no -1", x.at(2, -1), -3);
        due.is("UNKNOWN first", x.at(3, 6), -2);
        x.power(0, 0);
        due.is("a dead root has no count", x.at(0, 1), -1);
    }

    private static void rounds() {
        due.about("9");
        EarField x = Due.chain(10, 30000);
        due.is("0", x.rounds(0), -3);
        due.is("21", x.rounds(21), -3);
        due.is("nine rings of change", x.rounds(20), 9);
        due.is("the last", x.at(9, 1), 9);
        due.is("nothing more", x.rounds(20), 0);
        // A root out of hearing: counts rise until they are above 9.
        x.hears(0, 1, false);
        due.is("they count on", x.rounds(1), 1);
        due.is("its parent is now behind it", x.at(1, 2), 2);
        due.is("one more than that one had", x.at(1, 1), 3);
        x.rounds(20);
        for (int i = 1; i < 10; i++) {
            due.is("none", x.at(i, 1), -1);
            due.is("no parent", x.at(i, 2), -1);
        }
        // Of two that are as near the least number is the parent.
        EarField y = new EarField();
        for (int i = 0; i < 4; i++) y.box(0, 9);
        Due.link(y, 0, 1);
        Due.link(y, 0, 2);
        Due.link(y, 3, 2);
        Due.link(y, 3, 1);
        due.is("two rounds", y.rounds(3), 2);
        due.is("the least", y.at(3, 2), 1);
        y.hears(1, 3, false);
        due.is("must hear both ways", y.rounds(1), 1);
        due.is("the other one", y.at(3, 2), 2);
        // A nearer one goes ahead of one with a lesser number.
        Due.link(y, 3, 0);
        y.hears(1, 3, true);
        y.rounds(1);
        due.is("home at once", y.at(3, 1), 1);
        due.is("the root", y.at(3, 2), 0);
        // The dead keep what they had, and nobody asks them.
        y.power(3, 0);
        Due.link(y, 3, 0);
        y.hears(3, 0, false);
        due.is("no change for the dead", y.rounds(1), 0);
        due.is("kept", y.at(3, 1), 1);
        y.power(3, 9);
        due.is("back, and away from the root", y.rounds(1), 1);
        due.is("two", y.at(3, 1), 2);
    }

    private static void rings() {
        due.about("10");
        EarField x = Due.chain(3, 30000);
        due.is("none", x.rings(), 0);
        x.rounds(3);
        due.is("a tree", x.rings(), 0);
        x.hears(0, 1, false);
        x.rounds(1);
        due.is("1 and 2 are each the parent of the other", x.rings(), 1);
        x.power(1, 0);
        x.power(2, 0);
        due.is("the dead keep theirs", x.rings(), 1);
        EarField y = new EarField();
        for (int i = 0; i < 7; i++) y.box(1, 100);
        Due.link(y, 0, 1);
        Due.link(y, 1, 2);
        Due.link(y, 0, 3);
        Due.link(y, 3, 4);
        Due.link(y, 2, 5);
        y.rounds(4);
        y.hears(0, 1, false);
        y.hears(0, 3, false);
        y.rounds(1);
        due.is("two rings", y.rings(), 2);
    }

    private static void say() {
        due.about("11");
        EarField x = Due.chain(3, 100);
        due.is("1", x.say(1, 0), 1);
        due.is("2", x.say(1, 999), 2);
        due.is("1000", x.say(1, 1000), -3);
        due.is("-1", x.say(1, -1), -3);
        due.is("UNKNOWN first", x.say(3, -1), -2);
        due.is("OUTSIDE ahead of NOT", x.say(0, -1), -3);
        due.is("the root", x.say(0, 1), -4);
        due.is("3", x.say(1, 3), 3);
        due.is("4", x.say(1, 4), 4);
        due.is("full", x.say(1, 5), -5);
        x.power(1, 0);
        due.is("NOT ahead of FULL", x.say(1, 5), -4);
        due.is("four still", x.at(1, 5), 4);
    }

    private static void ticks() {
        due.about("12");
        EarField x = Due.chain(2, 100);
        due.is("0", x.ticks(0), -3);
        due.is("61", x.ticks(61), -3);
        due.is("60", x.ticks(60), 60);
        due.is("1 each", x.at(0, 0), 40);
        x.set(0, 2);
        x.sleep(0, 2, 2);
        due.is("4 more", x.ticks(4), 64);
        due.is("two asleep for 2, two awake for 1", x.at(0, 0), 34);
        for (int i = 0; i < 148; i++) x.ticks(60);
        due.is("8944", x.count(2), 8944);
        due.is("beyond 9000", x.ticks(57), -3);
        due.is("to 9000", x.ticks(56), 9000);
        due.is("no more", x.ticks(1), -3);
        due.is("spent to 0, not below", x.at(1, 0), 0);
        EarField y = Due.chain(3, 1000);
        y.rounds(2);
        y.say(2, 7);
        y.ticks(1);
        due.is("said: 1 and 5", y.at(2, 0), 994);
        due.is("heard: 1 and 2", y.at(1, 0), 997);
        due.is("heard nothing: 1", y.at(0, 0), 999);
        due.is("handed to its row", y.at(1, 5), 1);
        y.ticks(1);
        due.is("home", y.kept(0), 7);
        due.is("each hears: 1 and 2", y.at(2, 0), 991);
        due.is("hers too", y.at(0, 0), 996);
        // No parent: it never says its word.
        EarField z = Due.chain(2, 100);
        z.say(1, 1);
        z.ticks(5);
        due.is("kept in its row", z.at(1, 5), 1);
        due.is("only awake", z.at(1, 0), 95);
        z.rounds(1);
        z.sleep(1, 1, 0);
        z.ticks(3);
        due.is("says nothing asleep", z.at(1, 5), 1);
    }

    private static void lost() {
        due.about("13");
        EarField x = Due.chain(2, 1000);
        due.is("8", x.lost(8), -3);
        due.is("-1", x.lost(-1), -3);
        x.rounds(1);
        x.say(1, 1);
        x.hears(0, 1, false);
        x.ticks(1);
        due.is("not heard", x.lost(1), 1);
        x.say(1, 2);
        x.sleep(0, 1, 0);
        x.ticks(1);
        due.is("not heard goes ahead of asleep", x.lost(1), 2);
        x.hears(0, 1, true);
        x.say(1, 3);
        x.ticks(1);
        due.is("asleep", x.lost(2), 1);
        x.say(1, 4);
        x.power(0, 0);
        x.hears(0, 1, false);
        x.ticks(1);
        due.is("dead goes ahead of all", x.lost(0), 1);
        due.is("said", x.lost(7), 4);
        due.is("got", x.lost(6), 0);
        // Met: two at once, and one that speaks itself.
        EarField y = new EarField();
        for (int i = 0; i < 4; i++) y.box(1, 1000);
        Due.link(y, 0, 1);
        Due.link(y, 0, 2);
        Due.link(y, 1, 3);
        y.rounds(3);
        y.say(1, 1);
        y.say(2, 2);
        y.ticks(1);
        due.is("two at the root", y.lost(3), 2);
        due.is("the root hears still", y.at(0, 0), 997);
        y.say(1, 1);
        y.say(3, 3);
        y.ticks(1);
        due.is("1 got home", y.lost(6), 1);
        due.is("3 met 1, who spoke", y.lost(3), 3);
        due.is("who speaks hears nothing", y.at(1, 0), 988);
        // A voice for another one disturbs too.
        y.hears(0, 3, true);
        y.hears(1, 3, true);
        y.say(3, 9);
        y.say(2, 8);
        y.ticks(1);
        due.is("2 met 3 at the root", y.lost(3), 4);
        due.is("1 heard 3 alone", y.at(1, 5), 1);
    }

    private static void deadBoxes() {
        due.about("13, 12: what dies");
        // What spends its last in a tick is dead for the steps behind the first.
        EarField y = Due.chain(2, 1);
        y.rounds(1);
        y.say(1, 5);
        y.ticks(1);
        due.is("died before it said anything", y.lost(7), 0);
        due.is("its row", y.at(1, 5), 1);
        EarField z = Due.chain(2, 100);
        z.rounds(1);
        z.power(0, 2);
        z.power(1, 3);
        z.say(1, 5);
        z.ticks(1);
        due.is("says with what is left", z.at(1, 0), 0);
        due.is("hears with what is left", z.at(0, 0), 0);
        due.is("got", z.kept(0), 5);
        due.is("both dead", z.count(1), 0);
        EarField w = Due.chain(2, 100);
        w.rounds(1);
        w.power(0, 1);
        w.say(1, 5);
        w.ticks(1);
        due.is("the root died by step 1", w.lost(0), 1);
    }

    private static void kept() {
        due.about("14");
        EarField x = Due.chain(2, 30000);
        x.rounds(1);
        due.is("nothing", x.kept(0), -1);
        for (int i = 0; i < 14; i++) {
            x.say(1, 100 + i);
            x.ticks(1);
        }
        due.is("the last", x.kept(0), 113);
        due.is("the twelfth", x.kept(11), 102);
        due.is("no more", x.kept(12), -1);
        due.is("far", x.kept(Integer.MAX_VALUE), -1);
        due.is("below 0", x.kept(-1), -3);
        due.is("got", x.lost(6), 14);
    }
}
