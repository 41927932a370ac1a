// Promises 22 to 25.
public final class PowerTest {
    private static final Due due = new Due();

    public static void main(String[] args) {
        foretold();
        life();
        longest();
        dead();
        due.end("PowerTest");
    }

    private static void foretold() {
        due.about("22");
        EarField x = Due.chain(3, 100);
        due.is("0", x.foretold(0, 0), 0);
        due.is("10 awake", x.foretold(0, 10), 10);
        due.is("1000", x.foretold(0, 1000), 1000);
        due.is("1001", x.foretold(0, 1001), -3);
        due.is("-1", x.foretold(0, -1), -3);
        due.is("UNKNOWN first", x.foretold(3, -1), -2);
        x.sleep(0, 4, 1);
        x.set(0, 2);
        due.is("3 awake, 7 asleep", x.foretold(0, 10), 3 + 14);
        x.ticks(1);
        due.is("from now on: 2 awake, 8 asleep", x.foretold(0, 10), 2 + 16);
        x.rounds(2);
        due.is("no question", x.foretold(1, 10), 10);
        Due.ask(x, "count every 4");
        due.is("ticks 4 and 8: say, and hear one", x.foretold(1, 10), 10 + 2 * 7);
        due.is("the leaf", x.foretold(2, 10), 10 + 2 * 5);
        due.is("the root", x.foretold(0, 10), 18 + 2 * 2);
        x.power(1, 0);
        due.is("power does not matter", x.foretold(1, 10), 24);
        due.is("a dead child is one still", x.foretold(0, 10), 22);
    }

    private static void life() {
        due.about("23");
        EarField x = Due.chain(2, 100);
        due.is("100", x.life(0), 100);
        x.power(0, 1001);
        due.is("1000 at most", x.life(0), 1000);
        x.power(0, 999);
        due.is("999", x.life(0), 999);
        x.rounds(1);
        Due.ask(x, "count every 10");
        due.is("15 for each ten, then 6, and four more", x.life(1), 65);
        x.set(1, 0);
        x.set(2, 0);
        due.is("nothing to spend", x.life(1), 1000);
        x.power(1, 0);
        due.is("even with nothing", x.life(1), 1000);
        x.set(1, 1);
        due.is("nothing left", x.life(1), 0);
        x.sleep(1, 12, 1024);
        due.is("ten ticks asleep for 0", x.life(1), 10);
        due.is("UNKNOWN", x.life(2), -2);
        due.is("UNKNOWN below", x.life(-1), -2);
    }

    private static void longest() {
        due.about("24, 25");
        EarField x = new EarField();
        due.is("no box", x.longest(), -1);
        due.is("UNKNOWN", x.best(0), -2);
        x.box(0, 1000);
        x.box(1, 300);
        x.box(1, 300);
        for (int i = 0; i < 3; i++) x.box(0, 1000);
        for (int i = 1; i < 3; i++) {
            Due.link(x, 0, i);
            for (int leaf = 3; leaf < 6; leaf++) Due.link(x, i, leaf);
        }
        Due.ask(x, "count every 1");
        // With one child: 8 a tick; with two: 10; with three: 12.
        due.is("two children for one of them", x.longest(), 30);
        due.is("first: 3 and 4 to 1", x.best(3), 1);
        due.is("4 to 1", x.best(4), 1);
        due.is("5 to 2", x.best(5), 2);
        due.is("the root", x.best(0), -1);
        due.is("1 home", x.best(1), 0);
        due.is("what rounds made is another thing", x.at(3, 2), -1);
        x.power(1, 200);
        due.is("25 each", x.longest(), 25);
        due.is("1 takes one", x.best(3), 1);
        due.is("2 the second", x.best(4), 2);
        due.is("2 the third", x.best(5), 2);
        x.hears(2, 5, false);
        due.is("both ways only", x.longest(), 25);
        due.is("5 to 1", x.best(5), 1);
        due.is("3 to 2", x.best(3), 2);
        x.power(2, 0);
        due.is("200 over 12", x.longest(), 16);
        due.is("the dead have none", x.best(2), -1);
        due.is("all to 1", x.best(4), 1);
        due.is("UNKNOWN", x.best(6), -2);
        due.is("UNKNOWN below", x.best(-1), -2);
    }

    private static void dead() {
        due.about("24, 25: no way home");
        EarField x = Due.chain(3, 500);
        x.rounds(2);
        Due.ask(x, "count every 1");
        x.power(2, 90);
        due.is("2: 6 a tick", x.longest(), 15);
        x.hears(1, 2, false);
        due.is("2 is out of hearing: 1 a tick; 1: 6 a tick", x.longest(), 83);
        due.is("no parent", x.best(2), -1);
        x.power(0, 0);
        due.is("no root: 1 a tick for all", x.longest(), 90);
        due.is("no parents", x.best(1), -1);
        x.power(1, 0);
        x.power(2, 0);
        due.is("all dead", x.longest(), -1);
        due.is("none", x.best(1), -1);
    }
}
