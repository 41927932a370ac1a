// Promises 15 to 21.
public final class QuestionsTest {
    private static final Due due = new Due();

    public static void main(String[] args) {
        write();
        faults();
        ask();
        loudAndLies();
        results();
        conds();
        sums();
        late();
        rowsOfSums();
        lastInRow();
        due.end("QuestionsTest");
    }

    private static void write() {
        due.about("15, 16");
        EarField x = new EarField();
        due.is("0", x.write(1, 0), -3);
        due.is("9", x.write(1, 9), -3);
        for (int i = 1; i <= 14; i++) due.is("8 more", x.write(-1L, 8), 8 * i);
        due.is("7 more", x.write(-1L, 7), 119);
        due.is("2 are too many", x.write(-1L, 2), -5);
        due.is("OUTSIDE ahead of FULL", x.write(-1L, 9), -3);
        due.is("1 more", x.write(-1L, 1), 120);
        due.is("full", x.write(-1L, 1), -5);
        due.is("bytes", x.count(3), 120);
        due.is("erased", x.erase(), 120);
        due.is("erased again", x.erase(), 0);
        due.is("none", x.count(3), 0);
        // Only n bytes count, from the lowest on.
        due.is("count", x.write(0x7fff2020746e756fL << 8 | 'c', 6), 6);
        Due.write(x, "every 7");
        due.is("asked", x.ask(), 7);
    }

    private static void fault(String text, int place) {
        EarField x = new EarField();
        Due.write(x, text);
        due.is("fault of '" + text + "'", x.fault(), place);
        due.is("its bytes stay", x.count(3), text.length());
        if (place >= 0) due.is("not asked: '" + text + "'", x.ask(), -4);
        if (place >= 0) due.is("bytes stay then too", x.count(3), text.length());
    }

    private static void faults() {
        due.about("17");
        fault("", 0);
        fault("   ", 3);
        fault("least loud every 1", -1);
        fault("most loud every 60", -1);
        fault("mean loud every 09", -1);
        fault("  count   every  5  ", -1);
        fault("count every 0", 12);
        fault("count every 00", 12);
        fault("count every 61", 12);
        fault("count every 007", 12);
        fault("count every", 11);
        fault("count every ", 12);
        fault("count every 5 5", 14);
        fault("count every 5x", 13);
        fault("count loud every 5", 6);
        fault("least every 5", 6);
        fault("leastloud every 5", 0);
        fault("Least loud every 5", 0);
        fault("least Loud every 5", 6);
        fault("least loud, every 5", 10);
        fault("least loud\tevery 5", 10);
        fault("least loud where every 5", 17);
        fault("count where loud above 3 every 5", -1);
        fault("count where box below 99 every 5", -1);
        fault("count where box below 100 every 5", 22);
        fault("count where box below every 5", 22);
        fault("count where box 3 every 5", 16);
        fault("count where mean above 3 every 5", 12);
        fault("count where loud above 3 loud above 3 every 5", 25);
        fault("count where loud above 3 and every 5", 29);
        fault("count where loud above 3 and loud below 5 every 5", -1);
        fault("count and loud above 3 every 5", 6);
        fault("count where loud above 3 where loud above 3 every 5", 25);
        fault("count where loud above 3", 24);
        fault("count where loud above", 22);
        fault("count where loud above -3 every 5", 23);
        fault("12 every 5", 0);
        fault("every 5", 0);
        fault("where loud above 3 every 5", 0);
        fault("loud every 5", 0);
        fault("count where every 5", 12);
        fault("count where loud every 5", 17);
        fault("count where box 3 every 5", 16);
        fault("count where above 3 every 5", 12);
        fault("count where loud above 3 box above 3 every 5", 25);
        fault("count where loud above 3 and and every 5", 29);
        fault("count every 5 every 5", 14);
        fault("\u00e9count every 5", 0);
        fault("count every 5\u0000", 13);
        // Tokens are rows of one kind: no blank must stand between unlike ones.
        fault("count where box above3and box below7every5", -1);
        // Seven conds fit into 120 bytes with all that must stand about them; eight fill them.
        StringBuilder conds = new StringBuilder("count where box above0");
        for (int i = 1; i < 7; i++) conds.append("and box above0");
        fault(conds + "every1", -1);
        fault(conds + "and box above0", 120);
        fault(conds + "and box abov", 114);
    }

    private static void ask() {
        due.about("18");
        EarField x = new EarField();
        due.is("nothing asked", x.result(0), -4);
        due.is("no text", x.ask(), -4);
        due.is("every", Due.ask(x, "count every 13"), 13);
        due.is("empty then", x.count(3), 0);
        due.is("asked", x.result(5), 0);
        due.is("a fault leaves it", Due.ask(x, "count every"), -4);
        due.is("asked still", x.result(6), 1);
        // A new question ends sums, the result and what was asked.
        EarField y = Due.chain(3, 1000);
        y.rounds(2);
        y.set(4, 9);
        for (int i = 0; i < 3; i++) y.loud(i, 0, 5);
        Due.ask(y, "count every 50");
        y.ticks(1);
        due.is("the root's own, and 2 on its way", y.result(5), 1);
        Due.ask(y, "most loud every 50");
        due.is("no result", y.result(5), -1);
        y.ticks(30);
        due.is("no sums", y.lost(7), 1);
        due.is("none late", y.lost(5), 0);
        due.is("no result yet", y.result(2), 0);
        y.ticks(20);
        due.is("an epoch at 50, but nothing is known of hour 2", y.result(2), 0);
        // Words stay in rows when sums go.
        EarField z = Due.chain(3, 1000);
        z.rounds(2);
        z.set(4, 0);
        for (int i = 0; i < 3; i++) z.loud(i, 0, 5);
        z.say(2, 1);
        z.say(2, 2);
        Due.ask(z, "count every 60");
        z.ticks(1);
        due.is("a word and a sum", z.at(2, 5), 2);
        Due.ask(z, "count every 60");
        due.is("the word", z.at(2, 5), 1);
    }

    private static void loudAndLies() {
        due.about("19");
        EarField x = Due.chain(1, 1000);
        due.is("not known", x.loud(0, 23, 15), 16);
        due.is("was 15", x.loud(0, 23, 16), 15);
        due.is("was 16", x.loud(0, 23, 0), 16);
        due.is("other hours", x.loud(0, 0, 0), 16);
        due.is("hour 24", x.loud(0, 24, 0), -3);
        due.is("hour -1", x.loud(0, -1, 0), -3);
        due.is("v 17", x.loud(0, 0, 17), -3);
        due.is("v -1", x.loud(0, 0, -1), -3);
        due.is("UNKNOWN first", x.loud(1, -1, 0), -2);
        due.about("20");
        due.is("none", x.lies(0, 15), 16);
        due.is("was 15", x.lies(0, 16), 15);
        due.is("v 17", x.lies(0, 17), -3);
        due.is("v -1", x.lies(0, -1), -3);
        due.is("UNKNOWN first", x.lies(1, 17), -2);
        // A liar lies of what was heard; whether it meets the question is by what was heard.
        EarField y = Due.chain(1, 1000);
        y.loud(0, 0, 9);
        y.lies(0, 2);
        Due.ask(y, "most loud where loud above 5 every 24");
        y.ticks(1);
        due.is("it lies", y.result(5), 2);
        y.lies(0, 12);
        y.loud(0, 0, 3);
        y.ticks(24);
        due.is("does not meet", y.result(5), -1);
        y.loud(0, 0, 16);
        Due.ask(y, "count every 24");
        y.ticks(24);
        due.is("nothing known: nothing told", y.result(5), 0);
    }

    private static void results() {
        due.about("21");
        EarField x = new EarField();
        due.is("OUTSIDE first", x.result(7), -3);
        due.is("-1", x.result(-1), -3);
        due.is("NOT", x.result(6), -4);
        String[] aims = {"least loud", "most loud", "mean loud", "count"};
        int[] above = {3, 9, 20, 3};
        int[] below = {1, 1, 3, 1};
        for (int k = 0; k < 4; k++) {
            EarField y = Due.chain(3, 1000);
            y.rounds(2);
            y.loud(0, 0, 8);
            y.loud(1, 0, 3);
            y.loud(2, 0, 9);
            due.is("ask", Due.ask(y, aims[k] + " every 24"), 24);
            for (int what = 0; what < 7; what++) {
                due.is(aims[k] + " ahead " + what, y.result(what), what < 2 ? -1 : what < 5 ? 0 : k < 3 ? -1 : what == 5 ? 0 : 1);
            }
            y.ticks(4);
            due.is("least", y.result(0), 3);
            due.is("most", y.result(1), 9);
            due.is("how many", y.result(2), 3);
            due.is("all together", y.result(3), 20);
            due.is("of whom", y.result(4), 7);
            due.is(aims[k], y.result(5), above[k]);
            due.is(aims[k] + " below", y.result(6), below[k]);
        }
        EarField z = Due.chain(2, 1000);
        z.rounds(1);
        z.loud(0, 0, 4);
        z.loud(1, 0, 2);
        Due.ask(z, "mean loud every 24");
        z.ticks(3);
        due.is("lowest terms", z.result(5), 3);
        due.is("lowest terms below", z.result(6), 1);
        z.loud(0, 0, 0);
        z.loud(1, 0, 0);
        z.ticks(24);
        due.is("0", z.result(5), 0);
        due.is("of 1", z.result(6), 1);
    }

    private static void conds() {
        due.about("18, 21: who meets it");
        String[] texts = {"loud above 4", "loud below 5", "box above 1", "box below 2", "loud above 2 and box above 0",
            "loud above 15", "loud below 99 and loud above 0 and box below 3 and box above 0"};
        int[] whom = {14, 3, 12, 3, 14, 0, 6};
        for (int k = 0; k < texts.length; k++) {
            EarField x = new EarField();
            for (int i = 0; i < 4; i++) {
                x.box(1, 1000);
                x.loud(i, 0, 3 + i);
            }
            if (k == 0) x.loud(1, 0, 5);
            Due.link(x, 0, 1);
            Due.link(x, 1, 2);
            Due.link(x, 2, 3);
            x.rounds(3);
            Due.ask(x, "count where " + texts[k] + " every 24");
            x.ticks(6);
            due.is(texts[k], x.result(4), whom[k]);
        }
    }

    private static void sums() {
        due.about("12, 18: sums on the way home");
        EarField x = Due.chain(4, 1000);
        x.rounds(3);
        for (int i = 0; i < 4; i++) for (int h = 0; h < 24; h++) x.loud(i, h, i + 1);
        Due.ask(x, "count every 30");
        x.ticks(1);
        due.is("3 says at once, to 2", x.lost(7), 1);
        x.ticks(2);
        due.is("then 2, then 1", x.lost(7), 3);
        due.is("all are home", x.result(4), 15);
        due.is("one sum got home", x.lost(6), 1);
        // Without holding all say at once, and meet.
        EarField y = Due.chain(4, 1000);
        y.rounds(3);
        y.set(4, 0);
        for (int i = 0; i < 4; i++) y.loud(i, 0, i + 1);
        Due.ask(y, "count every 30");
        y.ticks(1);
        due.is("all three", y.lost(7), 3);
        due.is("1 is home", y.result(4), 3);
        due.is("two met", y.lost(3), 2);
        // A long hold.
        EarField z = Due.chain(3, 1000);
        z.rounds(2);
        z.set(4, 9);
        for (int i = 0; i < 3; i++) z.loud(i, 0, i + 1);
        Due.ask(z, "count every 30");
        z.ticks(9);
        due.is("1 holds", z.lost(7), 1);
        z.ticks(1);
        due.is("1 says at tick 9", z.lost(7), 2);
        due.is("home", z.result(4), 7);
        z.ticks(25);
        due.is("a new epoch at tick 30", z.result(4), 0);
        // A leaf joins nothing: it hands on.
        EarField w = new EarField();
        for (int i = 0; i < 3; i++) w.box(0, 1000);
        Due.link(w, 0, 1);
        Due.link(w, 1, 2);
        w.rounds(2);
        for (int i = 0; i < 3; i++) for (int h = 0; h < 24; h++) w.loud(i, h, i + 1);
        Due.ask(w, "count every 5");
        w.ticks(1);
        due.is("2's sum in 1's row", w.at(1, 5), 1);
        w.ticks(2);
        due.is("two sums got home", w.lost(6), 2);
        due.is("each once", w.result(2), 3);
        due.is("all", w.result(3), 6);
        for (int epoch = 2; epoch < 6; epoch++) {
            w.ticks(5);
            due.is("each once in epoch " + epoch, w.result(4), 7);
            due.is("all in epoch " + epoch, w.result(3), 6);
        }
        // A branch whose sum was said hands on, too.
        EarField v = Due.chain(3, 1000);
        v.rounds(2);
        v.set(4, 0);
        v.sleep(2, 2, 1);
        for (int i = 0; i < 3; i++) v.loud(i, 0, i + 1);
        v.say(2, 77);
        Due.ask(v, "count every 30");
        v.ticks(1);
        due.is("1 said its own; 2 its word", v.result(4), 3);
        v.ticks(2);
        due.is("2's sum lies in 1's row", v.at(1, 5), 1);
        v.ticks(1);
        due.is("and gets home", v.result(4), 7);
        // Who sleeps as the epoch begins tells nothing, but joins what comes.
        EarField u = Due.chain(3, 1000);
        u.rounds(2);
        for (int i = 0; i < 3; i++) u.loud(i, 0, i + 1);
        u.sleep(1, 2, 2);
        Due.ask(u, "count every 30");
        u.ticks(1);
        due.is("2 said it to one asleep", u.lost(2), 1);
        u.ticks(10);
        due.is("the root alone", u.result(4), 1);
    }

    private static void late() {
        due.about("13: late");
        EarField x = Due.chain(3, 1000);
        for (int h = 0; h < 24; h++) for (int i = 0; i < 3; i++) x.loud(i, h, 5);
        Due.ask(x, "count every 2");
        x.ticks(2);
        due.is("none yet", x.lost(5), 0);
        x.ticks(1);
        due.is("no parents: two late, the root's is not", x.lost(5), 2);
        x.ticks(2);
        due.is("and two more", x.lost(5), 4);
        // Those in rows too, and of the dead.
        EarField y = Due.chain(2, 1000);
        y.rounds(1);
        y.say(1, 1);
        y.say(1, 2);
        y.say(1, 3);
        for (int h = 0; h < 24; h++) y.loud(1, h, 5);
        Due.ask(y, "count every 2");
        y.ticks(2);
        due.is("a word and the sum are left", y.at(1, 5), 2);
        y.ticks(1);
        due.is("the old sum is late", y.lost(5), 1);
        due.is("the new one stands there", y.at(1, 5), 1);
        y.power(1, 0);
        y.ticks(2);
        due.is("the sum of a dead one is late", y.lost(5), 2);
        due.is("and gone", y.at(1, 5), 0);
    }

    private static void rowsOfSums() {
        due.about("12: full rows");
        EarField x = Due.chain(2, 1000);
        for (int i = 0; i < 4; i++) x.say(1, i);
        x.rounds(1);
        x.loud(1, 0, 5);
        Due.ask(x, "most loud every 24");
        x.ticks(1);
        due.is("no room for the sum: three words", x.at(1, 5), 3);
        x.ticks(1);
        due.is("then it comes to the end", x.at(1, 5), 3);
        x.ticks(3);
        due.is("home", x.result(5), 5);
        due.is("words first", x.kept(0), 3);
        // A row that is full loses what it gets.
        EarField z = stray(4);
        z.say(2, 50);
        due.is("four in the row", z.at(1, 5), 4);
        z.ticks(1);
        due.is("lost by a full row", z.lost(4), 1);
        due.is("four still", z.at(1, 5), 4);
        due.is("not got", z.lost(6), 0);
        due.is("not met", z.lost(3), 0);
    }

    // A sum at the very end of a row is late as well.
    private static void lastInRow() {
        due.about("13: late at the end of a row");
        EarField y = stray(3);
        for (int h = 0; h < 24; h++) y.loud(2, h, 5);
        Due.ask(y, "count every 10");
        y.ticks(1);
        due.is("three words and a sum", y.at(1, 5), 4);
        due.is("2 told all it had", y.at(2, 5), 0);
        y.ticks(9);
        due.is("none late yet", y.lost(5), 0);
        y.ticks(1);
        due.is("the sum is late", y.lost(5), 1);
        due.is("and the next one is there", y.at(1, 5), 4);
    }

    // Box 1 hears its child 2, has no parent itself, and so many words in its row.
    private static EarField stray(int words) {
        EarField z = new EarField();
        for (int i = 0; i < 3; i++) z.box(0, 1000);
        Due.link(z, 0, 1);
        Due.link(z, 1, 2);
        z.rounds(2);
        z.power(2, 0);
        z.hears(0, 1, false);
        z.rounds(1);
        z.power(2, 1000);
        for (int i = 0; i < words; i++) z.say(1, i);
        return z;
    }
}
