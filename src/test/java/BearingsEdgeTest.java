// Promises 26 to 29: each sentence that names a boundary, at it, one step inside and one step outside.
public final class BearingsEdgeTest {
    private static final Due due = new Due();
    private static final Refusal rich = new Refusal(due, Refusal::rich);
    private static final int NO = Integer.MIN_VALUE;
    private static final long ALL = (1L << 36) - 1;

    public static void main(String[] args) {
        factsTold();
        loAndHi();
        twentyFacts();
        hourTold();
        hourOfRoot();
        noBound();
        farAhead();
        canBe();
        loops();
        setsOfM();
        rootNoLiar();
        liarsOfAll();
        leastAndGreatest();
        noSuchSet();
        placeTold();
        cellsTold();
        reachOfEach();
        rowsOfCells();
        heard();
        disagreeAtMost();
        otherBoxes();
        due.end("BearingsEdgeTest");
    }

    private static EarField boxes(int n) {
        EarField x = new EarField();
        for (int b = 0; b < n; b++) x.box(0, 100);
        return x;
    }

    private static void hours(EarField x, String name, int box, int m, int least, int most) {
        due.is(name + ": least", x.hour(box, m, 0), least);
        due.is(name + ": greatest", x.hour(box, m, 1), most);
    }

    private static void factsTold() {
        due.about("26: UNKNOWN: BOXES, a is b");
        EarField x = boxes(10);
        due.is("0 of 0 and 9", x.fact(0, 0, 9, 0, 0), 1);
        due.is("9 of 9 and 0", x.fact(9, 9, 0, 0, 0), 2);
        rich.outside("by", 0, 6, (y, v) -> y.fact(v, 0, 1, 0, 0), -2);
        rich.outside("a", 0, 6, (y, v) -> y.fact(1, v, 3, 0, 0), -2);
        rich.outside("b", 0, 6, (y, v) -> y.fact(1, 3, v, 0, 0), -2);
        for (int b = 0; b < 7; b++) {
            int one = b;
            rich.is("a is b", y -> y.fact(1, one, one, 0, 0), -2);
        }
        rich.is("UNKNOWN ahead of OUTSIDE: by", y -> y.fact(7, 0, 1, 0, 1000), -2);
        rich.is("UNKNOWN ahead of OUTSIDE: a is b", y -> y.fact(1, 1, 1, 5, 4), -2);
        new Refusal(due, () -> boxes(10)).outside("by of ten", 0, 9, (y, v) -> y.fact(v, 0, 1, 0, 0), -2);
    }

    private static void loAndHi() {
        due.about("26: OUTSIDE: -999 .. 999, lo not above hi");
        int[][] spans = {{-999, 999}, {-999, -999}, {-999, -998}, {-998, 998}, {998, 999}, {999, 999}, {-1, 0}, {0, 0}, {0, 1}};
        for (int[] span : spans) {
            EarField x = boxes(2);
            due.is("taken", x.fact(0, 0, 1, span[0], span[1]), 1);
            hours(x, "from " + span[0] + " to " + span[1], 1, 0, span[0], span[1]);
        }
        rich.outside("lo", -999, 999, (y, v) -> y.fact(1, 0, 1, v, 999), -3);
        rich.outside("hi", -999, 999, (y, v) -> y.fact(1, 0, 1, -999, v), -3);
        int[][] turned = {{1, 0}, {0, -1}, {999, 998}, {-998, -999}, {999, -999}};
        for (int[] span : turned) rich.is("lo above hi", y -> y.fact(1, 0, 1, span[0], span[1]), -3);
    }

    private static EarField told(int facts) {
        EarField x = boxes(4);
        for (int i = 1; i <= facts; i++) due.is("fact " + i, x.fact(i % 4, 0, 1, -i, i), i);
        return x;
    }

    private static void twentyFacts() {
        due.about("26: FACTS (20 at most); FULL");
        EarField x = told(19);
        due.is("19", x.count(4), 19);
        due.is("the twentieth counts", x.fact(0, 0, 2, 5, 6), 20);
        hours(x, "by it", 2, 0, 5, 6);
        due.is("20", x.count(4), 20);
        Refusal full = new Refusal(due, () -> told(20));
        full.is("FULL", y -> y.fact(0, 0, 2, 5, 6), -5);
        full.is("OUTSIDE ahead of FULL", y -> y.fact(0, 0, 2, 6, 5), -3);
        full.is("UNKNOWN ahead of FULL", y -> y.fact(0, 2, 2, 5, 6), -2);
    }

    private static void hourTold() {
        due.about("27: The least int: UNKNOWN, OUTSIDE");
        EarField x = boxes(10);
        x.fact(0, 0, 9, 3, 4);
        for (int m = 0; m <= 2; m++) hours(x, "with m " + m, 9, m, 3, 4);
        rich.outside("box", 0, 6, (y, v) -> y.hour(v, 0, 0), NO);
        rich.outside("m", 0, 2, (y, v) -> y.hour(1, v, 0), NO);
        rich.outside("way", 0, 1, (y, v) -> y.hour(1, 2, v), NO);
        new Refusal(due, () -> boxes(10)).outside("box of ten", 0, 9, (y, v) -> y.hour(v, 0, 1), NO);
    }

    private static void hourOfRoot() {
        due.about("27: HOUR of THE ROOT");
        EarField x = boxes(3);
        hours(x, "no FACT", 0, 0, 0, 0);
        x.fact(1, 0, 1, 5, 9);
        hours(x, "its own", 0, 2, 0, 0);
        x.fact(1, 1, 0, -3, -3);
        hours(x, "they cannot be", 0, 0, NO, NO);
        hours(x, "but without 1", 0, 1, 0, 0);
    }

    private static void noBound() {
        due.about("Terms: -9999, 9999, where no bound follows");
        EarField x = boxes(4);
        hours(x, "no FACT", 3, 0, -9999, 9999);
        x.fact(0, 2, 3, 1, 2);
        hours(x, "none that leads to THE ROOT", 3, 0, -9999, 9999);
        x.fact(0, 0, 2, -999, 999);
        hours(x, "then two lead there", 3, 0, -998, 1001);
        // With a liar there may be no bound, though there is one without.
        x.fact(1, 0, 1, 7, 8);
        hours(x, "nobody left out", 1, 0, 7, 8);
        hours(x, "1 left out", 1, 1, -9999, 9999);
    }

    private static void farAhead() {
        due.about("Terms: over as many BOXES as there are");
        for (int sign = -1; sign <= 1; sign += 2) {
            EarField x = boxes(10);
            for (int b = 1; b < 10; b++) x.fact(0, b - 1, b, sign * 999, sign * 999);
            for (int b = 0; b < 10; b++) hours(x, "box " + b, b, 0, sign * 999 * b, sign * 999 * b);
        }
        EarField y = boxes(10);
        for (int b = 1; b < 10; b++) y.fact(0, b, b - 1, -1, 2);
        for (int b = 0; b < 10; b++) hours(y, "told from behind, box " + b, b, 0, -2 * b, b);
        // The nearer way may be the longer one.
        EarField z = boxes(4);
        z.fact(0, 0, 3, -100, 100);
        z.fact(0, 0, 1, 10, 20);
        z.fact(0, 1, 2, 10, 20);
        z.fact(0, 2, 3, 10, 20);
        hours(z, "over two others", 3, 0, 30, 60);
        z.fact(0, 0, 3, 59, 999);
        hours(z, "both ways together", 3, 0, 59, 60);
        hours(z, "and back: 2", 2, 0, 39, 40);
        hours(z, "and back: 1", 1, 0, 19, 20);
    }

    private static void canBe() {
        due.about("Terms: if all others can be");
        int[][] second = {{-9, -1, NO, NO}, {-9, 0, 0, 0}, {-9, 1, 0, 1}, {4, 9, 4, 5}, {5, 9, 5, 5}, {6, 9, NO, NO}};
        for (int[] s : second) {
            EarField x = boxes(2);
            x.fact(0, 0, 1, 0, 5);
            x.fact(0, 0, 1, s[0], s[1]);
            hours(x, s[0] + " to " + s[1], 1, 0, s[2], s[3]);
            EarField y = boxes(2);
            y.fact(0, 0, 1, 0, 5);
            y.fact(0, 1, 0, -s[1], -s[0]);
            hours(y, "told the other way round", 1, 0, s[2], s[3]);
        }
        // What cannot be far from THE ROOT cannot be at all.
        EarField z = boxes(4);
        z.fact(0, 0, 1, 3, 3);
        z.fact(0, 2, 3, 0, 0);
        hours(z, "can be", 1, 0, 3, 3);
        z.fact(0, 3, 2, 1, 1);
        hours(z, "cannot", 1, 0, NO, NO);
    }

    private static void loops() {
        due.about("Terms: around all BOXES");
        for (int more = -1; more <= 1; more++) {
            EarField x = boxes(10);
            for (int b = 1; b < 10; b++) x.fact(0, b - 1, b, 1, 1);
            x.fact(0, 9, 0, -999, -9 + more);
            hours(x, "back by -9 and " + more, 9, 0, more < 0 ? NO : 9, more < 0 ? NO : 9);
            EarField y = boxes(10);
            for (int b = 1; b < 10; b++) y.fact(0, b - 1, b, 1, 1);
            y.fact(0, 9, 0, -9 + more, 999);
            hours(y, "back by at least -9 and " + more, 9, 0, more > 0 ? NO : 9, more > 0 ? NO : 9);
        }
    }

    private static void setsOfM() {
        due.about("Terms: for each set of m BOXES or fewer, whose FACTS are left out");
        // 1, 2, 3 tell closer and closer; each that is left out widens.
        EarField x = boxes(10);
        x.fact(9, 0, 5, -40, 40);
        x.fact(1, 0, 5, -30, 30);
        x.fact(2, 0, 5, -20, 20);
        x.fact(3, 0, 5, -10, 10);
        hours(x, "none", 5, 0, -10, 10);
        hours(x, "one", 5, 1, -20, 20);
        hours(x, "two", 5, 2, -30, 30);
        // All FACTS of one are left out, and its FACTS of others too.
        EarField y = boxes(10);
        y.fact(9, 0, 5, 5, 5);
        y.fact(9, 0, 6, 6, 6);
        y.fact(9, 6, 5, -1, -1);
        hours(y, "9 left out", 5, 1, -9999, 9999);
        y.fact(8, 0, 5, 4, 7);
        hours(y, "8 tells too", 5, 1, 4, 7);
        hours(y, "both left out", 5, 2, -9999, 9999);
    }

    private static void rootNoLiar() {
        due.about("Terms: (without THE ROOT)");
        EarField x = boxes(4);
        x.fact(0, 0, 1, 3, 4);
        for (int m = 0; m <= 2; m++) hours(x, "THE ROOT's FACT with m " + m, 1, m, 3, 4);
        x.fact(0, 0, 1, 5, 6);
        for (int m = 0; m <= 2; m++) hours(x, "THE ROOT against itself with m " + m, 1, m, NO, NO);
    }

    private static void liarsOfAll() {
        due.about("Terms: with m LIARS (0 .. 2)");
        // So many FACTS against one another, each by another BOX: all but one must be left out.
        for (int tellers = 1; tellers <= 4; tellers++) {
            EarField x = boxes(10);
            for (int i = 0; i < tellers; i++) x.fact(9 - i, 0, 1, 10 * i, 10 * i);
            for (int m = 0; m <= 2; m++) {
                boolean can = m >= tellers - 1;
                boolean none = m >= tellers;
                int most = none ? 9999 : can ? 10 * (tellers - 1) : NO;
                hours(x, tellers + " tellers, m " + m, 1, m, none ? -9999 : can ? 0 : NO, most);
            }
        }
    }

    private static void leastAndGreatest() {
        due.about("Terms: of all such sets the least and the greatest");
        EarField x = boxes(5);
        x.fact(1, 0, 4, 0, 10);
        x.fact(2, 0, 4, 8, 20);
        x.fact(3, 0, 4, -5, 9);
        hours(x, "none", 4, 0, 8, 9);
        hours(x, "without 2: -5 or 0; without 3: 10", 4, 1, 0, 10);
        hours(x, "without 1 and 2, without 1 and 3", 4, 2, -5, 20);
    }

    private static EarField quarrel() {
        EarField x = boxes(3);
        x.fact(0, 0, 1, 3, 4);
        x.fact(0, 0, 1, 5, 6);
        return x;
    }

    private static void noSuchSet() {
        due.about("27: NOT: no such set can be");
        Refusal none = new Refusal(due, BearingsEdgeTest::quarrel);
        for (int m = 0; m <= 2; m++) {
            int liars = m;
            none.is("least, m " + m, y -> y.hour(1, liars, 0), NO);
            none.is("greatest, m " + m, y -> y.hour(1, liars, 1), NO);
            none.is("of THE ROOT", y -> y.hour(0, liars, 0), NO);
            none.is("of one that nobody told of", y -> y.hour(2, liars, 1), NO);
        }
    }

    private static void placeTold() {
        due.about("28: PLACE of a BOX (36: none)");
        EarField x = boxes(10);
        int was = 36;
        for (int cell : new int[] {0, 1, 34, 35, 36, 0, 36}) {
            due.is("to " + cell, x.place(9, cell), was);
            was = cell;
        }
        due.is("another box", x.place(8, 5), 36);
        rich.outside("cell", 0, 36, (y, v) -> y.place(1, v), -3);
        rich.outside("box", 0, 6, (y, v) -> y.place(v, 5), -2);
        rich.is("UNKNOWN ahead of OUTSIDE", y -> y.place(7, 37), -2);
    }

    private static void cellsTold() {
        due.about("29: -2 UNKNOWN; -3 OUTSIDE");
        EarField x = boxes(10);
        for (int m = 0; m <= 2; m++) due.is("no PLACES, m " + m, x.cells(9, m), ALL);
        rich.outside("box", 0, 6, (y, v) -> y.cells(v, 0), -2);
        rich.outside("m", 0, 2, (y, v) -> y.cells(1, v), -3);
        rich.is("UNKNOWN ahead of OUTSIDE", y -> y.cells(7, 3), -2);
    }

    // The CELLS within so many squares of one.
    private static long around(int cell, int squares) {
        long set = 0;
        for (int c = 0; c < 36; c++) {
            int x = c % 6 - cell % 6;
            int y = c / 6 - cell / 6;
            if (x * x + y * y <= squares) set |= 1L << c;
        }
        return set;
    }

    private static void reachOfEach() {
        due.about("Terms: REACH (1 .. 5; 2 at first); REACH times REACH at most");
        long[] fromCorner = {0x43L, 0x10c7L, 0x471cfL};
        EarField x = boxes(2);
        x.place(0, 0);
        x.hears(1, 0, true);
        due.is("2 at first", x.cells(1, 0), fromCorner[1]);
        for (int reach = 1; reach <= 5; reach++) {
            x.set(5, reach);
            if (reach <= 3) due.is("REACH " + reach, x.cells(1, 0), fromCorner[reach - 1]);
            for (int cell = 0; cell < 36; cell++) {
                x.place(0, cell);
                due.is("REACH " + reach + " of " + cell, x.cells(1, 0), around(cell, reach * reach));
            }
            x.place(0, 0);
        }
        // 3 and 4 make 5; 4 and 4 do not; 5 and 0 do; 5 and 1 do not.
        int[] in = {27, 22, 5, 30, 0};
        int[] out = {28, 29, 11, 31, 35};
        for (int cell : in) due.is("in " + cell, x.cells(1, 0) >> cell & 1, 1);
        for (int cell : out) due.is("out " + cell, x.cells(1, 0) >> cell & 1, 0);
        // 2 and 0 make 2; 1 and 1 do; 2 and 1 do not.
        x.set(5, 2);
        due.is("2 and 0", x.cells(1, 0) >> 2 & 1, 1);
        due.is("0 and 2", x.cells(1, 0) >> 12 & 1, 1);
        due.is("1 and 1", x.cells(1, 0) >> 7 & 1, 1);
        due.is("2 and 1", x.cells(1, 0) >> 8 & 1, 0);
        due.is("1 and 2", x.cells(1, 0) >> 13 & 1, 0);
        due.is("3 and 0", x.cells(1, 0) >> 3 & 1, 0);
    }

    private static void rowsOfCells() {
        due.about("Terms: CELLS are 0 .. 35 (6 y + x): the end of one row is not beside the next");
        EarField x = boxes(2);
        x.set(5, 1);
        x.hears(1, 0, true);
        for (int y = 0; y < 5; y++) {
            x.place(0, 6 * y + 5);
            due.is("end of row " + y, x.cells(1, 0) >> 6 * y + 6 & 1, 0);
            due.is("below it", x.cells(1, 0) >> 6 * y + 11 & 1, 1);
            x.place(0, 6 * y + 6);
            due.is("beginning of row " + (y + 1), x.cells(1, 0) >> 6 * y + 5 & 1, 0);
            due.is("above it", x.cells(1, 0) >> 6 * y & 1, 1);
        }
        x.place(0, 0);
        due.is("0", x.cells(1, 0), 0x43L);
        x.place(0, 35);
        due.is("35", x.cells(1, 0), 1L << 35 | 1L << 34 | 1L << 29);
    }

    private static void heard() {
        due.about("Terms: one agrees, if it or the BOX HEARS the other just when they are within REACH");
        long near = around(14, 4);
        for (int hears = 0; hears < 4; hears++) {
            EarField x = boxes(2);
            x.place(0, 14);
            x.hears(0, 1, (hears & 1) == 1);
            x.hears(1, 0, (hears & 2) == 2);
            due.is("hearing " + hears, x.cells(1, 0), hears == 0 ? ALL & ~near : near);
        }
    }

    private static void disagreeAtMost() {
        due.about("Terms: CELLS c for which at most m other BOXES with a PLACE do not agree");
        // All that are placed are out of hearing, and in one CELL: near it so many do not agree.
        for (int placed = 0; placed <= 4; placed++) {
            EarField x = boxes(6);
            for (int b = 0; b < placed; b++) x.place(b, 14);
            for (int m = 0; m <= 2; m++) {
                due.is(placed + " placed, m " + m, x.cells(5, m), placed <= m ? ALL : ALL & ~around(14, 4));
            }
        }
        // Some hear it and some do not: each CELL has some against it.
        for (int heard = 0; heard <= 4; heard++) {
            EarField x = boxes(6);
            for (int b = 0; b < 4; b++) x.place(b, 14);
            for (int b = 0; b < heard; b++) x.hears(b, 5, true);
            for (int m = 0; m <= 2; m++) {
                long in = 4 - heard <= m ? around(14, 4) : 0;
                long out = heard <= m ? ALL & ~around(14, 4) : 0;
                due.is(heard + " of 4 hear it, m " + m, x.cells(5, m), in | out);
            }
        }
    }

    private static void otherBoxes() {
        due.about("Terms: other BOXES with a PLACE");
        EarField x = boxes(3);
        x.place(1, 14);
        due.is("its own PLACE does not matter", x.cells(1, 0), ALL);
        x.place(0, 36);
        x.hears(1, 0, true);
        due.is("one without a PLACE does not", x.cells(1, 0), ALL);
        x.place(0, 0);
        due.is("one with PLACE 0 does", x.cells(1, 0), around(0, 4));
        x.place(0, 35);
        due.is("or 35", x.cells(1, 0), around(35, 4));
        x.power(0, 0);
        due.is("a DEAD one does", x.cells(1, 0), around(35, 4));
    }
}
