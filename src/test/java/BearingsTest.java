// Promises 26 to 29.
public final class BearingsTest {
    private static final Due due = new Due();
    private static final int NO = Integer.MIN_VALUE;

    public static void main(String[] args) {
        facts();
        hours();
        liars();
        places();
        due.end("BearingsTest");
    }

    private static void facts() {
        due.about("26");
        EarField x = Due.chain(3, 0);
        due.is("the first", x.fact(0, 1, 2, -999, 999), 1);
        due.is("one value", x.fact(0, 1, 2, 5, 5), 2);
        due.is("lo above hi", x.fact(0, 1, 2, 6, 5), -3);
        due.is("lo", x.fact(0, 1, 2, -1000, 5), -3);
        due.is("hi", x.fact(0, 1, 2, 5, 1000), -3);
        due.is("a is b", x.fact(0, 1, 1, 6, 5), -2);
        due.is("by", x.fact(3, 1, 2, 6, 5), -2);
        due.is("a", x.fact(0, 3, 2, 6, 5), -2);
        due.is("b", x.fact(0, 1, -1, 6, 5), -2);
        for (int i = 3; i <= 20; i++) due.is("more", x.fact(0, 0, 1, -i, i), i);
        due.is("full", x.fact(0, 0, 1, 0, 0), -5);
        due.is("OUTSIDE ahead of FULL", x.fact(0, 0, 1, 1, 0), -3);
        due.is("20", x.count(4), 20);
    }

    private static void hours() {
        due.about("27");
        EarField x = Due.chain(4, 0);
        due.is("the root itself", x.hour(0, 0, 0), 0);
        due.is("no bound", x.hour(1, 0, 0), -9999);
        due.is("no bound above", x.hour(1, 0, 1), 9999);
        due.is("no such box", x.hour(4, 0, 0), NO);
        due.is("m -1", x.hour(1, -1, 0), NO);
        due.is("m 3", x.hour(1, 3, 0), NO);
        due.is("way -1", x.hour(1, 0, -1), NO);
        due.is("way 2", x.hour(1, 0, 2), NO);
        x.fact(0, 1, 0, -5, -3);
        due.is("told the other way round", x.hour(1, 0, 0), 3);
        due.is("at most", x.hour(1, 0, 1), 5);
        x.fact(0, 1, 2, 999, 999);
        x.fact(0, 2, 3, 999, 999);
        due.is("over two others", x.hour(3, 0, 0), 2001);
        due.is("at most", x.hour(3, 0, 1), 2003);
        x.fact(0, 0, 3, 2003, 999);
        x.fact(0, 3, 1, -999, -999);
        due.is("they cannot all be", x.hour(3, 0, 0), NO);
        due.is("the root's facts stay", x.hour(3, 2, 0), NO);
        due.is("and so of all", x.hour(0, 2, 1), NO);
        EarField y = Due.chain(10, 0);
        for (int i = 1; i < 10; i++) y.fact(0, i - 1, i, 999, 999);
        due.is("far ahead", y.hour(9, 0, 1), 8991);
        due.is("and at least", y.hour(9, 0, 0), 8991);
    }

    private static void liars() {
        due.about("27: liars");
        EarField x = Due.chain(4, 0);
        x.fact(1, 0, 3, 1, 10);
        x.fact(2, 0, 3, 4, 20);
        x.fact(0, 0, 3, -50, 50);
        due.is("all: least", x.hour(3, 0, 0), 4);
        due.is("all: most", x.hour(3, 0, 1), 10);
        due.is("without 1 or 2: least", x.hour(3, 1, 0), 1);
        due.is("without 1 or 2: most", x.hour(3, 1, 1), 20);
        due.is("without both: least", x.hour(3, 2, 0), -50);
        due.is("without both: most", x.hour(3, 2, 1), 50);
        x.fact(3, 0, 3, 30, 40);
        due.is("3 or two others lie", x.hour(3, 0, 0), NO);
        due.is("3 lies", x.hour(3, 1, 0), 4);
        due.is("3 lies: most", x.hour(3, 1, 1), 10);
        due.is("1 and 2 lie: most", x.hour(3, 2, 1), 40);
        due.is("3 and 2 lie: least", x.hour(3, 2, 0), 1);
    }

    private static long bit(int x, int y) { return 1L << 6 * y + x; }

    private static void places() {
        due.about("28");
        EarField x = Due.chain(4, 0);
        due.is("none", x.place(0, 35), 36);
        due.is("was 35", x.place(0, 36), 35);
        due.is("was none", x.place(0, 0), 36);
        due.is("37", x.place(0, 37), -3);
        due.is("-1", x.place(0, -1), -3);
        due.is("UNKNOWN first", x.place(4, 37), -2);
        due.about("29");
        due.is("UNKNOWN first", x.cells(4, 3), -2);
        due.is("m 3", x.cells(0, 3), -3);
        due.is("m -1", x.cells(0, -1), -3);
        due.is("its own place does not matter", x.cells(0, 0), (1L << 36) - 1);
        long near = 0;
        for (int c = 0; c < 36; c++) if ((c % 6) * (c % 6) + (c / 6) * (c / 6) <= 4) near |= 1L << c;
        due.is("hears 0 in the corner: within reach", x.cells(1, 0), near);
        due.is("does not: out of reach", x.cells(2, 0), (1L << 36) - 1 & ~near);
        due.is("one may lie", x.cells(2, 1), (1L << 36) - 1);
        x.set(5, 1);
        due.is("reach 1", x.cells(1, 0), bit(0, 0) | bit(1, 0) | bit(0, 1));
        x.hears(1, 0, false);
        due.is("one way is enough", x.cells(1, 0), bit(0, 0) | bit(1, 0) | bit(0, 1));
        x.place(2, 7);
        due.is("0 and 2: in reach of both", x.cells(1, 0), bit(1, 0) | bit(0, 1));
        due.is("one may lie", x.cells(1, 1), bit(0, 0) | bit(1, 0) | bit(0, 1) | bit(1, 1) | bit(2, 1) | bit(1, 2));
        due.is("two may lie", x.cells(1, 2), (1L << 36) - 1);
        x.set(5, 5);
        x.place(2, 36);
        due.is("reach 5: 3 and 4", x.cells(1, 0) >> 6 * 4 + 3 & 1, 1);
        due.is("4 and 4 is too far", x.cells(1, 0) >> 6 * 4 + 4 & 1, 0);
    }
}
