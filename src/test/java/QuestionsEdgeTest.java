// Promises 15 to 21: each sentence that names a boundary, at it, one step inside and one step outside.
public final class QuestionsEdgeTest {
    private static final Due due = new Due();
    private static final Refusal rich = new Refusal(due, Refusal::rich);

    public static void main(String[] args) {
        writeBytes();
        bytesInOrder();
        textOf120();
        erased();
        every();
        numbers();
        letters();
        otherBytes();
        blanks();
        tokens();
        tooSoon();
        condsAtMost();
        whatMayStand();
        eachLetter();
        faultChangesNothing();
        asked();
        notAsked();
        askedAnew();
        loud();
        lies();
        resultWhat();
        resultOfNone();
        fractions();
        due.end("QuestionsEdgeTest");
    }

    private static EarField text(String text) {
        EarField x = new EarField();
        Due.write(x, text);
        return x;
    }

    // A text of blanks is as long as one likes.
    private static String blanks(int n) { return " ".repeat(n); }

    private static void fault(String text, int place) {
        EarField x = text(text);
        due.is("fault of '" + text + "'", x.fault(), place);
        due.is("all bytes stay of '" + text + "'", x.count(3), text.length());
        due.is("told again", x.fault(), place);
    }

    private static void writeBytes() {
        due.about("15: n (1 .. 8) bytes more");
        for (int n : new int[] {1, 2, 7, 8}) {
            EarField x = new EarField();
            due.is("n " + n, x.write(-1L, n), n);
            due.is("and once more", x.write(0L, n), 2 * n);
        }
        rich.outside("n", 1, 8, (y, v) -> y.write(0x2020202020202020L, v), -3);
    }

    private static void bytesInOrder() {
        due.about("15: byte i being bytes >> 8 i & 255");
        String whole = "count where loud above 3 and box below 7 every 60";
        for (int n = 1; n <= 8; n++) {
            EarField x = new EarField();
            for (int i = 0; i < whole.length(); i += n) {
                int many = Math.min(n, whole.length() - i);
                long bytes = -1L;
                for (int k = many - 1; k >= 0; k--) bytes = bytes << 8 | whole.charAt(i + k);
                x.write(bytes, many);
            }
            due.is("written by " + n, x.fault(), -1);
            due.is("asked", x.ask(), 60);
        }
        EarField y = new EarField();
        y.write(0x2020746e756f63L, 7);
        y.write(0xff39207972657665L, 7);
        due.is("byte 7 is not of 7", y.ask(), 9);
        EarField z = new EarField();
        z.write(0x8020746e756f63L, 7);
        due.is("byte 6 is the last of 7", z.fault(), 6);
        EarField w = new EarField();
        w.write(0xe56f632020202020L, 8);
        due.is("byte 7 is the last of 8", w.fault(), 5);
    }

    private static void textOf120() {
        due.about("Terms: 120 bytes at most; 15: FULL");
        for (int n = 1; n <= 8; n++) {
            int last = n;
            EarField x = text(blanks(120 - n));
            due.is("to 120 by " + n, x.write(0x2020202020202020L, n), 120);
            due.is("bytes", x.count(3), 120);
            due.is("the last is read", x.fault(), 120);
            new Refusal(due, () -> text(blanks(121 - last))).is("to 121 by " + n, y -> y.write(0x2020202020202020L, last), -5);
            if (n < 8) due.is("to 119 by " + n, text(blanks(119 - n)).write(0x2020202020202020L, n), 119);
        }
        Refusal full = new Refusal(due, () -> text(blanks(120)));
        full.is("FULL by 1", y -> y.write(0L, 1), -5);
        full.is("FULL by 8", y -> y.write(0L, 8), -5);
        full.outside("OUTSIDE ahead of FULL", 1, 8, (y, v) -> y.write(0L, v), -3);
        fault(blanks(113) + "count", 118);
        fault(blanks(108) + "count every1", -1);
        due.is("asked at the very end", text(blanks(108) + "count every1").ask(), 1);
    }

    private static void erased() {
        due.about("16: how many bytes it had");
        for (int n : new int[] {0, 1, 119, 120}) {
            EarField x = text("x".repeat(n));
            due.is("had " + n, x.erase(), n);
            due.is("is empty", x.count(3), 0);
            due.is("had none", x.erase(), 0);
            due.is("its fault", x.fault(), 0);
            for (int i = 1; i <= 15; i++) due.is("room again", x.write(0x2020202020202020L, 8), 8 * i);
        }
        // What was there is not read any more.
        EarField y = text("count every 12");
        y.erase();
        Due.write(y, "count ever");
        due.is("the old end", y.fault(), 6);
    }

    private static void every() {
        due.about("Terms: N 1 .. 60");
        String[] good = {"1", "01", "2", "9", "09", "10", "59", "60"};
        int[] n = {1, 1, 2, 9, 9, 10, 59, 60};
        for (int i = 0; i < good.length; i++) {
            fault("count every " + good[i], -1);
            due.is("EVERY " + good[i], text("count every " + good[i]).ask(), n[i]);
        }
        for (String bad : new String[] {"0", "00", "61", "62", "99", "001", "060", "100", "600"}) fault("count every " + bad, 12);
    }

    private static void numbers() {
        due.about("Terms: numbers of 1 or 2 digits");
        for (String good : new String[] {"0", "9", "00", "09", "10", "99"}) fault("count where loud above " + good + " every 5", -1);
        for (String bad : new String[] {"000", "009", "100", "0000000"}) fault("count where loud above " + bad + " every 5", 23);
        fault("count where loud above  every 5", 24);
        fault("count where loud above 1 2 every 5", 25);
        fault("count where loud above -1 every 5", 23);
        fault("count where loud above 1.5 every 5", 24);
        fault("count where loud above / every 5", 23);
        fault("count where loud above : every 5", 23);
        fault("count where loud above 1/ every 5", 24);
        fault("count where loud above 1: every 5", 24);
    }

    private static void letters() {
        due.about("Terms: Small letters a .. z");
        fault("Count every 5", 0);
        fault("counT every 5", 0);
        fault("cOunt every 5", 0);
        fault("COUNT every 5", 0);
        fault("count Every 5", 6);
        fault("count every\u0000 5", 11);
        // a and z are of a row, what stands beside them in the order of bytes is not.
        fault("counta every 5", 0);
        fault("countz every 5", 0);
        fault("count` every 5", 5);
        fault("count{ every 5", 5);
        fault("count@ every 5", 5);
        fault("count[ every 5", 5);
        fault("countA every 5", 5);
        fault("zcount every 5", 0);
    }

    private static void otherBytes() {
        due.about("Terms: any other byte is a TOKEN");
        for (int b = 0; b < 256; b++) {
            boolean letter = b >= 'a' && b <= 'z';
            boolean digit = b >= '0' && b <= '9';
            fault("count" + (char) b + "every 5", letter ? 0 : b == ' ' ? -1 : 5);
            fault("count every 5" + (char) b, b == ' ' || digit ? -1 : 13);
            fault((char) b + "count every 5", b == ' ' ? -1 : 0);
        }
    }

    private static void blanks() {
        due.about("Terms: blanks between");
        fault("  count   every   5  ", -1);
        fault(blanks(60) + "count" + blanks(40) + "every 5", -1);
        fault("count every5", -1);
        fault("countevery 5", 0);
        fault("count every 5" + blanks(107), -1);
        fault("least loudevery 5", 6);
        fault("count where loudabove 3 every 5", 12);
        fault("count where loud above3every5", -1);
    }

    private static void tokens() {
        due.about("Terms: A FAULT is at the first TOKEN that cannot stand there (the byte with which it begins)");
        fault("x", 0);
        fault("  x", 2);
        fault("count x", 6);
        fault("count   xyz every 5", 8);
        fault("count 5", 6);
        fault("least count every 5", 6);
        fault("least least loud every 5", 6);
        fault("count every x", 12);
        fault("count every every 5", 12);
        fault("count every 5 and", 14);
        fault("count every 5 where loud above 3", 14);
        fault("count where where loud above 3 every 5", 12);
        fault("count where count every 5", 12);
        fault("count where loud loud 3 every 5", 17);
        fault("count where loud 3 every 5", 17);
        fault("count where loud above loud every 5", 23);
        fault("count where loud above 3 or loud below 3 every 5", 25);
        fault("count where loud above 3 , loud below 3 every 5", 25);
        fault("count where loud above 3 and above 3 every 5", 29);
        fault("count where loud above 3 and loud every 5", 34);
        fault("count where loud above 3 and loud below every 5", 40);
        fault("count x where y every 0", 6);
    }

    private static void tooSoon() {
        due.about("Terms: or at the end, if it comes too soon");
        String whole = "mean loud where loud above 3 and box below 12 every 60";
        for (int n = 0; n <= whole.length(); n++) {
            String part = whole.substring(0, n);
            int start = part.lastIndexOf(' ') + 1;
            String last = part.substring(start);
            boolean stands = last.isEmpty() || last.matches("mean|loud|where|above|and|box|below|every|[0-9]+");
            // "every 6" is whole already.
            fault(part, n >= whole.length() - 1 ? -1 : stands ? n : start);
            if (stands && n < whole.length() - 2) fault(part + "  ", n + 2);
        }
        fault("", 0);
        fault(" ", 1);
    }

    private static void condsAtMost() {
        due.about("Terms: and COND, .. (8 at most)");
        // With all that must stand about them seven fit into 120 bytes; eight fill them to the last byte.
        StringBuilder conds = new StringBuilder("count where box above0");
        for (int many = 1; many <= 8; many++) {
            if (many > 1) conds.append("and box above0");
            if (many < 8) fault(conds + "every1", -1);
            fault(conds.toString(), conds.length());
        }
        due.is("eight fill it", conds.length(), 120);
        // All of them hold: each one alone bars.
        for (int barring = 0; barring < 7; barring++) {
            StringBuilder text = new StringBuilder("count where ");
            for (int i = 0; i < 7; i++) text.append(i == 0 ? "" : "and ").append("box below").append(i == barring ? 1 : 2);
            EarField x = Due.chain(3, 100);
            x.rounds(2);
            for (int b = 0; b < 3; b++) x.loud(b, 0, 5);
            due.is("seven CONDS", Due.ask(x, text + "every9"), 9);
            x.ticks(4);
            due.is("the one at " + barring + " bars 1", x.result(4), 1);
        }
    }

    private static void whatMayStand() {
        due.about("Terms: least loud, most loud, mean loud or count");
        String[] aims = {"least loud", "most loud", "mean loud", "count"};
        for (String aim : aims) {
            fault(aim + " every 5", -1);
            fault(aim + " where box above 1 every 5", -1);
            fault(aim, aim.length());
            fault(aim + "s every 5", aim.equals("count") ? 0 : aim.indexOf(' ') + 1);
        }
        for (String word : new String[] {"leas", "leastt", "max", "loud", "where", "every", "and", "box", "above", "below", "5"}) {
            fault(word + " loud every 5", 0);
        }
        fault("least box every 5", 6);
        fault("most every 5", 5);
    }

    private static void eachLetter() {
        due.about("Terms: each word letter for letter");
        String[] words = {"least", "most", "mean", "loud", "count", "where", "and", "every", "box", "above", "below"};
        String[] texts = {"least loud where loud above 3 and box below 7 every 5", "most loud every 5", "mean loud every 5", "count every 5"};
        for (String text : texts) {
            for (String word : words) {
                int place = text.indexOf(word);
                if (place < 0) continue;
                for (int i = 0; i < word.length(); i++) {
                    String wrong = word.substring(0, i) + "q" + word.substring(i + 1);
                    fault(text.replaceFirst(word, wrong), place);
                    fault(text.replaceFirst(word, word.substring(0, i) + word.substring(i + 1)), place);
                    fault(text.replaceFirst(word, word.substring(0, i) + "q" + word.substring(i)), place);
                }
            }
        }
    }

    private static void faultChangesNothing() {
        due.about("17: telling it changes nothing");
        // However often it is told, and whatever was written and erased ahead of it.
        EarField x = Due.chain(4, 100);
        x.rounds(3);
        for (int b = 0; b < 4; b++) x.loud(b, 0, 5);
        for (int i = 0; i < 9; i++) {
            x.erase();
            Due.write(x, "least loud where box above 2 and box above 3 every 7");
            due.is("no FAULT", x.fault(), -1);
        }
        x.erase();
        Due.write(x, "count where box above 1 evry 9");
        due.is("a FAULT", x.ask(), -4);
        due.is("EVERY of the last", Due.ask(x, "count where box below 2 every 9"), 9);
        x.ticks(5);
        due.is("its COND alone", x.result(4), 3);
        due.is("count", x.result(5), 2);
        due.is("then without any", Due.ask(x, "most loud every 24"), 24);
        x.ticks(25);
        due.is("all", x.result(4), 15);
        rich.is("fault", y -> y.fault(), 11);
        new Refusal(due, () -> text("count every 5")).is("none", y -> y.fault(), -1);
    }

    private static void asked() {
        due.about("18: THE TEXT is asked, and is empty then: EVERY");
        EarField x = text("count every 60");
        due.is("EVERY", x.ask(), 60);
        due.is("empty", x.count(3), 0);
        due.is("its fault", x.fault(), 0);
        due.is("not asked once more", x.ask(), -4);
        due.is("the first one stands", x.result(5), 0);
        for (int i = 0; i < 15; i++) x.write(0x2020202020202020L, 8);
        due.is("room for 120 again", x.count(3), 120);
    }

    private static void notAsked() {
        due.about("18: NOT: it has a FAULT");
        rich.is("it comes too soon", x -> x.ask(), -4);
        for (String bad : new String[] {"", " ", "x", "count every 0", "count every 61", "count every 5 5", "count where every 5"}) {
            new Refusal(due, () -> {
                EarField x = Refusal.rich();
                x.erase();
                Due.write(x, bad);
                return x;
            }).is("'" + bad + "'", x -> x.ask(), -4);
        }
        // A text with a fault may be mended by more bytes.
        EarField y = text("count every");
        due.is("not yet", y.ask(), -4);
        Due.write(y, " 6");
        due.is("then", y.ask(), 6);
    }

    private static void askedAnew() {
        due.about("18: all SUMS, RESULT and what was asked are no more");
        EarField x = Due.chain(3, 1000);
        x.rounds(2);
        x.set(4, 0);
        x.say(2, 8);
        for (int b = 0; b < 3; b++) x.loud(b, 0, 5 + b);
        Due.ask(x, "most loud every 5");
        x.ticks(1);
        due.is("the root and 1", x.result(4), 3);
        due.is("2's SUM is in its ROW", x.at(2, 5), 1);
        due.is("asked", Due.ask(x, "least loud every 5"), 5);
        int[] none = {-1, -1, 0, 0, 0, -1, -1};
        for (int what = 0; what < 7; what++) due.is("no RESULT " + what, x.result(what), none[what]);
        due.is("no SUM in the ROW", x.at(2, 5), 0);
        due.is("none LATE", x.lost(5), 0);
        x.ticks(4);
        due.is("nothing on its way", x.lost(7), 2);
        due.is("no RESULT till an EPOCH", x.result(2), 0);
        // A SUM that waits for its TICK is no more either.
        EarField y = Due.chain(3, 1000);
        y.rounds(2);
        y.set(4, 9);
        y.loud(1, 0, 5);
        Due.ask(y, "count every 30");
        y.ticks(2);
        Due.ask(y, "count every 30");
        y.ticks(20);
        due.is("it was not said", y.lost(7), 0);
        y.ticks(10);
        due.is("nor LATE", y.lost(5), 0);
    }

    private static void loud() {
        due.about("19: LOUD for an hour 0 .. 23 is 0 .. 15 or not known (at first; 16)");
        EarField x = Due.chain(10, 100);
        for (int hour : new int[] {0, 1, 22, 23}) {
            int was = 16;
            for (int v : new int[] {0, 1, 14, 15, 16, 0}) {
                due.is("hour " + hour + " to " + v, x.loud(9, hour, v), was);
                was = v;
            }
        }
        for (int hour = 2; hour < 22; hour++) due.is("hour " + hour + " not known", x.loud(9, hour, 16), 16);
        due.is("of another box", x.loud(8, 0, 16), 16);
        rich.outside("hour", 0, 23, (y, v) -> y.loud(1, v, 5), -3);
        rich.outside("v", 0, 16, (y, v) -> y.loud(1, 0, v), -3);
        rich.outside("box", 0, 6, (y, v) -> y.loud(v, 0, 5), -2);
        rich.is("UNKNOWN ahead of OUTSIDE", y -> y.loud(7, 24, 17), -2);
    }

    private static void lies() {
        due.about("20: it LIES v (0 .. 15; 16: it is none)");
        EarField x = Due.chain(10, 100);
        int was = 16;
        for (int v : new int[] {0, 1, 14, 15, 16, 0}) {
            due.is("to " + v, x.lies(9, v), was);
            was = v;
        }
        due.is("another box", x.lies(8, 16), 16);
        rich.outside("v", 0, 16, (y, v) -> y.lies(1, v), -3);
        rich.outside("box", 0, 6, (y, v) -> y.lies(v, 5), -2);
        rich.is("UNKNOWN ahead of OUTSIDE", y -> y.lies(-1, 17), -2);
    }

    private static void resultWhat() {
        due.about("21: what 0 .. 6; NOT: nothing is asked");
        rich.outside("what", 0, 6, (y, v) -> y.result(v), -3);
        Refusal none = new Refusal(due, () -> Due.chain(3, 100));
        for (int what = 0; what < 7; what++) {
            int told = what;
            none.is("nothing asked: " + what, y -> y.result(told), -4);
        }
        none.outside("OUTSIDE ahead of NOT", 0, 6, (y, v) -> y.result(v), -3);
        new Refusal(due, () -> text("count every 5")).is("written, not asked", y -> y.result(2), -4);
    }

    private static void resultOfNone() {
        due.about("21: NONE for all but 2 .. 4, 5 and 6 of count, if there are none");
        String[] aims = {"least loud", "most loud", "mean loud", "count"};
        for (int aim = 0; aim < 4; aim++) {
            int[] none = {-1, -1, 0, 0, 0, aim == 3 ? 0 : -1, aim == 3 ? 1 : -1};
            int[] one = {0, 0, 1, 0, 1, aim == 3 ? 1 : 0, 1};
            EarField x = Due.chain(1, 100);
            Due.ask(x, aims[aim] + " every 24");
            for (int what = 0; what < 7; what++) due.is(aims[aim] + " of none: " + what, x.result(what), none[what]);
            x.ticks(1);
            for (int what = 0; what < 7; what++) due.is(aims[aim] + " of none told: " + what, x.result(what), none[what]);
            x.loud(0, 0, 0);
            x.ticks(24);
            for (int what = 0; what < 7; what++) due.is(aims[aim] + " of one 0: " + what, x.result(what), one[what]);
            x.loud(0, 0, 7);
            x.ticks(24);
            due.is("then 7", x.result(3), 7);
            x.loud(0, 0, 16);
            x.ticks(24);
            for (int what = 0; what < 7; what++) due.is(aims[aim] + " of none again: " + what, x.result(what), none[what]);
        }
    }

    private static void fractions() {
        due.about("21: the answer as a fraction in lowest terms");
        int[][] told = {{0}, {15}, {0, 0}, {0, 1}, {1, 1}, {15, 15}, {2, 4}, {1, 2}, {0, 0, 1}, {1, 1, 1}, {5, 6, 6}, {3, 3, 9},
            {15, 15, 15, 15, 15, 15, 15, 15, 15, 15}, {1, 0, 0, 0, 0, 0, 0, 0, 0, 0}, {1, 1, 0, 0, 0, 0, 0, 0, 0, 0},
            {15, 15, 15, 15, 15, 15, 15, 15, 15, 14}, {0, 0, 0, 0, 0, 0, 0, 0, 0, 0}, {5, 0, 0, 0, 0, 0, 0, 0, 0, 0}};
        int[][] mean = {{0, 1}, {15, 1}, {0, 1}, {1, 2}, {1, 1}, {15, 1}, {3, 1}, {3, 2}, {1, 3}, {1, 1}, {17, 3}, {5, 1},
            {15, 1}, {1, 10}, {1, 5}, {149, 10}, {0, 1}, {1, 2}};
        String[] aims = {"least loud", "most loud", "mean loud", "count"};
        for (int i = 0; i < told.length; i++) {
            int all = 0;
            int most = 0;
            int least = 15;
            for (int v : told[i]) {
                all += v;
                most = Math.max(most, v);
                least = Math.min(least, v);
            }
            for (int aim = 0; aim < 4; aim++) {
                EarField x = Due.chain(told[i].length, 1000);
                x.rounds(9);
                for (int b = 0; b < told[i].length; b++) x.loud(b, 0, told[i][b]);
                Due.ask(x, aims[aim] + " every 60");
                x.ticks(12);
                due.is("least", x.result(0), least);
                due.is("most", x.result(1), most);
                due.is("how many", x.result(2), told[i].length);
                due.is("all together", x.result(3), all);
                due.is("of whom", x.result(4), (1 << told[i].length) - 1);
                int above = aim == 0 ? least : aim == 1 ? most : aim == 2 ? mean[i][0] : told[i].length;
                due.is(aims[aim] + " above", x.result(5), above);
                due.is(aims[aim] + " below", x.result(6), aim == 2 ? mean[i][1] : 1);
            }
        }
    }
}
