import java.util.Arrays;

// Promises 35 to 45.
public final class CourtTest {
    private static final Due due = new Due();

    public static void main(String[] args) {
        days();
        ways();
        ears();
        courses();
        misses();
        judging();
        quarrels();
        settling();
        refusedClaims();
        counts();
        due.end("CourtTest");
    }

    private static void days() {
        due.about("35");
        EarField x = new EarField();
        due.is("0", x.days(0), -3);
        due.is("6", x.days(6), -3);
        due.is("was 4", x.days(4), 4);
        x.log(0, 3, 1);
        due.is("was 4 still", x.days(4), 4);
        due.is("torn then", x.log(0, 3, 0), 2);
        x.days(6);
        due.is("not torn by a refused call", x.log(0, 3, 0), 0);
        x.days(1);
        due.is("no such tick", x.log(0, 1, 0), -2);
        due.is("six spots", x.courses(), 6);
        x.days(5);
        due.is("five", x.count(6), 5);
    }

    private static void ways() {
        due.about("36");
        EarField x = new EarField();
        due.is("was not", x.way(1, 2, true), 0);
        due.is("both ways", x.way(2, 1, true), 1);
        due.is("no more", x.way(2, 1, false), 1);
        due.is("was not", x.way(1, 2, false), 0);
        due.is("itself", x.way(3, 3, true), -2);
        due.is("a", x.way(6, 3, true), -2);
        due.is("b", x.way(3, -1, true), -2);
    }

    private static void ears() {
        due.about("37");
        EarField x = new EarField();
        due.is("none", x.ear(5, 63), 0);
        due.is("was all", x.ear(5, 0), 63);
        due.is("64", x.ear(5, 64), -3);
        due.is("-1", x.ear(5, -1), -3);
        due.is("UNKNOWN first", x.ear(6, 64), -2);
        due.is("UNKNOWN below", x.ear(-1, 0), -2);
        due.about("38");
        due.is("torn at first", x.log(5, 3, 0), 2);
        due.is("was 0", x.log(5, 3, 1), 0);
        due.is("was 1", x.log(5, 3, 2), 1);
        due.is("3", x.log(5, 3, 3), -3);
        due.is("-1", x.log(5, 3, -1), -3);
        due.is("tick", x.log(5, 4, 3), -2);
        due.is("ear", x.log(6, 0, 3), -2);
        due.is("tick below", x.log(5, -1, 0), -2);
        due.about("39");
        due.is("none", x.liars(63), 0);
        due.is("were all", x.liars(0), 63);
        due.is("64", x.liars(64), -3);
        due.is("-1", x.liars(-1), -3);
        due.is("none still", x.liars(0), 0);
    }

    private static EarField line(int days) {
        EarField x = new EarField();
        x.days(days);
        for (int i = 0; i < 5; i++) x.way(i, i + 1, true);
        return x;
    }

    private static void courses() {
        due.about("40, 41");
        EarField x = line(2);
        due.is("6 and 10", x.courses(), 16);
        int[][] all = {{0, 0}, {0, 1}, {1, 0}, {1, 1}, {1, 2}, {2, 1}, {2, 2}, {2, 3}, {3, 2}, {3, 3}, {3, 4}, {4, 3}, {4, 4}, {4, 5}, {5, 4}, {5, 5}};
        for (int k = 0; k < all.length; k++) {
            due.is("course " + k + " tick 0", x.course(k, 0), all[k][0]);
            due.is("course " + k + " tick 1", x.course(k, 1), all[k][1]);
        }
        due.is("no such course", x.course(16, 0), -2);
        due.is("none below", x.course(-1, 0), -2);
        due.is("no such tick", x.course(0, 2), -2);
        due.is("no tick below", x.course(0, -1), -2);
        x.ear(0, 1 << 2);
        x.log(0, 0, 1);
        due.is("heard in 2", x.courses(), 3);
        due.is("then 1", x.course(0, 1), 1);
        x.ear(1, 1 << 2);
        x.log(1, 1, 0);
        due.is("not heard in 2", x.courses(), 2);
        due.is("then 3", x.course(1, 1), 3);
        x.liars(1);
        due.is("0 lies", x.courses(), 13);
        EarField y = new EarField();
        y.days(5);
        for (int a = 0; a < 6; a++) for (int b = 0; b < a; b++) y.way(a, b, true);
        due.is("all", y.courses(), 7776);
        due.is("the last", y.course(7775, 0), 5);
        due.is("some", y.course(1296 + 36 * 2 + 4, 2), 2);
        due.is("some", y.course(1296 + 36 * 2 + 4, 0), 1);
        due.is("no more", y.course(7776, 0), -2);
    }

    private static void misses() {
        due.about("6, 40: misses");
        EarField x = line(3);
        for (int ear = 0; ear < 2; ear++) {
            x.ear(ear, 63);
            x.log(ear, 0, 0);
            x.log(ear, 1, 0);
        }
        due.is("four misses", x.courses(), 0);
        x.set(6, 3);
        due.is("three", x.courses(), 0);
        x.log(1, 1, 2);
        due.is("are enough, all ears together", x.courses(), 44);
        x.set(6, 2);
        due.is("two are not", x.courses(), 0);
        x.liars(2);
        due.is("a liar's do not count", x.courses(), 44);
        // A 1 is never missed.
        x.ear(5, 0);
        x.log(5, 2, 1);
        due.is("an ear that hears nowhere", x.courses(), 0);
    }

    private static void judging() {
        due.about("42");
        EarField x = line(3);
        x.ear(0, 1);
        x.log(0, 0, 1);
        // 0 0 0, 0 0 1, 0 1 0, 0 1 1, 0 1 2
        due.is("five", x.courses(), 5);
        due.is("sure", x.judge(0, 0, 0, 0, 2), 1);
        due.is("open", x.judge(0, 2, 0, 0, 2), 2);
        due.is("by none", x.judge(0, 2, 0, 0, 1), 0);
        due.is("by none", x.judge(0, 3, 0, 0, 2), 0);
        due.is("later", x.judge(1, 0, 1, 0, 2), 2);
        due.is("not earlier", x.judge(1, 2, 0, 0, 2), 0);
        due.is("two ticks for one spot twice", x.judge(1, 0, 0, 0, 2), 2);
        due.is("one tick is not enough", x.judge(1, 0, 0, 0, 0), 0);
        due.is("both within", x.judge(1, 0, 1, 1, 2), 2);
        x.log(0, 1, 0);
        due.is("gone", x.judge(1, 0, 1, 0, 1), 1);
        due.is("the first is ahead of them", x.judge(1, 0, 1, 1, 2), 0);
        x.log(0, 0, 0);
        x.ear(0, 63);
        due.is("no course", x.judge(0, 0, 0, 0, 2), 3);
    }

    private static void quarrels() {
        due.about("43");
        EarField x = line(3);
        due.is("none need be", x.quarrel(), 0);
        x.ear(0, 1);
        x.ear(1, 32);
        x.ear(2, 1);
        x.ear(3, 32);
        for (int ear = 0; ear < 3; ear++) x.log(ear, 0, 1);
        due.is("1 against 0 and 2", x.quarrel(), 2);
        x.log(3, 0, 1);
        due.is("two against two", x.quarrel(), 5);
        x.liars(1);
        due.is("2 alone", x.quarrel(), 4);
        x.liars(2);
        due.is("3 alone", x.quarrel(), 8);
        x.liars(6);
        due.is("0 or 3: the least number", x.quarrel(), 1);
        x.liars(0);
        EarField y = line(3);
        y.ear(0, 63);
        y.log(0, 0, 0);
        due.is("misses", y.quarrel(), 1);
        y.set(6, 1);
        due.is("one is allowed", y.quarrel(), 0);
        EarField z = new EarField();
        z.ear(4, 1);
        z.ear(5, 2);
        z.log(4, 0, 1);
        z.log(5, 3, 1);
        due.is("no way there", z.quarrel(), 16);
        z.way(0, 1, true);
        due.is("a way", z.quarrel(), 0);
        for (int ear = 0; ear < 6; ear++) {
            z.ear(ear, 0);
            z.log(ear, 0, 1);
        }
        due.is("all of them", z.quarrel(), 63);
    }

    private static void settling() {
        due.about("44");
        EarField x = new EarField();
        x.days(1);
        due.is("nobody hears", x.settle(0, 3, 0, 0, 0), -1);
        x.ear(1, 1 << 3);
        due.is("1 would tell", x.settle(0, 3, 0, 0, 0), 2);
        due.is("by none anyway", x.settle(1, 3, 2, 0, 0), 0);
        x.ear(0, 63 & ~(1 << 3));
        due.is("0 as well", x.settle(0, 3, 0, 0, 0), 1);
        x.log(0, 0, 1);
        due.is("sure", x.settle(0, 3, 0, 0, 0), 0);
        x.log(0, 0, 2);
        x.liars(1);
        due.is("a liar tells nothing", x.settle(0, 3, 0, 0, 0), 2);
        x.log(1, 0, 0);
        due.is("3 is out", x.settle(0, 3, 0, 0, 0), 0);
        due.is("2 is open, and nobody hears it", x.settle(0, 2, 0, 0, 0), -1);
        // Two together: spots by bits.
        EarField y = new EarField();
        y.days(1);
        y.ear(0, 1 << 1 | 1 << 3 | 1 << 5);
        y.ear(2, 1 << 2 | 1 << 3);
        y.ear(4, 1 << 4 | 1 << 5);
        due.is("3: 0 and 2", y.settle(0, 3, 0, 0, 0), 5);
        due.is("5: 0 and 4", y.settle(0, 5, 0, 0, 0), 17);
        due.is("0: all three", y.settle(0, 0, 0, 0, 0), 21);
        y.ear(5, 1);
        due.is("0: 5 alone", y.settle(0, 0, 0, 0, 0), 32);
        // Only ticks that are torn tell something more.
        EarField z = new EarField();
        z.days(2);
        z.way(0, 1, true);
        z.ear(0, 2);
        z.set(6, 2);
        z.log(0, 1, 0);
        due.is("tick 1 is not torn", z.settle(0, 1, 0, 1, 1), -1);
        due.is("tick 0 is", z.settle(0, 1, 0, 0, 0), 1);
        z.set(6, 0);
        due.is("no misses: not in 1", z.settle(0, 1, 0, 1, 1), 0);
        // No course agrees: nothing is left to settle.
        z.ear(1, 0);
        z.log(1, 0, 1);
        due.is("none agrees", z.settle(0, 1, 0, 0, 0), 0);
        // Each of six ears keeps two courses apart that no other one does.
        EarField v = new EarField();
        v.days(2);
        v.set(6, 2);
        for (int a = 0; a < 6; a++) for (int b = 0; b < a; b++) v.way(a, b, true);
        for (int ear = 1; ear < 6; ear++) {
            v.ear(ear, 1 << ear);
            v.log(ear, 1, 0);
        }
        v.ear(0, 1);
        v.log(0, 0, 0);
        due.is("all courses", v.courses(), 36);
        due.is("all six", v.settle(0, 0, 0, 0, 1), 63);
        v.liars(32);
        due.is("five are not enough", v.settle(0, 0, 0, 0, 1), -1);
        // Ears that hear many ticks of a long row.
        EarField w = new EarField();
        w.days(5);
        for (int a = 0; a < 6; a++) for (int b = 0; b < a; b++) w.way(a, b, true);
        w.ear(0, 8 | 16 | 32);
        w.ear(1, 2 | 4 | 32);
        w.ear(2, 1 | 4 | 16);
        due.is("0 then 1 in five ticks", w.settle(1, 0, 1, 0, 4), 7);
        w.liars(2);
        due.is("without 1 nothing is told", w.settle(1, 0, 1, 0, 4), -1);
    }

    private static void refusedClaims() {
        due.about("42, 44: refused");
        EarField x = new EarField();
        int[][] unknown = {{0, -1, 0, 0, 0}, {0, 6, 0, 0, 0}, {1, -1, 0, 0, 0}, {1, 6, 0, 0, 0}, {1, 0, 6, 0, 0}, {1, 0, -1, 0, 0},
            {0, 0, 0, -1, 0}, {0, 0, 0, 0, 4}, {0, 0, 0, 4, 0}, {0, 0, 0, 0, -1}, {2, 6, 0, 0, 0}, {2, 0, 0, 0, 4}, {0, 6, -1, 0, 0},
            {0, 0, 1, -1, 0}, {1, 0, 6, 1, 0}, {0, 0, 0, 4, 3}};
        // Of sort 0 d is no SPOT but a number; nor is it one of a sort that there is not.
        int[][] outside = {{0, 0, 1, 0, 0}, {0, 0, 5, 0, 3}, {0, 0, 6, 0, 0}, {0, 0, -1, 0, 0}, {0, 5, Integer.MIN_VALUE, 0, 0},
            {0, 0, Integer.MAX_VALUE, 3, 3}, {0, 0, 0, 1, 0}, {1, 0, 0, 3, 2}, {2, 0, 0, 0, 0}, {-1, 0, 0, 0, 0}, {2, 0, 6, 0, 0},
            {-1, 0, -1, 0, 0}};
        refused(x, unknown, EarField.UNKNOWN);
        refused(x, outside, EarField.OUTSIDE);
    }

    private static void refused(EarField x, int[][] claims, int how) {
        for (int[] c : claims) {
            due.is("judge" + Arrays.toString(c), x.judge(c[0], c[1], c[2], c[3], c[4]), how);
            due.is("settle" + Arrays.toString(c), x.settle(c[0], c[1], c[2], c[3], c[4]), how);
        }
    }

    private static void counts() {
        due.about("45");
        EarField x = Due.chain(3, 5);
        x.power(1, 0);
        x.ticks(2);
        Due.write(x, "abc");
        x.fact(0, 1, 2, 0, 0);
        x.program(1, 1);
        x.program(1, 1);
        x.days(2);
        int[] counts = {3, 2, 2, 3, 1, 2, 2};
        for (int what = 0; what < 7; what++) due.is("count " + what, x.count(what), counts[what]);
        due.is("7", x.count(7), -3);
        due.is("-1", x.count(-1), -3);
    }
}
