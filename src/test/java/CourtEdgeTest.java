// Promises 35 to 45: each sentence that names a boundary, at it, one step inside and one step outside.
public final class CourtEdgeTest {
    private static final Due due = new Due();
    private static final Refusal rich = new Refusal(due, Refusal::rich);

    public static void main(String[] args) {
        daysTold();
        daysTear();
        ways();
        waysOfCourses();
        ears();
        earsHear();
        logs();
        logsOfEachTick();
        liars();
        liarsDoNotCount();
        courseCounts();
        courseOrder();
        courseRefused();
        onlyWhereHeard();
        misses();
        claimsRefused();
        claimSpots();
        claimTicks();
        laterTick();
        judged();
        quarrelSizes();
        quarrelOrder();
        quarrelByWays();
        quarrelWithLiars();
        settledSizes();
        settledOrder();
        settledByTorn();
        settledNoCourse();
        counts();
        due.end("CourtEdgeTest");
    }

    // So many TICKS, and a WAY between any two SPOTS.
    private static EarField open(int days) {
        EarField x = new EarField();
        x.days(days);
        for (int a = 1; a < 6; a++) for (int b = 0; b < a; b++) x.way(a, b, true);
        return x;
    }

    private static void daysTold() {
        due.about("35: T TICKS (1 .. 5; 4 at first)");
        EarField x = new EarField();
        due.is("at first", x.count(6), 4);
        int was = 4;
        for (int t : new int[] {1, 2, 4, 5, 5, 1}) {
            due.is("to " + t, x.days(t), was);
            due.is("T", x.count(6), t);
            due.is("the last TICK", x.log(0, t - 1, 1), 2);
            due.is("no further one", x.log(0, t, 1), -2);
            due.is("no course of it", x.course(0, t), -2);
            was = t;
        }
        rich.outside("t", 1, 5, (y, v) -> y.days(v), -3);
    }

    private static void daysTear() {
        due.about("35: all LOGS are TORN then");
        for (int t = 1; t <= 5; t++) {
            EarField x = new EarField();
            x.days(5);
            for (int ear = 0; ear < 6; ear++) for (int tick = 0; tick < 5; tick++) x.log(ear, tick, ear & 1);
            x.days(t);
            for (int ear = 0; ear < 6; ear++) for (int tick = 0; tick < t; tick++) due.is("TORN", x.log(ear, tick, 1), 2);
            x.days(5);
            for (int ear = 0; ear < 6; ear++) for (int tick = 0; tick < 5; tick++) due.is("all of them", x.log(ear, tick, 2), 2);
        }
        // Nothing else changes: WAYS, EARS, LIARS.
        EarField y = new EarField();
        y.way(0, 1, true);
        y.ear(5, 7);
        y.liars(9);
        y.days(2);
        due.is("WAYS", y.way(1, 0, true), 1);
        due.is("EARS", y.ear(5, 7), 7);
        due.is("LIARS", y.liars(9), 9);
    }

    private static void ways() {
        due.about("36: UNKNOWN: also one and itself; SPOTS 0 .. 5");
        EarField x = new EarField();
        for (int a = 0; a < 6; a++) {
            for (int b = 0; b < a; b++) {
                due.is("none at first", x.way(a, b, true), 0);
                due.is("both ways", x.way(b, a, false), 1);
                due.is("gone both ways", x.way(a, b, true), 0);
            }
        }
        for (int spot = 0; spot < 6; spot++) {
            int one = spot;
            rich.is("itself " + spot, y -> y.way(one, one, true), -2);
            rich.outside("a with " + spot, 0, 5, (y, v) -> y.way(v, one, true), -2);
            rich.outside("b with " + spot, 0, 5, (y, v) -> y.way(one, v, false), -2);
        }
        rich.is("no SPOT and itself", y -> y.way(6, 6, true), -2);
    }

    private static void waysOfCourses() {
        due.about("Terms: from TICK to TICK stays or goes a WAY");
        for (int a = 0; a < 6; a++) {
            for (int b = 0; b < a; b++) {
                EarField x = new EarField();
                x.days(2);
                x.way(a, b, true);
                due.is("stays in six, goes there and back", x.courses(), 8);
                due.is("goes", x.judge(1, a, b, 0, 1), 2);
                due.is("and back", x.judge(1, b, a, 0, 1), 2);
                x.way(b, a, false);
                due.is("stays", x.courses(), 6);
                due.is("does not go", x.judge(1, a, b, 0, 1), 0);
            }
        }
        EarField y = new EarField();
        for (int days = 1; days <= 5; days++) {
            y.days(days);
            due.is("without WAYS", y.courses(), 6);
        }
    }

    private static void ears() {
        due.about("37: EARS 0 .. 5; SPOTS (none at first; bits)");
        EarField x = new EarField();
        for (int ear = 0; ear < 6; ear++) {
            int was = 0;
            for (int spots : new int[] {0, 1, 32, 62, 63, 0}) {
                due.is("ear " + ear + " to " + spots, x.ear(ear, spots), was);
                was = spots;
            }
        }
        rich.outside("ear", 0, 5, (y, v) -> y.ear(v, 1), -2);
        rich.outside("spots", 0, 63, (y, v) -> y.ear(1, v), -3);
        rich.is("UNKNOWN ahead of OUTSIDE", y -> y.ear(6, 64), -2);
    }

    private static void earsHear() {
        due.about("Terms: hear in a set of SPOTS");
        for (int ear = 0; ear < 6; ear++) {
            for (int spot = 0; spot < 6; spot++) {
                EarField x = open(1);
                x.ear(ear, 1 << spot);
                x.log(ear, 0, 1);
                due.is("heard in " + spot, x.courses(), 1);
                due.is("so it was there", x.course(0, 0), spot);
                x.log(ear, 0, 0);
                due.is("not heard there", x.courses(), 5);
                due.is("so it was not", x.judge(0, spot, 0, 0, 0), 0);
            }
        }
    }

    private static void logs() {
        due.about("38: 0, 1; 2: TORN (at first)");
        EarField x = new EarField();
        x.days(5);
        for (int ear = 0; ear < 6; ear++) {
            for (int tick = 0; tick < 5; tick++) {
                int was = 2;
                for (int v : new int[] {0, 1, 2, ear * tick % 3}) {
                    due.is("LOG of " + ear + " in " + tick, x.log(ear, tick, v), was);
                    was = v;
                }
            }
        }
        for (int ear = 0; ear < 6; ear++) for (int tick = 0; tick < 5; tick++) due.is("each its own", x.log(ear, tick, 2), ear * tick % 3);
        rich.outside("ear", 0, 5, (y, v) -> y.log(v, 1, 1), -2);
        rich.outside("tick of three", 0, 2, (y, v) -> y.log(1, v, 1), -2);
        rich.outside("v", 0, 2, (y, v) -> y.log(1, 2, v), -3);
        rich.is("UNKNOWN ahead of OUTSIDE: ear", y -> y.log(6, 0, 3), -2);
        rich.is("UNKNOWN ahead of OUTSIDE: tick", y -> y.log(0, 3, -1), -2);
        for (int t = 1; t <= 5; t++) {
            int days = t;
            new Refusal(due, () -> open(days)).outside("tick of " + t, 0, t - 1, (y, v) -> y.log(5, v, 1), -2);
        }
    }

    private static void logsOfEachTick() {
        due.about("Terms: LOGS of an EAR tell each TICK");
        for (int days = 1; days <= 5; days++) {
            for (int tick = 0; tick < days; tick++) {
                EarField x = open(days);
                x.ear(5, 8);
                x.log(5, tick, 1);
                due.is("in " + tick + " of " + days, x.judge(0, 3, 0, tick, tick), 1);
                if (tick > 0) due.is("ahead of it", x.judge(0, 3, 0, 0, tick - 1), 2);
                if (tick < days - 1) due.is("behind it", x.judge(0, 3, 0, tick + 1, days - 1), 2);
                x.log(5, tick, 0);
                due.is("not in " + tick + " of " + days, x.judge(0, 3, 0, tick, tick), 0);
            }
        }
    }

    private static void liars() {
        due.about("39: LIARS (bits of EARS)");
        EarField x = new EarField();
        int was = 0;
        for (int set : new int[] {0, 1, 32, 62, 63, 0}) {
            due.is("to " + set, x.liars(set), was);
            was = set;
        }
        rich.outside("set", 0, 63, (y, v) -> y.liars(v), -3);
    }

    private static void liarsDoNotCount() {
        due.about("Terms: for all EARS that are no LIARS");
        for (int ear = 0; ear < 6; ear++) {
            EarField x = open(2);
            x.ear(ear, 4);
            x.log(ear, 0, 1);
            x.log(ear, 1, 0);
            due.is("no LIARS", x.courses(), 5);
            x.liars(63 & ~(1 << ear));
            due.is("all others", x.courses(), 5);
            x.liars(1 << ear);
            due.is("this one", x.courses(), 36);
            due.is("no QUARREL", x.quarrel(), 0);
            due.is("nor does it settle", x.settle(0, 2, 0, 0, 1), -1);
        }
        // A LIAR has its LOGS still.
        EarField y = open(1);
        y.liars(63);
        y.log(0, 0, 1);
        due.is("all LIARS", y.courses(), 6);
        y.liars(62);
        due.is("0 is none", y.courses(), 0);
    }

    private static void courseCounts() {
        due.about("40: How many COURSES AGREE");
        int all = 1;
        for (int days = 1; days <= 5; days++) {
            all *= 6;
            EarField x = open(days);
            due.is("all of " + days, x.courses(), all);
            due.is("told again", x.courses(), all);
            due.is("the last", x.course(all - 1, days - 1), 5);
            due.is("no further", x.course(all, 0), -2);
            for (int tick = 0; tick < days; tick++) {
                x.ear(tick, 32);
                x.log(tick, tick, 1);
            }
            due.is("one", x.courses(), 1);
            for (int tick = 0; tick < days; tick++) due.is("that", x.course(0, tick), 5);
            x.log(0, 0, 0);
            x.log(1, 0, 1);
            due.is("none", x.courses(), 0);
            due.is("no COURSE 0", x.course(0, 0), -2);
        }
    }

    private static void courseOrder() {
        due.about("Terms: COURSES stand in order by the SPOT of TICK 0, then 1, and so on");
        for (int days = 1; days <= 5; days++) {
            EarField x = open(days);
            int all = x.courses();
            // Not each of them: an object is used for 512 calls at most.
            for (int k = 0; k < all; k += days < 3 ? 1 : days == 3 ? 5 : 97) {
                int rest = k;
                for (int tick = days - 1; tick >= 0; tick--) {
                    due.is("COURSE " + k + " in " + tick, x.course(k, tick), rest % 6);
                    rest /= 6;
                }
            }
        }
        // A few that are left of many: 5 4, 5 5 behind 3 4.
        EarField y = new EarField();
        y.days(2);
        y.way(5, 4, true);
        y.way(4, 3, true);
        y.ear(0, 4 | 8 | 32);
        y.log(0, 0, 1);
        int[][] left = {{2, 2}, {3, 3}, {3, 4}, {5, 4}, {5, 5}};
        due.is("left", y.courses(), 5);
        for (int k = 0; k < 5; k++) for (int tick = 0; tick < 2; tick++) due.is("COURSE " + k, y.course(k, tick), left[k][tick]);
    }

    private static void courseRefused() {
        due.about("41: UNKNOWN: also no such COURSE");
        EarField x = Refusal.rich();
        int many = x.courses();
        due.is("some agree", many, 4);
        rich.outside("k", 0, many - 1, (y, v) -> y.course(v, 0), -2);
        rich.outside("i", 0, 2, (y, v) -> y.course(0, v), -2);
        due.is("the first", x.course(0, 0), 0);
        due.is("the last", x.course(many - 1, 2), 3);
        // No further one at all, though more of them were told of ahead of it.
        EarField z = open(5);
        due.is("all agree", z.courses(), 7776);
        z.ear(0, 1);
        for (int tick = 0; tick < 5; tick++) z.log(0, tick, 1);
        due.is("one is left", z.course(0, 4), 0);
        for (int k = 1; k < 9000; k = 3 * k + 1) due.is("no COURSE " + k, z.course(k, 0), -2);
        due.is("no COURSE 7775", z.course(7775, 0), -2);
        new Refusal(due, () -> open(5)).outside("k of all", 0, 7775, (y, v) -> y.course(v, 4), -2);
        new Refusal(due, () -> open(1)).outside("k of six", 0, 5, (y, v) -> y.course(v, 0), -2);
        new Refusal(due, () -> open(1)).outside("i of one", 0, 0, (y, v) -> y.course(5, v), -2);
    }

    private static void onlyWhereHeard() {
        due.about("Terms: a 1 only where the EAR hears that SPOT");
        for (int misses = 0; misses <= 3; misses++) {
            EarField x = open(1);
            x.set(6, misses);
            x.ear(0, 2);
            x.log(0, 0, 1);
            due.is("one SPOT, whatever MISSES", x.courses(), 1);
            x.ear(0, 0);
            due.is("none", x.courses(), 0);
            x.ear(0, 63);
            due.is("all", x.courses(), 6);
            x.ear(1, 3);
            x.log(1, 0, 1);
            x.ear(2, 6);
            x.log(2, 0, 1);
            due.is("1 by both", x.courses(), 1);
            due.is("that is it", x.course(0, 0), 1);
            // With TORN LOGS nothing is told.
            x.log(1, 0, 2);
            due.is("0 is TORN: 1 and 2", x.courses(), 2);
        }
    }

    private static void misses() {
        due.about("Terms: and 0 where it hears it MISSES (0 .. 3; 0 at first) times at most, together");
        // So many 0 of EARS that hear everywhere, over TICKS and EARS.
        int[][] places = {{0, 0}, {0, 1}, {5, 0}, {5, 4}};
        for (int missed = 0; missed <= 4; missed++) {
            EarField x = open(5);
            x.ear(0, 63);
            x.ear(5, 63);
            for (int i = 0; i < missed; i++) x.log(places[i][0], places[i][1], 0);
            for (int misses = 0; misses <= 3; misses++) {
                x.set(6, misses);
                due.is(missed + " missed, MISSES " + misses, x.courses(), missed <= misses ? 7776 : 0);
                due.is("QUARREL", x.quarrel() == 0 ? 1 : 0, missed <= misses ? 1 : 0);
                due.is("JUDGED", x.judge(0, 0, 0, 0, 4), missed <= misses ? 2 : 3);
            }
        }
        EarField y = open(1);
        for (int ear = 0; ear < 6; ear++) {
            y.ear(ear, 63 >> ear);
            y.log(ear, 0, 0);
        }
        // SPOT s is heard by 6 less s of them: those that hear it at most MISSES times.
        for (int misses = 0; misses <= 3; misses++) {
            y.set(6, misses);
            due.is("MISSES " + misses, y.courses(), misses);
            for (int spot = 0; spot < 6; spot++) {
                int judged = misses == 0 ? 3 : 6 - spot > misses ? 0 : misses == 1 ? 1 : 2;
                due.is("SPOT " + spot + " with MISSES " + misses, y.judge(0, spot, 0, 0, 0), judged);
            }
        }
    }

    private interface Claim {
        int of(EarField x, int sort, int c, int d, int a, int b);
    }

    private static void claimsRefused() {
        claimsRefused("42: judge", EarField::judge);
        claimsRefused("44: settle", EarField::settle);
    }

    private static void claimsRefused(String about, Claim claim) {
        due.about(about + ": UNKNOWN: SPOTS, TICKS; OUTSIDE: sort, d, a above b");
        for (int s = 0; s <= 1; s++) {
            int sort = s;
            rich.outside("c of sort " + s, 0, 5, (y, v) -> claim.of(y, sort, v, 0, 0, 2), -2);
            rich.outside("a of sort " + s, 0, 2, (y, v) -> claim.of(y, sort, 1, 0, v, 2), -2);
            rich.outside("b of sort " + s, 0, 2, (y, v) -> claim.of(y, sort, 1, 0, 0, v), -2);
            for (int a = 1; a <= 2; a++) {
                int from = a;
                rich.is("a above b", y -> claim.of(y, sort, 1, 0, from, from - 1), -3);
            }
            rich.is("a far above b", y -> claim.of(y, sort, 1, 0, 2, 0), -3);
        }
        rich.outside("d of sort 1", 0, 5, (y, v) -> claim.of(y, 1, 1, v, 0, 2), -2);
        rich.outside("d of sort 0", 0, 0, (y, v) -> claim.of(y, 0, 1, v, 0, 2), -3);
        for (int d = 1; d <= 6; d++) {
            int later = d;
            rich.is("d of sort 0", y -> claim.of(y, 0, 1, later, 0, 2), -3);
        }
        rich.outside("sort", 0, 1, (y, v) -> claim.of(y, v, 1, 0, 0, 2), -3);
        rich.outside("UNKNOWN ahead of OUTSIDE: c, sort", 0, 1, (y, v) -> claim.of(y, v, 6, 0, 0, 2), -2);
        rich.outside("UNKNOWN ahead of OUTSIDE: a, sort", 0, 1, (y, v) -> claim.of(y, v, 1, 0, -1, 2), -2);
        rich.outside("UNKNOWN ahead of OUTSIDE: b, sort", 0, 1, (y, v) -> claim.of(y, v, 1, 0, 0, 3), -2);
        rich.is("UNKNOWN ahead of OUTSIDE: a above b", y -> claim.of(y, 0, 1, 0, 3, 2), -2);
        rich.is("UNKNOWN ahead of OUTSIDE: d, a above b", y -> claim.of(y, 1, 1, 6, 2, 1), -2);
        rich.is("UNKNOWN ahead of OUTSIDE: c, d of sort 0", y -> claim.of(y, 0, -1, 1, 0, 2), -2);
    }

    private static void claimSpots() {
        due.about("Terms: CLAIMS: SPOTS 0 .. 5");
        for (int c = 0; c < 6; c++) {
            for (int d = 0; d < 6; d++) {
                EarField x = open(2);
                x.ear(0, 1 << c);
                x.ear(1, 1 << d);
                x.log(0, 0, 1);
                x.log(1, 1, 1);
                due.is(c + " and then " + d, x.judge(1, c, d, 0, 1), 1);
                due.is("settled", x.settle(1, c, d, 0, 1), 0);
                for (int spot = 0; spot < 6; spot++) {
                    due.is("in " + spot, x.judge(0, spot, 0, 0, 1), spot == c || spot == d ? 1 : 0);
                    if (spot != d) due.is("in " + c + " then " + spot, x.judge(1, c, spot, 0, 1), 0);
                    if (spot != c) due.is("in " + spot + " then " + d, x.judge(1, spot, d, 0, 1), 0);
                }
            }
        }
    }

    // One course alone: 0 1 2 1 0, told by EARS.
    private static EarField known() {
        EarField x = open(5);
        int[] spots = {0, 1, 2, 1, 0};
        for (int ear = 0; ear < 3; ear++) {
            x.ear(ear, 1 << ear);
            for (int tick = 0; tick < 5; tick++) x.log(ear, tick, spots[tick] == ear ? 1 : 0);
        }
        return x;
    }

    private static void claimTicks() {
        due.about("Terms: 0 the BEAST was in SPOT c in some TICK a .. b");
        int[] spots = {0, 1, 2, 1, 0};
        EarField x = known();
        due.is("one COURSE", x.courses(), 1);
        for (int c = 0; c < 4; c++) {
            for (int a = 0; a < 5; a++) {
                boolean was = false;
                for (int b = a; b < 5; b++) {
                    was |= spots[b] == c;
                    due.is(c + " within " + a + " .. " + b, x.judge(0, c, 0, a, b), was ? 1 : 0);
                }
            }
        }
    }

    private static void laterTick() {
        due.about("Terms: 1 it was in c, and in some later TICK (within a .. b both) in d");
        int[] spots = {0, 1, 2, 1, 0};
        EarField x = known();
        for (int c = 0; c < 4; c++) {
            for (int d = 0; d < 4; d++) {
                for (int a = 0; a < 5; a++) {
                    for (int b = a; b < 5; b++) {
                        boolean was = false;
                        for (int i = a; i <= b; i++) for (int j = i + 1; j <= b; j++) was |= spots[i] == c && spots[j] == d;
                        due.is(c + ", then " + d + " within " + a + " .. " + b, x.judge(1, c, d, a, b), was ? 1 : 0);
                    }
                }
            }
        }
    }

    private static void judged() {
        due.about("Terms: 1 SURE; 0 by none; 2 OPEN; 3 no COURSE AGREES");
        // So many SPOTS may be; the CLAIM is of the least of them.
        for (int may = 0; may <= 6; may++) {
            EarField x = open(1);
            x.ear(3, (1 << may) - 1);
            x.log(3, 0, 1);
            due.is("may be " + may, x.courses(), may);
            due.is("SPOT 0 of " + may, x.judge(0, 0, 0, 0, 0), may == 0 ? 3 : may == 1 ? 1 : 2);
            due.is("SPOT 5 of " + may, x.judge(0, 5, 0, 0, 0), may == 0 ? 3 : may == 6 ? 2 : 0);
            due.is("no later TICK of " + may, x.judge(1, 0, 0, 0, 0), may == 0 ? 3 : 0);
        }
        // The last COURSE alone makes it OPEN, or not SURE.
        EarField y = open(5);
        due.is("5 in all TICKS, but for one", y.judge(0, 5, 0, 4, 4), 2);
        y.ear(0, 31);
        for (int tick = 0; tick < 5; tick++) y.log(0, tick, 0);
        due.is("5 always", y.judge(0, 5, 0, 4, 4), 1);
        due.is("4 never", y.judge(0, 4, 0, 0, 4), 0);
        y.log(0, 4, 2);
        due.is("5 till 3", y.judge(0, 5, 0, 3, 4), 1);
        due.is("5 in 4", y.judge(0, 5, 0, 4, 4), 2);
    }

    private static void quarrelSizes() {
        due.about("Terms: QUARREL: the fewest EARS (no LIARS) whose LOGS, left out too, let some COURSE AGREE");
        // EARS that hear nowhere and heard all the same: all of them must go.
        for (int set = 0; set < 64; set++) {
            EarField x = open(1);
            for (int ear = 0; ear < 6; ear++) if ((set >> ear & 1) == 1) x.log(ear, 0, 1);
            due.is("all of " + set, x.quarrel(), set);
            x.liars(set & 21);
            due.is("but for LIARS of " + set, x.quarrel(), set & ~21);
        }
        due.about("43: NONE: not even all, which cannot be: without LOGS all COURSES AGREE");
        EarField y = new EarField();
        for (int ear = 0; ear < 6; ear++) for (int tick = 0; tick < 4; tick++) y.log(ear, tick, 1);
        due.is("all EARS", y.quarrel(), 63);
        y.liars(63);
        due.is("all are LIARS", y.quarrel(), 0);
    }

    private static void quarrelOrder() {
        due.about("Terms: of several the least number");
        // Each of two says that it was elsewhere: the lesser one goes.
        for (int a = 0; a < 6; a++) {
            for (int b = 0; b < a; b++) {
                EarField x = open(1);
                x.ear(a, 1);
                x.ear(b, 2);
                x.log(a, 0, 1);
                x.log(b, 0, 1);
                due.is(b + " against " + a, x.quarrel(), 1 << b);
            }
        }
        // One against two: that one goes, whatever its number.
        for (int one = 0; one < 3; one++) {
            EarField x = open(1);
            for (int ear = 0; ear < 3; ear++) {
                x.ear(ear, ear == one ? 1 : 2);
                x.log(ear, 0, 1);
            }
            due.is(one + " against two", x.quarrel(), 1 << one);
        }
        // Three against three: 0 1 2 is 7, 3 4 5 is 56; then 0 2 4 is 21, 1 3 5 is 42.
        EarField y = open(1);
        for (int ear = 0; ear < 6; ear++) {
            y.ear(ear, ear < 3 ? 1 : 2);
            y.log(ear, 0, 1);
        }
        due.is("7", y.quarrel(), 7);
        for (int ear = 0; ear < 6; ear++) y.ear(ear, ear % 2 == 0 ? 1 : 2);
        due.is("21", y.quarrel(), 21);
        y.log(0, 0, 2);
        due.is("two against three", y.quarrel(), 20);
        y.log(1, 0, 2);
        y.log(3, 0, 2);
        due.is("two against one", y.quarrel(), 32);
        // WAYS and MISSES count in it.
        EarField z = new EarField();
        z.days(3);
        z.ear(0, 1);
        z.ear(1, 4);
        z.log(0, 0, 1);
        z.log(1, 2, 1);
        due.is("no way from 0 to 2", z.quarrel(), 1);
        z.way(0, 1, true);
        due.is("half a way", z.quarrel(), 1);
        z.way(1, 2, true);
        due.is("in two TICKS", z.quarrel(), 0);
        z.ear(2, 2);
        z.log(2, 1, 0);
        due.is("not heard on the way", z.quarrel(), 1);
        z.set(6, 1);
        due.is("that may be MISSED", z.quarrel(), 0);
    }

    private static void quarrelByWays() {
        due.about("Terms: from TICK to TICK stays or goes a WAY, in a QUARREL too");
        // A line 0 1 2 3 4 5: so far as there are TICKS between, and no farther; forth and back.
        for (int from = 0; from < 6; from++) {
            for (int to = 0; to < 6; to++) {
                for (int days = 2; days <= 5; days++) {
                    EarField x = new EarField();
                    x.days(days);
                    for (int spot = 0; spot < 5; spot++) x.way(spot, spot + 1, true);
                    x.ear(0, 1 << from);
                    x.ear(1, 1 << to);
                    x.log(0, 0, 1);
                    x.log(1, days - 1, 1);
                    boolean can = Math.abs(from - to) < days;
                    due.is(from + " to " + to + " in " + days, x.quarrel(), can ? 0 : 1);
                    due.is("some COURSE", x.courses() > 0 ? 1 : 0, can ? 1 : 0);
                    due.is("told again", x.quarrel(), can ? 0 : 1);
                }
            }
        }
    }

    private static void quarrelWithLiars() {
        due.about("Terms: EARS (no LIARS)");
        for (int liar = 0; liar < 6; liar++) {
            EarField x = open(1);
            for (int ear = 0; ear < 6; ear++) {
                x.ear(ear, 1 << ear);
                x.log(ear, 0, 1);
            }
            due.is("all but the last", x.quarrel(), 31);
            x.liars(1 << liar);
            // Five are left, of which four must go: all but the last of them.
            due.is("without " + liar, x.quarrel(), liar == 5 ? 15 : 31 & ~(1 << liar));
        }
    }

    private static void settledSizes() {
        due.about("Terms: SETTLED by a set of EARS; FEWEST: the least such set in EARS; none");
        for (int ears = 0; ears <= 6; ears++) {
            EarField x = open(1);
            // SPOT by bits: three EARS tell all SPOTS apart.
            for (int ear = 0; ear < 3 && ear < ears; ear++) {
                int spots = 0;
                for (int spot = 0; spot < 6; spot++) if ((spot >> ear & 1) == 1) spots |= 1 << spot;
                x.ear(ear, spots);
            }
            due.is("SPOT 3 with " + ears + " EARS", x.settle(0, 3, 0, 0, 0), ears < 2 ? -1 : 3);
            due.is("SPOT 0 with " + ears + " EARS", x.settle(0, 0, 0, 0, 0), ears < 3 ? -1 : 7);
        }
        // Over two TICKS each of six EARS keeps apart what no other one does.
        for (int ears = 1; ears <= 6; ears++) {
            EarField x = six();
            x.liars(63 & ~((1 << ears) - 1));
            due.is("all six EARS but the last", x.settle(0, 0, 0, 0, 1), ears == 6 ? 63 : -1);
        }
    }

    // Each EAR hears one SPOT, and is TORN in one TICK alone: 0 in 1, the others in 0.
    private static EarField six() {
        EarField x = open(2);
        x.set(6, 2);
        for (int ear = 0; ear < 6; ear++) {
            x.ear(ear, 1 << ear);
            x.log(ear, ear == 0 ? 0 : 1, 0);
        }
        return x;
    }

    private static void settledOrder() {
        due.about("Terms: then in number");
        for (int a = 0; a < 6; a++) {
            for (int b = 0; b <= a; b++) {
                EarField x = open(1);
                x.ear(a, 4);
                x.ear(b, 59);
                due.is("either of " + b + " and " + a, x.settle(0, 2, 0, 0, 0), 1 << b);
                x.liars(1 << b);
                due.is("without " + b, x.settle(0, 2, 0, 0, 0), a == b ? -1 : 1 << a);
                due.is("by none", x.settle(1, 2, 2, 0, 0), 0);
            }
        }
        // One EAR goes ahead of two, whatever its number.
        EarField y = open(1);
        y.ear(0, 8 | 4);
        y.ear(1, 8 | 2);
        due.is("two", y.settle(0, 3, 0, 0, 0), 3);
        y.ear(5, 8);
        due.is("one", y.settle(0, 3, 0, 0, 0), 32);
        y.liars(32);
        due.is("two again", y.settle(0, 3, 0, 0, 0), 3);
        y.ear(4, 8 | 1);
        due.is("the least two", y.settle(0, 3, 0, 0, 0), 3);
        y.liars(33);
        due.is("without 0", y.settle(0, 3, 0, 0, 0), 18);
    }

    private static void settledByTorn() {
        due.about("Terms: heard alike by all EARS of the set in all TICKS that are TORN there");
        for (int days = 1; days <= 5; days++) {
            for (int tick = 0; tick < days; tick++) {
                EarField x = open(days);
                x.ear(2, 8);
                due.is("TORN in all", x.settle(0, 3, 0, tick, tick), 4);
                x.set(6, 1);
                x.log(2, tick, 0);
                due.is("not in " + tick + " of " + days, x.settle(0, 3, 0, tick, tick), -1);
                x.set(6, 0);
                due.is("and not there at all", x.settle(0, 3, 0, tick, tick), 0);
                x.log(2, tick, 1);
                due.is("or there", x.settle(0, 3, 0, tick, tick), 0);
            }
        }
        // What is heard in one TICK tells of the next, by WAYS.
        EarField y = new EarField();
        y.days(2);
        y.ear(2, 8);
        y.set(6, 3);
        y.log(2, 0, 0);
        due.is("it stays", y.settle(0, 3, 0, 0, 0), 4);
        y.way(3, 4, true);
        due.is("it may go", y.settle(0, 3, 0, 0, 0), -1);
        y.ear(3, 16 | 8);
        due.is("3 heard it all the while", y.settle(0, 3, 0, 0, 0), -1);
        y.ear(3, 8);
        due.is("3 tells it apart", y.settle(0, 3, 0, 0, 0), 8);
    }

    private static void settledNoCourse() {
        due.about("Terms: no two by which the CLAIM is otherwise");
        EarField x = open(5);
        x.log(0, 0, 1);
        due.is("no COURSE", x.settle(0, 3, 0, 0, 4), 0);
        x.ear(0, 8);
        due.is("one SPOT in 0", x.settle(0, 3, 0, 0, 0), 0);
        due.is("SURE", x.settle(0, 3, 0, 0, 4), 0);
        due.is("OPEN in 1", x.settle(0, 3, 0, 1, 1), 1);
        due.is("OPEN in 4", x.settle(0, 3, 0, 4, 4), 1);
        due.is("none hears 2", x.settle(0, 2, 0, 4, 4), -1);
        due.is("3, and later 3", x.settle(1, 3, 3, 0, 4), 1);
        due.is("3, and later 2", x.settle(1, 3, 2, 0, 4), -1);
        x.ear(4, 4);
        due.is("4 hears 2", x.settle(1, 3, 2, 0, 4), 16);
        due.is("2, and later 3", x.settle(1, 2, 3, 0, 4), 17);
    }

    private static void counts() {
        due.about("45: what 0 .. 6; OUTSIDE");
        rich.outside("what", 0, 6, (y, v) -> y.count(v), -3);
        int[] dueCounts = {7, 6, 6, 11, 3, 1, 3};
        EarField x = Refusal.rich();
        for (int what = 0; what < 7; what++) due.is("count " + what, x.count(what), dueCounts[what]);
        due.is("BOXES", x.box(0, 0), 7);
        due.is("one more", x.count(0), 8);
        due.is("but DEAD", x.count(1), 6);
        x.power(7, 1);
        due.is("those not DEAD", x.count(1), 7);
        x.erase();
        due.is("bytes", x.count(3), 0);
        x.ticks(60);
        due.is("THE TICK", x.count(2), 66);
        x.fact(1, 0, 1, 5, 4);
        due.is("a refused FACT", x.count(4), 3);
        x.program(9, 5);
        due.is("a refused PROGRAM", x.count(5), 1);
        x.days(6);
        due.is("a refused T", x.count(6), 3);
    }
}
