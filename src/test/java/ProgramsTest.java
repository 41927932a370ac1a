// Promises 30 to 34.
public final class ProgramsTest {
    private static final Due due = new Due();

    public static void main(String[] args) {
        programs();
        handing();
        givers();
        tearing();
        beginning();
        due.end("ProgramsTest");
    }

    private static void programs() {
        due.about("30");
        EarField x = new EarField();
        due.is("OUTSIDE first", x.program(0, 5), -3);
        due.is("no box", x.program(1, 5), -4);
        x.box(0, 100);
        x.box(0, 100);
        due.is("n 9", x.program(9, 5), -3);
        due.is("the first", x.program(2, -1L), 1);
        due.is("has", x.has(0, 0), 3);
        due.is("the other one none", x.has(1, 0), 0);
        x.hears(1, 0, true);
        x.hand();
        due.is("one part", x.has(1, 0), 1);
        due.is("the second", x.program(1, 7), 2);
        due.is("none but the root has any", x.has(1, 0), 0);
        due.is("the root's", x.has(0, 0), 1);
        due.is("programs", x.count(5), 2);
    }

    private static void handing() {
        due.about("31");
        EarField x = Due.chain(3, 100);
        due.is("no program", x.hand(), 0);
        x.program(2, 0x0201);
        due.is("1 gets part 0", x.hand(), 1);
        due.is("not 2 at once", x.has(2, 0), 0);
        due.is("root: say", x.at(0, 0), 95);
        due.is("1: hear", x.at(1, 0), 98);
        due.is("1 gets part 1, 2 part 0", x.hand(), 2);
        due.is("1: hear and say", x.at(1, 0), 91);
        due.is("2", x.has(2, 0), 1);
        due.is("2 gets part 1", x.hand(), 1);
        due.is("all", x.hand(), 0);
        due.is("sound", x.has(2, 1), 1);
        x.program(1, 9);
        x.power(1, 0);
        due.is("the dead get none", x.hand(), 0);
        x.power(1, 1);
        due.is("with little power", x.hand(), 1);
        due.is("died of it", x.count(1), 2);
        due.is("the dead give none", x.hand(), 0);
        // By what was ahead: the root dies of the first giving, and gives to the second too.
        EarField y = new EarField();
        for (int i = 0; i < 3; i++) y.box(0, 5);
        y.hears(1, 0, true);
        y.hears(2, 0, true);
        y.program(1, 3);
        due.is("both", y.hand(), 2);
        due.is("dead", y.at(0, 0), 0);
        // Being heard is not enough.
        EarField z = new EarField();
        z.box(0, 50);
        z.box(0, 50);
        z.hears(0, 1, true);
        z.program(1, 3);
        due.is("1 hears nobody", z.hand(), 0);
    }

    private static void givers() {
        due.about("31: from whom");
        EarField x = new EarField();
        for (int i = 0; i < 4; i++) x.box(0, 100);
        x.program(2, 0x0504);
        x.hears(1, 0, true);
        x.hears(2, 0, true);
        x.hand();
        x.tear(1, 0, 40);
        x.tear(2, 0, 50);
        x.hears(3, 2, true);
        x.hears(3, 1, true);
        x.hears(1, 0, false);
        x.hears(2, 0, false);
        due.is("3 gets a torn part", x.hand(), 1);
        due.is("as the least has it", x.tear(3, 0, 4), 40);
        due.is("1 spent for it", x.at(1, 0), 93);
        due.is("2 did not", x.at(2, 0), 98);
        x.hears(3, 0, true);
        due.is("then part 1", x.hand(), 1);
        due.is("as the root has it", x.tear(3, 1, 5), 5);
        due.is("sound with the right sum", x.has(3, 1), 1);
    }

    private static void tearing() {
        due.about("32, 33");
        EarField x = Due.chain(3, 100);
        due.is("no program: no part", x.tear(1, 0, 1), -2);
        due.is("no program: nothing is sound", x.has(0, 1), 0);
        x.program(2, 0xfbfb);
        x.hand();
        x.hand();
        due.is("all of it", x.has(1, 0), 3);
        due.is("sound", x.has(1, 1), 1);
        due.is("the root", x.tear(0, 0, 1), -2);
        due.is("no such box", x.tear(3, 0, 1), -2);
        due.is("no such part", x.tear(1, 2, 1), -2);
        due.is("no part below 0", x.tear(1, -1, 1), -2);
        due.is("UNKNOWN first", x.tear(1, 2, 256), -2);
        due.is("256", x.tear(1, 0, 256), -3);
        due.is("-1", x.tear(1, 0, -1), -3);
        due.is("OUTSIDE ahead of NOT", x.tear(2, 1, 256), -3);
        due.is("has it not", x.tear(2, 1, 1), -4);
        due.is("was 251", x.tear(1, 0, 3), 251);
        due.is("not sound", x.has(1, 1), 0);
        due.is("was 3", x.tear(1, 0, 0), 3);
        due.is("0 is as good as 251", x.has(1, 1), 1);
        due.is("what 3", x.has(1, 3), -3);
        due.is("what -1", x.has(1, -1), -3);
        due.is("UNKNOWN first", x.has(3, 3), -2);
        due.is("runs none", x.has(1, 2), 0);
        due.is("a part is lacking", x.has(2, 1), 0);
    }

    private static void beginning() {
        due.about("34");
        EarField x = Due.chain(3, 100);
        due.is("OUTSIDE first", x.begin(8), -3);
        due.is("below 0", x.begin(-1), -3);
        due.is("no program", x.begin(7), -4);
        x.program(1, 9);
        due.is("2 has it not", x.begin(5), 0);
        due.is("so none does", x.has(0, 2), 0);
        due.is("none in it", x.begin(0), 0);
        due.is("the root alone", x.begin(1), 1);
        due.is("runs 1", x.has(0, 2), 1);
        x.hand();
        x.power(2, 0);
        due.is("the dead do not matter", x.begin(7), 2);
        due.is("1 runs it", x.has(1, 2), 1);
        due.is("the dead one does not", x.has(2, 2), 0);
        x.program(1, 9);
        due.is("runs the old one on", x.has(1, 2), 1);
        due.is("all or none", x.begin(3), 0);
        due.is("the root runs 1 still", x.has(0, 2), 1);
        due.is("the root begins 2", x.begin(1), 1);
        due.is("runs 2", x.has(0, 2), 2);
    }
}
