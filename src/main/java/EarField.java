import java.util.Arrays;

// A field of ears: boxes that sleep, speak and are heard, and the questions asked of them.
// The face refuses what cannot be; the classes inside do the work on what is left.
public final class EarField {
    public static final int NONE = -1, UNKNOWN = -2, OUTSIDE = -3, NOT = -4, FULL = -5;

    private final Boxes boxes;
    private final Text text;
    private final Air air;
    private final Foresight foresight;
    private final Bearings bearings;
    private final Programs programs;
    private final Court court;

    public EarField() {
        boxes = new Boxes();
        text = new Text();
        air = new Air(boxes);
        foresight = new Foresight(boxes, air.question);
        bearings = new Bearings(boxes);
        programs = new Programs(boxes);
        court = new Court(boxes);
    }

    // ---- boxes

    public int box(int branch, int power) {
        if (outside(branch, 0, 1) || outside(power, 0, Boxes.MOST_POWER)) return OUTSIDE;
        return boxes.add(branch, power);
    }

    public int hears(int a, int b, boolean is) {
        if (!boxes.knows(a) || !boxes.knows(b) || a == b) return UNKNOWN;
        Box box = boxes.of(a);
        int was = box.ears >> b & 1;
        box.ears = is ? box.ears | 1 << b : box.ears & ~(1 << b);
        return was;
    }

    public int sleep(int box, int p, int bits) {
        if (!boxes.knows(box)) return UNKNOWN;
        if (outside(p, 1, 12) || outside(bits, 0, (1 << p) - 1)) return OUTSIDE;
        Box sleeper = boxes.of(box);
        sleeper.period = p;
        sleeper.sleepRow = bits;
        return 1;
    }

    public int clock(int box, int drift, int offset) {
        if (!boxes.knows(box)) return UNKNOWN;
        if (outside(drift, -20, 20) || outside(offset, -50, 50)) return OUTSIDE;
        Box owner = boxes.of(box);
        owner.drift = drift;
        owner.offset = offset;
        return 1;
    }

    public int set(int what, int v) {
        if (!boxes.maySet(what, v)) return OUTSIDE;
        int was = boxes.setting(what);
        boxes.change(what, v);
        return was;
    }

    public int power(int box, int v) {
        if (!boxes.knows(box)) return UNKNOWN;
        if (outside(v, 0, Boxes.MOST_POWER)) return OUTSIDE;
        Box owner = boxes.of(box);
        int was = owner.power;
        owner.power = v;
        return was;
    }

    public int at(int box, int what) {
        if (!boxes.knows(box)) return UNKNOWN;
        Box asked = boxes.of(box);
        switch (what) {
            case 0: return asked.power;
            case 1: return asked.countNow();
            case 2: return asked.parent;
            case 3: return asked.localHour(boxes.tick);
            case 4: return asked.isAwake(boxes.tick) ? 1 : 0;
            case 5: return asked.row.size;
            default: return OUTSIDE;
        }
    }

    public int rounds(int n) {
        if (outside(n, 1, 20)) return OUTSIDE;
        int changed = 0;
        for (int i = 0; i < n; i++) {
            if (boxes.mend()) changed++;
        }
        return changed;
    }

    public int rings() {
        return boxes.countRings();
    }

    public int say(int box, int value) {
        if (!boxes.knows(box)) return UNKNOWN;
        if (outside(value, 0, 999)) return OUTSIDE;
        Box sayer = boxes.of(box);
        if (box == 0 || sayer.isDead()) return NOT;
        if (sayer.row.isFull()) return FULL;
        sayer.row.addWord(value);
        return sayer.row.size;
    }

    public int ticks(int n) {
        if (outside(n, 1, 60) || boxes.tick + n > 9000) return OUTSIDE;
        for (int i = 0; i < n; i++) air.pass();
        return boxes.tick;
    }

    public int lost(int cause) {
        if (outside(cause, 0, Air.SAID)) return OUTSIDE;
        return air.told(cause);
    }

    public int kept(int i) {
        if (i < 0) return OUTSIDE;
        return air.wordKept(i);
    }

    // ---- questions

    public int write(long bytes, int n) {
        if (outside(n, 1, 8)) return OUTSIDE;
        if (text.size + n > Text.MOST) return FULL;
        for (int i = 0; i < n; i++) text.add((int) (bytes >> 8 * i & 255));
        return text.size;
    }

    public int erase() {
        int was = text.size;
        text.size = 0;
        return was;
    }

    public int fault() {
        return text.read();
    }

    public int ask() {
        if (text.read() != NONE) return NOT;
        air.pose(text.draft);
        text.size = 0;
        return air.question.every;
    }

    public int loud(int box, int hour, int v) {
        if (!boxes.knows(box)) return UNKNOWN;
        if (outside(hour, 0, 23) || outside(v, 0, Box.NOT_KNOWN)) return OUTSIDE;
        Box owner = boxes.of(box);
        int was = owner.loudness[hour];
        owner.loudness[hour] = v;
        return was;
    }

    public int lies(int box, int v) {
        if (!boxes.knows(box)) return UNKNOWN;
        if (outside(v, 0, Box.NOT_KNOWN)) return OUTSIDE;
        Box owner = boxes.of(box);
        int was = owner.lie;
        owner.lie = v;
        return was;
    }

    public int result(int what) {
        if (outside(what, 0, 6)) return OUTSIDE;
        if (!air.question.isAsked()) return NOT;
        Sum sum = air.result;
        switch (what) {
            case 0: return sum.isEmpty() ? NONE : sum.least;
            case 1: return sum.isEmpty() ? NONE : sum.most;
            case 2: return sum.many;
            case 3: return sum.all;
            case 4: return sum.whom;
            case 5: return air.question.answerAbove(sum);
            default: return air.question.answerBelow(sum);
        }
    }

    // ---- power foretold

    public int foretold(int box, int n) {
        if (!boxes.knows(box)) return UNKNOWN;
        if (outside(n, 0, Foresight.LONGEST_LIFE)) return OUTSIDE;
        return foresight.spentIn(box, n);
    }

    public int life(int box) {
        if (!boxes.knows(box)) return UNKNOWN;
        return foresight.lifeNow(box);
    }

    public int longest() {
        return foresight.findLongest();
    }

    public int best(int box) {
        if (!boxes.knows(box)) return UNKNOWN;
        if (foresight.findLongest() == NOT) return NOT;
        return foresight.parentInLongest(box);
    }

    // ---- hours, places

    public int fact(int by, int a, int b, int lo, int hi) {
        if (!boxes.knows(by) || !boxes.knows(a) || !boxes.knows(b) || a == b) return UNKNOWN;
        if (outside(lo, -999, 999) || outside(hi, -999, 999) || lo > hi) return OUTSIDE;
        return bearings.addFact(by, a, b, lo, hi);
    }

    public int hour(int box, int m, int way) {
        if (!boxes.knows(box) || outside(m, 0, 2) || outside(way, 0, 1)) return Integer.MIN_VALUE;
        return bearings.aheadOfRoot(box, m, way == 1);
    }

    public int place(int box, int cell) {
        if (!boxes.knows(box)) return UNKNOWN;
        if (outside(cell, 0, Box.NO_PLACE)) return OUTSIDE;
        Box owner = boxes.of(box);
        int was = owner.cell;
        owner.cell = cell;
        return was;
    }

    public long cells(int box, int m) {
        if (!boxes.knows(box)) return UNKNOWN;
        if (outside(m, 0, 2)) return OUTSIDE;
        return bearings.mayBe(box, m);
    }

    // ---- programs

    public int program(int n, long values) {
        if (outside(n, 1, Programs.MOST_PARTS)) return OUTSIDE;
        if (boxes.many == 0) return NOT;
        return programs.take(n, values);
    }

    public int hand() {
        return programs.handOn();
    }

    public int tear(int box, int part, int v) {
        if (!boxes.knows(box) || box == 0 || !programs.hasPart(part)) return UNKNOWN;
        if (outside(v, 0, 255)) return OUTSIDE;
        Box owner = boxes.of(box);
        if ((owner.parts >> part & 1) == 0) return NOT;
        int was = owner.partValue(part);
        owner.takePart(part, v);
        return was;
    }

    public int has(int box, int what) {
        if (!boxes.knows(box)) return UNKNOWN;
        Box asked = boxes.of(box);
        switch (what) {
            case 0: return asked.parts;
            case 1: return programs.isSound(asked) ? 1 : 0;
            case 2: return asked.runs;
            default: return OUTSIDE;
        }
    }

    public int begin(int area) {
        if (outside(area, 0, (1 << boxes.many) - 1)) return OUTSIDE;
        if (programs.number == 0) return NOT;
        return programs.beginIn(area);
    }

    // ---- the court

    public int days(int t) {
        if (outside(t, 1, Court.MOST_DAYS)) return OUTSIDE;
        int was = court.length;
        court.sitFor(t);
        return was;
    }

    public int way(int a, int b, boolean is) {
        if (!court.hasSpot(a) || !court.hasSpot(b) || a == b) return UNKNOWN;
        return court.layWay(a, b, is);
    }

    public int ear(int ear, int spots) {
        if (!court.hasEar(ear)) return UNKNOWN;
        if (outside(spots, 0, 63)) return OUTSIDE;
        int was = court.earSpots[ear];
        court.earSpots[ear] = spots;
        return was;
    }

    public int log(int ear, int tick, int v) {
        if (!court.hasEar(ear) || !court.hasTick(tick)) return UNKNOWN;
        if (outside(v, 0, Court.TORN)) return OUTSIDE;
        return court.writeLog(ear, tick, v);
    }

    public int liars(int set) {
        if (outside(set, 0, 63)) return OUTSIDE;
        int was = court.liarSet;
        court.liarSet = set;
        return was;
    }

    public int courses() {
        return court.listCourses();
    }

    public int course(int k, int i) {
        if (!court.hasTick(i) || k < 0 || k >= court.listCourses()) return UNKNOWN;
        return court.spotOfCourse(k, i);
    }

    public int judge(int sort, int c, int d, int a, int b) {
        int refused = refusedClaim(sort, c, d, a, b);
        if (refused < 0) return refused;
        court.claim(sort, c, d, a, b);
        return court.verdict();
    }

    public int quarrel() {
        return court.fewestQuarrelling();
    }

    public int settle(int sort, int c, int d, int a, int b) {
        int refused = refusedClaim(sort, c, d, a, b);
        if (refused < 0) return refused;
        court.claim(sort, c, d, a, b);
        return court.fewestSettling();
    }

    public int count(int what) {
        switch (what) {
            case 0: return boxes.many;
            case 1: return boxes.countLiving();
            case 2: return boxes.tick;
            case 3: return text.size;
            case 4: return bearings.facts;
            case 5: return programs.number;
            case 6: return court.length;
            default: return OUTSIDE;
        }
    }

    // Only a CLAIM of sort 1 has a second SPOT; for sort 0, d is a number that must be 0.
    private int refusedClaim(int sort, int c, int d, int a, int b) {
        if (!court.hasSpot(c) || sort == 1 && !court.hasSpot(d)) return UNKNOWN;
        if (!court.hasTick(a) || !court.hasTick(b)) return UNKNOWN;
        if (outside(sort, 0, 1) || sort == 0 && d != 0 || a > b) return OUTSIDE;
        return 0;
    }

    private static boolean outside(int v, int least, int most) {
        return v < least || v > most;
    }

    // What some boxes told, added up so that each of them counts once.
    static final class Sum {
        int least;
        int most;
        int many;
        int all;
        int whom;

        boolean isEmpty() {
            return many == 0;
        }

        void clear() {
            least = 0;
            most = 0;
            many = 0;
            all = 0;
            whom = 0;
        }

        void start(int value, int box) {
            least = value;
            most = value;
            many = 1;
            all = value;
            whom = 1 << box;
        }

        void copy(Sum other) {
            least = other.least;
            most = other.most;
            many = other.many;
            all = other.all;
            whom = other.whom;
        }

        void join(Sum other) {
            if (other.isEmpty()) return;
            if (isEmpty()) {
                copy(other);
                return;
            }
            least = Math.min(least, other.least);
            most = Math.max(most, other.most);
            many += other.many;
            all += other.all;
            whom |= other.whom;
        }
    }

    // The words and sums that a box still has to say, the first one first.
    static final class Row {
        static final int MOST = 4;
        // No word has this value: it marks a place that holds a sum.
        static final int IS_SUM = -1;

        private final int[] values = new int[MOST];
        private final Sum[] sums = new Sum[MOST];
        int size;

        Row() {
            for (int i = 0; i < MOST; i++) sums[i] = new Sum();
        }

        boolean isFull() {
            return size >= MOST;
        }

        void addWord(int value) {
            if (isFull()) return;
            values[size] = value;
            size++;
        }

        void addSum(Sum sum) {
            if (isFull()) return;
            values[size] = IS_SUM;
            sums[size].copy(sum);
            size++;
        }

        boolean firstIsSum() {
            return size > 0 && values[0] == IS_SUM;
        }

        int firstWord() {
            return values[0];
        }

        Sum firstSum() {
            return sums[0];
        }

        void drop(int place) {
            if (place < 0 || place >= size || size > MOST) return;
            Sum free = sums[place];
            for (int i = place; i + 1 < size; i++) {
                values[i] = values[i + 1];
                sums[i] = sums[i + 1];
            }
            size--;
            // The sum is used again, so that no call makes a new one.
            sums[size] = free;
        }

        int dropSums() {
            int dropped = 0;
            for (int i = MOST - 1; i >= 0; i--) {
                if (i < size && values[i] == IS_SUM) {
                    drop(i);
                    dropped++;
                }
            }
            return dropped;
        }
    }

    static final class Box {
        static final int NOT_KNOWN = 16;
        static final int NO_PLACE = 36;

        final int number;
        int branch;
        int power;
        int period = 1;
        int sleepRow = 1;
        int drift;
        int offset;
        int parent = NONE;
        int count = NONE;
        int ears;
        int lie = NOT_KNOWN;
        int cell = NO_PLACE;
        final int[] loudness = new int[24];
        final Sum sum = new Sum();
        boolean sumSaid;
        final Row row = new Row();
        int parts;
        final int[] partValues = new int[Programs.MOST_PARTS];
        int runs;

        Box(int number) {
            this.number = number;
            Arrays.fill(loudness, NOT_KNOWN);
        }

        boolean isDead() {
            return power <= 0;
        }

        void spend(int cost) {
            power -= Math.min(power, cost);
        }

        int localHour(int tick) {
            return tick + drift * tick / 100 + offset;
        }

        // Whether its row bids it be awake, whatever power it has.
        boolean rowWakes(int tick) {
            if (period < 1) return false;
            return (sleepRow >> Math.floorMod(localHour(tick), period) & 1) == 1;
        }

        boolean isAwake(int tick) {
            return !isDead() && rowWakes(tick);
        }

        // The root needs no round to know that it is home.
        int countNow() {
            if (number != 0) return count;
            return isDead() ? NONE : 0;
        }

        boolean hearsBox(int other) {
            return (ears >> other & 1) == 1;
        }

        int loudAt(int hour) {
            if (hour < 0 || hour >= loudness.length) return NOT_KNOWN;
            return loudness[hour];
        }

        boolean hasUnsaidSum() {
            return !sum.isEmpty() && !sumSaid;
        }

        // Answers how many sums in the row went unsaid.
        int forgetSums() {
            sum.clear();
            sumSaid = false;
            return row.dropSums();
        }

        int partValue(int part) {
            if (part < 0 || part >= partValues.length) return 0;
            return partValues[part];
        }

        void takePart(int part, int value) {
            if (part < 0 || part >= partValues.length) return;
            parts |= 1 << part;
            partValues[part] = value;
        }
    }

    // All boxes, the tick and what is set for all of them.
    static final class Boxes {
        static final int MOST = 10;
        static final int MOST_POWER = 30000;
        static final int MOST_COUNT = 9;
        static final int SLEEP = 0;
        static final int AWAKE = 1;
        static final int SAY = 2;
        static final int HEAR = 3;
        static final int HOLD = 4;
        static final int REACH = 5;
        static final int MISSES = 6;
        private static final int[] LEAST_SETTING = {0, 0, 0, 0, 0, 1, 0};
        private static final int[] MOST_SETTING = {20, 20, 20, 20, 9, 5, 3};

        private final Box[] all = new Box[MOST];
        private final int[] settings = {0, 1, 5, 2, 1, 2, 0};
        private final int[] nextCount = new int[MOST];
        private final int[] nextParent = new int[MOST];
        int many;
        int tick;

        Boxes() {
            for (int i = 0; i < MOST; i++) all[i] = new Box(i);
        }

        boolean knows(int number) {
            return number >= 0 && number < many;
        }

        Box of(int number) {
            return all[number >= 0 && number < MOST ? number : 0];
        }

        int add(int branch, int power) {
            if (many >= MOST) return FULL;
            Box box = all[many];
            box.branch = branch;
            box.power = power;
            many++;
            return box.number;
        }

        boolean maySet(int what, int v) {
            if (what < 0 || what >= settings.length) return false;
            return v >= LEAST_SETTING[what] && v <= MOST_SETTING[what];
        }

        int setting(int what) {
            return what >= 0 && what < settings.length ? settings[what] : 0;
        }

        void change(int what, int v) {
            if (maySet(what, v)) settings[what] = v;
        }

        int countLiving() {
            return Integer.bitCount(living());
        }

        int living() {
            int set = 0;
            for (int i = 0; i < many; i++) {
                if (!of(i).isDead()) set |= 1 << i;
            }
            return set;
        }

        // Those that a box hears and that hear it too.
        int friends(int number) {
            int set = 0;
            for (int i = 0; i < many; i++) {
                if (of(i).hearsBox(number) && of(number).hearsBox(i)) set |= 1 << i;
            }
            return set;
        }

        int children(int number) {
            int found = 0;
            for (int i = 0; i < many; i++) {
                if (of(i).parent == number) found++;
            }
            return found;
        }

        int deepest() {
            int deepest = NONE;
            for (int i = 0; i < many; i++) deepest = Math.max(deepest, of(i).countNow());
            return deepest;
        }

        // One round; all boxes look before any of them changes.
        boolean mend() {
            int living = living();
            for (int i = 1; i < many && i < MOST; i++) lookHome(i, living & friends(i));
            boolean changed = false;
            for (int i = 1; i < many && i < MOST; i++) {
                Box box = of(i);
                if (box.isDead()) continue;
                if (box.count != nextCount[i] || box.parent != nextParent[i]) changed = true;
                box.count = nextCount[i];
                box.parent = nextParent[i];
            }
            return changed;
        }

        private void lookHome(int number, int friends) {
            if (number < 0 || number >= MOST) return;
            nextCount[number] = NONE;
            nextParent[number] = NONE;
            int least = MOST_COUNT;
            for (int i = 0; i < many; i++) {
                if ((friends >> i & 1) == 0) continue;
                int count = of(i).countNow();
                if (count == NONE || count >= least) continue;
                least = count;
                nextCount[number] = count + 1;
                nextParent[number] = i;
            }
        }

        int countRings() {
            int rings = 0;
            for (int i = 0; i < many; i++) {
                if (isLeastOfRing(i)) rings++;
            }
            return rings;
        }

        // A ring is counted at its least box, so that it counts once.
        private boolean isLeastOfRing(int number) {
            int next = of(number).parent;
            for (int i = 0; i < MOST; i++) {
                if (next == number) return true;
                if (next < number) return false;
                next = of(next).parent;
            }
            return false;
        }
    }

    // What is asked of the boxes.
    static final class Question {
        static final int LEAST = 0;
        static final int MOST = 1;
        static final int MEAN = 2;
        static final int COUNT = 3;
        static final int MOST_CONDS = 8;

        int kind;
        int every;
        private int conds;
        private final boolean[] ofBox = new boolean[MOST_CONDS];
        private final boolean[] above = new boolean[MOST_CONDS];
        private final int[] limits = new int[MOST_CONDS];

        boolean isAsked() {
            return every > 0;
        }

        void clear() {
            kind = LEAST;
            every = 0;
            conds = 0;
        }

        void copy(Question other) {
            kind = other.kind;
            every = other.every;
            conds = other.conds;
            for (int i = 0; i < MOST_CONDS; i++) {
                ofBox[i] = other.ofBox[i];
                above[i] = other.above[i];
                limits[i] = other.limits[i];
            }
        }

        boolean takesMoreConds() {
            return conds < MOST_CONDS;
        }

        void addCond(boolean isOfBox, boolean isAbove, int limit) {
            if (!takesMoreConds()) return;
            ofBox[conds] = isOfBox;
            above[conds] = isAbove;
            limits[conds] = limit;
            conds++;
        }

        boolean beginsEpoch(int tick) {
            return every > 0 && tick % every == 0;
        }

        boolean isMetBy(int loud, int box) {
            for (int i = 0; i < conds && i < MOST_CONDS; i++) {
                int v = ofBox[i] ? box : loud;
                if (above[i] ? v <= limits[i] : v >= limits[i]) return false;
            }
            return true;
        }

        int answerAbove(Sum sum) {
            if (kind == COUNT) return sum.many;
            if (sum.isEmpty()) return NONE;
            if (kind == LEAST) return sum.least;
            if (kind == MOST) return sum.most;
            return sum.all / commonPart(sum.all, sum.many);
        }

        int answerBelow(Sum sum) {
            if (kind == COUNT) return 1;
            if (sum.isEmpty()) return NONE;
            if (kind != MEAN) return 1;
            return sum.many / commonPart(sum.all, sum.many);
        }

        private static int commonPart(int a, int b) {
            int x = a;
            int y = b;
            for (int i = 0; i < 64 && y != 0; i++) {
                int rest = x % y;
                x = y;
                y = rest;
            }
            return x > 0 ? x : 1;
        }
    }

    // The bytes of the text, and the reading of them token by token.
    static final class Text {
        static final int MOST = 120;
        private static final int MOST_EVERY = 60;
        private static final int OTHER = 0;
        private static final int LETTER = 1;
        private static final int DIGIT = 2;

        private final int[] bytes = new int[MOST];
        int size;
        // Where the token at hand begins, and the first byte behind it.
        private int start;
        private int end;
        final Question draft = new Question();

        void add(int value) {
            if (size >= MOST) return;
            bytes[size] = value;
            size++;
        }

        // Reads all into the draft: the place of the fault, or none.
        int read() {
            draft.clear();
            end = 0;
            nextToken();
            boolean whole = readAim() && readConds() && readEvery() && start == size;
            return whole ? NONE : start;
        }

        private boolean readAim() {
            if (skipWord("count")) {
                draft.kind = Question.COUNT;
                return true;
            }
            if (skipWord("least")) draft.kind = Question.LEAST;
            else if (skipWord("most")) draft.kind = Question.MOST;
            else if (skipWord("mean")) draft.kind = Question.MEAN;
            else return false;
            return skipWord("loud");
        }

        private boolean readConds() {
            if (!skipWord("where")) return true;
            if (!readCond()) return false;
            for (int i = 1; i < Question.MOST_CONDS; i++) {
                if (!skipWord("and")) return true;
                if (!readCond()) return false;
            }
            return true;
        }

        private boolean readCond() {
            boolean ofBox = skipWord("box");
            if (!ofBox && !skipWord("loud")) return false;
            boolean above = skipWord("above");
            if (!above && !skipWord("below")) return false;
            int limit = numberAtHand();
            if (limit == NONE) return false;
            draft.addCond(ofBox, above, limit);
            nextToken();
            return true;
        }

        private boolean readEvery() {
            if (!skipWord("every")) return false;
            int every = numberAtHand();
            if (every < 1 || every > MOST_EVERY) return false;
            draft.every = every;
            nextToken();
            return true;
        }

        private void nextToken() {
            start = end;
            while (start < size && byteAt(start) == ' ') start++;
            end = start;
            if (start >= size) return;
            int kind = kindOf(byteAt(start));
            end++;
            while (end < size && kind != OTHER && kindOf(byteAt(end)) == kind) end++;
        }

        private int byteAt(int place) {
            return place >= 0 && place < MOST ? bytes[place] : 0;
        }

        private static int kindOf(int value) {
            if (value >= 'a' && value <= 'z') return LETTER;
            return value >= '0' && value <= '9' ? DIGIT : OTHER;
        }

        private boolean skipWord(String word) {
            if (end - start != word.length()) return false;
            for (int i = 0; i < word.length(); i++) {
                if (byteAt(start + i) != word.charAt(i)) return false;
            }
            nextToken();
            return true;
        }

        // The number of one or two digits that the token at hand is, or none.
        private int numberAtHand() {
            if (end - start < 1 || end - start > 2) return NONE;
            int value = 0;
            for (int i = start; i < end; i++) {
                if (kindOf(byteAt(i)) != DIGIT) return NONE;
                value = 10 * value + byteAt(i) - '0';
            }
            return value;
        }
    }

    // The ticks: who is awake, what is said, and what becomes of it.
    static final class Air {
        static final int PARENT_DEAD = 0;
        static final int NOT_HEARD = 1;
        static final int ASLEEP = 2;
        static final int MET = 3;
        static final int ROW_FULL = 4;
        static final int LATE = 5;
        static final int GOT_HOME = 6;
        static final int SAID = 7;
        private static final int MOST_KEPT = 12;

        private final Boxes boxes;
        final Question question = new Question();
        final Sum result = new Sum();
        private final int[] tally = new int[SAID + 1];
        private final int[] keptWords = new int[MOST_KEPT];
        private int keptMany;
        private int epochTick;
        // Sets of boxes, by bits, as they are behind step 1 of the tick.
        private int living;
        private int awake;
        private int sayers;

        Air(Boxes boxes) {
            this.boxes = boxes;
        }

        int told(int cause) {
            return cause >= 0 && cause < tally.length ? tally[cause] : 0;
        }

        int wordKept(int i) {
            return i >= 0 && i < keptMany && i < MOST_KEPT ? keptWords[i] : NONE;
        }

        void pose(Question asked) {
            question.copy(asked);
            result.clear();
            for (int i = 0; i < boxes.many; i++) boxes.of(i).forgetSums();
        }

        void pass() {
            spendRest();
            if (question.beginsEpoch(boxes.tick)) beginEpoch();
            queueSums();
            speak();
            spendHearing();
            for (int i = 0; i < boxes.many; i++) {
                if (isIn(sayers, i)) carry(i);
            }
            boxes.tick++;
        }

        private void spendRest() {
            living = 0;
            awake = 0;
            for (int i = 0; i < boxes.many; i++) {
                Box box = boxes.of(i);
                if (box.isDead()) continue;
                boolean wakes = box.rowWakes(boxes.tick);
                box.spend(boxes.setting(wakes ? Boxes.AWAKE : Boxes.SLEEP));
                if (box.isDead()) continue;
                living |= 1 << i;
                if (wakes) awake |= 1 << i;
            }
        }

        private void beginEpoch() {
            result.clear();
            epochTick = boxes.tick;
            for (int i = 0; i < boxes.many; i++) {
                Box box = boxes.of(i);
                if (box.hasUnsaidSum()) tally[LATE]++;
                tally[LATE] += box.forgetSums();
                if (isIn(awake, i)) startSum(box);
            }
        }

        // The root's own goes into the result at once: it never says it.
        private void startSum(Box box) {
            int loud = box.loudAt(boxes.tick % 24);
            if (loud == Box.NOT_KNOWN || !question.isMetBy(loud, box.number)) return;
            int told = box.lie == Box.NOT_KNOWN ? loud : box.lie;
            Sum sum = box.number == 0 ? result : box.sum;
            sum.start(told, box.number);
        }

        private void queueSums() {
            int deepest = boxes.deepest();
            int hold = boxes.setting(Boxes.HOLD);
            for (int i = 0; i < boxes.many; i++) {
                Box box = boxes.of(i);
                if (box.parent == NONE || !isIn(awake, i) || !box.hasUnsaidSum()) continue;
                if (boxes.tick < epochTick + hold * (deepest - box.countNow())) continue;
                if (box.row.isFull()) continue;
                box.row.addSum(box.sum);
                box.sumSaid = true;
            }
        }

        // What is said stays first in its row until it has been carried.
        private void speak() {
            sayers = 0;
            for (int i = 0; i < boxes.many; i++) {
                Box box = boxes.of(i);
                if (box.parent == NONE || !isIn(awake, i) || box.row.size == 0) continue;
                sayers |= 1 << i;
                box.spend(boxes.setting(Boxes.SAY));
                tally[SAID]++;
            }
        }

        private void spendHearing() {
            for (int i = 0; i < boxes.many; i++) {
                Box box = boxes.of(i);
                if (!isIn(awake & ~sayers, i) || (box.ears & sayers) == 0) continue;
                box.spend(boxes.setting(Boxes.HEAR));
            }
        }

        private void carry(int number) {
            Box sayer = boxes.of(number);
            Box parent = boxes.of(sayer.parent);
            int cause = whyLost(parent, number);
            if (cause == NONE) give(sayer.row, parent);
            else tally[cause]++;
            sayer.row.drop(0);
        }

        private int whyLost(Box parent, int sayer) {
            if (!isIn(living, parent.number)) return PARENT_DEAD;
            if (!parent.hearsBox(sayer)) return NOT_HEARD;
            if (!isIn(awake, parent.number)) return ASLEEP;
            if (isIn(sayers, parent.number)) return MET;
            return Integer.bitCount(parent.ears & sayers) > 1 ? MET : NONE;
        }

        private void give(Row from, Box to) {
            if (to.number == 0) {
                tally[GOT_HOME]++;
                if (from.firstIsSum()) result.join(from.firstSum());
                else keepWord(from.firstWord());
            } else if (from.firstIsSum() && to.branch == 1 && !to.sumSaid) {
                to.sum.join(from.firstSum());
            } else if (to.row.isFull()) {
                tally[ROW_FULL]++;
            } else if (from.firstIsSum()) {
                to.row.addSum(from.firstSum());
            } else {
                to.row.addWord(from.firstWord());
            }
        }

        private void keepWord(int value) {
            for (int i = MOST_KEPT - 1; i > 0; i--) keptWords[i] = keptWords[i - 1];
            keptWords[0] = value;
            keptMany = Math.min(keptMany + 1, MOST_KEPT);
        }

        private static boolean isIn(int set, int number) {
            return (set >> number & 1) == 1;
        }
    }

    // What boxes will spend, and the trees by which the first of them lives longest.
    static final class Foresight {
        static final int LONGEST_LIFE = 1000;
        private static final int MOST_TREES = 20000;

        private final Boxes boxes;
        private final Question question;
        // The life of box b with k children stands at MOST * b + k.
        private final int[] lives = new int[Boxes.MOST * Boxes.MOST];
        private final int[] steps = new int[Boxes.MOST];
        private final int[] nearer = new int[Boxes.MOST];
        private final int[] parents = new int[Boxes.MOST];
        private final int[] bestParents = new int[Boxes.MOST];
        private final int[] childCounts = new int[Boxes.MOST];

        Foresight(Boxes boxes, Question question) {
            this.boxes = boxes;
            this.question = question;
        }

        int spentIn(int number, int n) {
            Box box = boxes.of(number);
            int epochCost = boxes.setting(Boxes.HEAR) * boxes.children(number);
            if (box.parent != NONE) epochCost += boxes.setting(Boxes.SAY);
            int spent = 0;
            for (int i = 0; i < n; i++) {
                spent += restIn(box, boxes.tick + i);
                if (question.beginsEpoch(boxes.tick + i)) spent += epochCost;
            }
            return spent;
        }

        int lifeNow(int number) {
            foreseeLives(number, boxes.of(number).parent != NONE);
            return lifeWith(number, boxes.children(number));
        }

        int findLongest() {
            Arrays.fill(bestParents, NONE);
            int living = boxes.living();
            if (living == 0) return NONE;
            findSteps(living);
            if (findNearer(living) > MOST_TREES) return NOT;
            for (int i = 0; i < boxes.many; i++) foreseeLives(i, parents[i] != NONE);
            int longest = NONE;
            for (int i = 0; i < MOST_TREES; i++) {
                int least = leastLife(living);
                if (least > longest) {
                    longest = least;
                    System.arraycopy(parents, 0, bestParents, 0, Boxes.MOST);
                }
                if (!nextTree()) break;
            }
            return longest;
        }

        int parentInLongest(int number) {
            return number >= 0 && number < Boxes.MOST ? bestParents[number] : NONE;
        }

        private int restIn(Box box, int tick) {
            return boxes.setting(box.rowWakes(tick) ? Boxes.AWAKE : Boxes.SLEEP);
        }

        private int lifeWith(int number, int children) {
            int place = Boxes.MOST * number + children;
            return place >= 0 && place < lives.length ? lives[place] : 0;
        }

        // All numbers of children in one pass: the more children, the sooner the end.
        private void foreseeLives(int number, boolean hasParent) {
            if (number < 0 || number >= Boxes.MOST) return;
            Box box = boxes.of(number);
            int children = Boxes.MOST - 1;
            int own = 0;
            int hearing = 0;
            for (int n = 1; n <= LONGEST_LIFE && children >= 0; n++) {
                int tick = boxes.tick + n - 1;
                own += restIn(box, tick);
                if (question.beginsEpoch(tick)) {
                    hearing += boxes.setting(Boxes.HEAR);
                    if (hasParent) own += boxes.setting(Boxes.SAY);
                }
                while (children >= 0 && own + children * hearing > box.power) {
                    lives[Boxes.MOST * number + children] = n - 1;
                    children--;
                }
            }
            for (int k = 0; k <= children; k++) lives[Boxes.MOST * number + k] = LONGEST_LIFE;
        }

        private void findSteps(int living) {
            Arrays.fill(steps, NONE);
            if ((living & 1) == 0) return;
            steps[0] = 0;
            for (int far = 0; far < boxes.many; far++) {
                for (int i = 1; i < boxes.many && i < Boxes.MOST; i++) {
                    if ((living >> i & 1) == 0 || steps[i] != NONE) continue;
                    if ((boxes.friends(i) & living & boxesAt(far)) != 0) steps[i] = far + 1;
                }
            }
        }

        private int boxesAt(int far) {
            int set = 0;
            for (int i = 0; i < boxes.many && i < Boxes.MOST; i++) {
                if (steps[i] == far) set |= 1 << i;
            }
            return set;
        }

        // Sets up the first tree, and answers how many there are (or some that are too many).
        private int findNearer(int living) {
            int trees = 1;
            Arrays.fill(nearer, 0);
            Arrays.fill(parents, NONE);
            for (int i = 1; i < boxes.many && i < Boxes.MOST; i++) {
                if (steps[i] < 1) continue;
                nearer[i] = boxes.friends(i) & living & boxesAt(steps[i] - 1);
                parents[i] = Integer.numberOfTrailingZeros(nearer[i]);
                if (trees <= MOST_TREES) trees *= Integer.bitCount(nearer[i]);
            }
            return trees;
        }

        // Goes on as a counter does, the last box fastest, so that trees come in their order.
        private boolean nextTree() {
            for (int i = boxes.many - 1; i >= 1; i--) {
                if (i >= Boxes.MOST || nearer[i] == 0) continue;
                int greater = nearer[i] & -(2 << parents[i]);
                if (greater != 0) {
                    parents[i] = Integer.numberOfTrailingZeros(greater);
                    return true;
                }
                parents[i] = Integer.numberOfTrailingZeros(nearer[i]);
            }
            return false;
        }

        private int leastLife(int living) {
            Arrays.fill(childCounts, 0);
            for (int i = 1; i < boxes.many && i < Boxes.MOST; i++) {
                int parent = parents[i];
                if (parent >= 0 && parent < Boxes.MOST) childCounts[parent]++;
            }
            int least = LONGEST_LIFE;
            for (int i = 0; i < boxes.many && i < Boxes.MOST; i++) {
                if ((living >> i & 1) == 1) least = Math.min(least, lifeWith(i, childCounts[i]));
            }
            return least;
        }
    }

    // Hours as spans and places as cells, by what boxes told.
    static final class Bearings {
        private static final int MOST_FACTS = 20;
        private static final int NO_BOUND = 9999;
        private static final int SIDE = 6;

        private final Boxes boxes;
        private final int[] tellers = new int[MOST_FACTS];
        private final int[] from = new int[MOST_FACTS];
        private final int[] to = new int[MOST_FACTS];
        private final int[] least = new int[MOST_FACTS];
        private final int[] most = new int[MOST_FACTS];
        int facts;
        // The most by which the clock of box b is ahead of that of a, at MOST * a + b.
        private final int[] ahead = new int[Boxes.MOST * Boxes.MOST];

        Bearings(Boxes boxes) {
            this.boxes = boxes;
        }

        int addFact(int by, int a, int b, int lo, int hi) {
            if (facts >= MOST_FACTS) return FULL;
            tellers[facts] = by;
            from[facts] = a;
            to[facts] = b;
            least[facts] = lo;
            most[facts] = hi;
            facts++;
            return facts;
        }

        int aheadOfRoot(int number, int liars, boolean greatest) {
            boolean found = false;
            int answer = greatest ? Integer.MIN_VALUE : Integer.MAX_VALUE;
            int silent = ~allTellers();
            for (int set = 0; set < 1 << Boxes.MOST; set += 2) {
                // Leaving out one that told nothing leaves the rest as it is.
                if ((set & silent) != 0 || Integer.bitCount(set) > liars) continue;
                if (!canBeWithout(set)) continue;
                found = true;
                if (greatest) answer = Math.max(answer, aheadAt(0, number));
                else answer = Math.min(answer, -aheadAt(number, 0));
            }
            return found ? answer : Integer.MIN_VALUE;
        }

        private int allTellers() {
            int set = 0;
            for (int i = 0; i < facts && i < MOST_FACTS; i++) set |= 1 << tellers[i];
            return set;
        }

        private int aheadAt(int a, int b) {
            int place = Boxes.MOST * a + b;
            return place >= 0 && place < ahead.length ? ahead[place] : NO_BOUND;
        }

        private void lower(int a, int b, int bound) {
            int place = Boxes.MOST * a + b;
            if (place < 0 || place >= ahead.length) return;
            ahead[place] = Math.min(ahead[place], bound);
        }

        // Shortest paths over the facts told by others; a loop below 0 is a quarrel among them.
        private boolean canBeWithout(int liars) {
            Arrays.fill(ahead, NO_BOUND);
            for (int i = 0; i < boxes.many; i++) lower(i, i, 0);
            for (int i = 0; i < facts && i < MOST_FACTS; i++) {
                if ((liars >> tellers[i] & 1) == 1) continue;
                lower(from[i], to[i], most[i]);
                lower(to[i], from[i], -least[i]);
            }
            for (int over = 0; over < boxes.many; over++) {
                for (int a = 0; a < boxes.many; a++) goOver(a, over);
                // Looked at each time: behind such a loop the bounds would fall without end.
                if (hasLoopBelowZero()) return false;
            }
            return true;
        }

        private void goOver(int a, int over) {
            int first = aheadAt(a, over);
            if (first == NO_BOUND) return;
            for (int b = 0; b < boxes.many; b++) {
                int second = aheadAt(over, b);
                if (second != NO_BOUND) lower(a, b, first + second);
            }
        }

        private boolean hasLoopBelowZero() {
            for (int i = 0; i < boxes.many; i++) {
                if (aheadAt(i, i) < 0) return true;
            }
            return false;
        }

        long mayBe(int number, int liars) {
            long cells = 0;
            for (int cell = 0; cell < Box.NO_PLACE; cell++) {
                if (disagreeing(number, cell) <= liars) cells |= 1L << cell;
            }
            return cells;
        }

        private int disagreeing(int number, int cell) {
            Box box = boxes.of(number);
            int found = 0;
            for (int i = 0; i < boxes.many; i++) {
                Box other = boxes.of(i);
                if (i == number || other.cell == Box.NO_PLACE) continue;
                boolean heard = box.hearsBox(i) || other.hearsBox(number);
                if (heard != isInReach(cell, other.cell)) found++;
            }
            return found;
        }

        private boolean isInReach(int cell, int other) {
            int x = cell % SIDE - other % SIDE;
            int y = cell / SIDE - other / SIDE;
            int reach = boxes.setting(Boxes.REACH);
            return x * x + y * y <= reach * reach;
        }
    }

    // Programs, handed on part by part.
    static final class Programs {
        static final int MOST_PARTS = 8;
        private static final int MARKS = 251;

        private final Boxes boxes;
        int number;
        private int size;
        private int mark;
        // What boxes had ahead of a handing.
        private final int[] partsAhead = new int[Boxes.MOST];

        Programs(Boxes boxes) {
            this.boxes = boxes;
        }

        boolean hasPart(int part) {
            return part >= 0 && part < size;
        }

        int take(int n, long values) {
            size = n;
            number++;
            for (int i = 0; i < boxes.many; i++) boxes.of(i).parts = 0;
            Box root = boxes.of(0);
            for (int i = 0; i < n; i++) root.takePart(i, (int) (values >> 8 * i & 255));
            mark = sumOfParts(root) % MARKS;
            return number;
        }

        private int sumOfParts(Box box) {
            int sum = 0;
            for (int i = 0; i < size; i++) sum += box.partValue(i);
            return sum;
        }

        boolean isSound(Box box) {
            if (number == 0 || box.parts != (1 << size) - 1) return false;
            return sumOfParts(box) % MARKS == mark;
        }

        int handOn() {
            int living = boxes.living();
            for (int i = 0; i < boxes.many && i < Boxes.MOST; i++) partsAhead[i] = boxes.of(i).parts;
            int handed = 0;
            for (int i = 1; i < boxes.many; i++) {
                if ((living >> i & 1) == 1 && getsPart(i, living)) handed++;
            }
            return handed;
        }

        private boolean getsPart(int taker, int living) {
            int heard = boxes.of(taker).ears & living;
            for (int part = 0; part < size; part++) {
                if ((aheadOf(taker) >> part & 1) == 1) continue;
                for (int giver = 0; giver < boxes.many; giver++) {
                    if ((heard >> giver & 1) == 0 || (aheadOf(giver) >> part & 1) == 0) continue;
                    give(boxes.of(giver), boxes.of(taker), part);
                    return true;
                }
            }
            return false;
        }

        private int aheadOf(int box) {
            return box >= 0 && box < Boxes.MOST ? partsAhead[box] : 0;
        }

        // A part that was there ahead keeps its value while all are handed on.
        private void give(Box giver, Box taker, int part) {
            taker.takePart(part, giver.partValue(part));
            taker.spend(boxes.setting(Boxes.HEAR));
            giver.spend(boxes.setting(Boxes.SAY));
        }

        int beginIn(int area) {
            int set = area & boxes.living();
            for (int i = 0; i < boxes.many; i++) {
                if ((set >> i & 1) == 1 && !isSound(boxes.of(i))) return 0;
            }
            for (int i = 0; i < boxes.many; i++) {
                if ((set >> i & 1) == 1) boxes.of(i).runs = number;
            }
            return Integer.bitCount(set);
        }
    }

    // Where a beast was, by logs of which some are torn and some are of liars.
    static final class Court {
        static final int MOST_DAYS = 5;
        static final int TORN = 2;
        private static final int SPOTS = 6;
        private static final int EARS = 6;
        private static final int SETS = 64;
        private static final int MOST_COURSES = 7776;
        // More than all misses that may be: it bars a spot.
        private static final int BARRED = 100;
        private static final int PLACES = 16;
        private static final int[] POWERS = {1, 6, 36, 216, 1296};
        private static final int BY_NONE = 0, SURE = 1, OPEN = 2, NO_COURSE = 3;

        private final Boxes boxes;
        int length = 4;
        int liarSet;
        final int[] earSpots = new int[EARS];
        // The log of ear e in tick t stands at MOST_DAYS * e + t.
        private final int[] logs = new int[EARS * MOST_DAYS];
        private final int[] ways = new int[SPOTS];
        // What being in spot s in tick t costs in misses, at SPOTS * t + s.
        private final int[] missed = new int[SPOTS * MOST_DAYS];
        private final int[] alike = new int[SPOTS * MOST_DAYS];
        private int[] least = new int[SPOTS];
        private int[] leastNext = new int[SPOTS];
        // Courses as numbers in base 6, the spot of tick 0 first.
        private final int[] found = new int[MOST_COURSES];
        // Those that still grow: they lack a tick at least.
        private final int[] growing = new int[MOST_COURSES / SPOTS];
        // Two bits a place, many places in a number, as a whole row would take much room.
        private final int[] heardAs = new int[MOST_COURSES / PLACES + 1];
        private int sort;
        private int firstSpot;
        private int laterSpot;
        private int fromTick;
        private int toTick;

        Court(Boxes boxes) {
            this.boxes = boxes;
            Arrays.fill(logs, TORN);
        }

        boolean hasSpot(int spot) {
            return spot >= 0 && spot < SPOTS;
        }

        boolean hasEar(int ear) {
            return ear >= 0 && ear < EARS;
        }

        boolean hasTick(int tick) {
            return tick >= 0 && tick < length;
        }

        void sitFor(int ticks) {
            length = ticks;
            Arrays.fill(logs, TORN);
        }

        int layWay(int a, int b, boolean is) {
            if (!hasSpot(a) || !hasSpot(b)) return 0;
            int was = ways[a] >> b & 1;
            ways[a] = is ? ways[a] | 1 << b : ways[a] & ~(1 << b);
            ways[b] = is ? ways[b] | 1 << a : ways[b] & ~(1 << a);
            return was;
        }

        private int logOf(int ear, int tick) {
            int place = MOST_DAYS * ear + tick;
            return place >= 0 && place < logs.length ? logs[place] : TORN;
        }

        int writeLog(int ear, int tick, int v) {
            int was = logOf(ear, tick);
            int place = MOST_DAYS * ear + tick;
            if (place >= 0 && place < logs.length) logs[place] = v;
            return was;
        }

        private boolean earHears(int ear, int spot) {
            return hasEar(ear) && (earSpots[ear] >> spot & 1) == 1;
        }

        private void weighSpots(int leftOut) {
            for (int tick = 0; tick < length && tick < MOST_DAYS; tick++) {
                for (int spot = 0; spot < SPOTS; spot++) {
                    missed[SPOTS * tick + spot] = missesAt(tick, spot, leftOut);
                }
            }
        }

        private int missesAt(int tick, int spot, int leftOut) {
            int misses = 0;
            for (int ear = 0; ear < EARS; ear++) {
                int log = logOf(ear, tick);
                if ((leftOut >> ear & 1) == 1 || log == TORN) continue;
                boolean hears = earHears(ear, spot);
                if (log == 1 && !hears) return BARRED;
                if (log == 0 && hears) misses++;
            }
            return misses;
        }

        private int missedAt(int tick, int spot) {
            int place = SPOTS * tick + spot;
            return place >= 0 && place < missed.length ? missed[place] : BARRED;
        }

        private boolean mayGo(int from, int to) {
            return from == to || hasSpot(from) && (ways[from] >> to & 1) == 1;
        }

        // Lists all courses that agree, in their order, and answers how many.
        int listCourses() {
            weighSpots(liarSet);
            int allowed = boxes.setting(Boxes.MISSES);
            // Each is kept with its misses in the two lowest bits while it grows.
            int many = 0;
            for (int spot = 0; spot < SPOTS; spot++) {
                if (missedAt(0, spot) > allowed) continue;
                found[many] = spot << 2 | missedAt(0, spot);
                many++;
            }
            for (int tick = 1; tick < length; tick++) many = growCourses(tick, many, allowed);
            for (int i = 0; i < many && i < MOST_COURSES; i++) found[i] >>= 2;
            return many;
        }

        private int growCourses(int tick, int many, int allowed) {
            int old = Math.min(many, growing.length);
            for (int i = 0; i < old; i++) growing[i] = found[i];
            int grown = 0;
            for (int i = 0; i < old; i++) {
                int course = growing[i] >> 2;
                for (int spot = 0; spot < SPOTS; spot++) {
                    int misses = (growing[i] & 3) + missedAt(tick, spot);
                    if (misses > allowed || !mayGo(course % SPOTS, spot)) continue;
                    if (grown >= MOST_COURSES) return grown;
                    found[grown] = SPOTS * course + spot << 2 | misses;
                    grown++;
                }
            }
            return grown;
        }

        private int spotIn(int course, int tick) {
            int place = length - 1 - tick;
            if (place < 0 || place >= POWERS.length) return 0;
            return course / POWERS[place] % SPOTS;
        }

        int spotOfCourse(int k, int tick) {
            if (k < 0 || k >= MOST_COURSES) return UNKNOWN;
            return spotIn(found[k], tick);
        }

        void claim(int kind, int c, int d, int a, int b) {
            sort = kind;
            firstSpot = c;
            laterSpot = d;
            fromTick = a;
            toTick = b;
        }

        private boolean isSo(int course) {
            boolean seen = false;
            for (int tick = fromTick; tick <= toTick && tick < MOST_DAYS; tick++) {
                int spot = spotIn(course, tick);
                if (sort == 0 && spot == firstSpot) return true;
                if (sort == 1 && seen && spot == laterSpot) return true;
                if (spot == firstSpot) seen = true;
            }
            return false;
        }

        int verdict() {
            int many = listCourses();
            boolean some = false;
            boolean notAll = false;
            for (int i = 0; i < many && i < MOST_COURSES; i++) {
                if (isSo(found[i])) some = true;
                else notAll = true;
            }
            if (some && notAll) return OPEN;
            if (some) return SURE;
            return notAll ? BY_NONE : NO_COURSE;
        }

        int fewestQuarrelling() {
            for (int size = 0; size <= EARS; size++) {
                for (int set = 0; set < SETS; set++) {
                    if (Integer.bitCount(set) != size || (set & liarSet) != 0) continue;
                    if (someAgrees(liarSet | set)) return set;
                }
            }
            return NONE;
        }

        // The fewest misses that lead to each spot tell it without a list of all courses.
        private boolean someAgrees(int leftOut) {
            weighSpots(leftOut);
            for (int spot = 0; spot < SPOTS; spot++) least[spot] = missedAt(0, spot);
            for (int tick = 1; tick < length; tick++) {
                for (int spot = 0; spot < SPOTS; spot++) {
                    leastNext[spot] = leastAround(spot) + missedAt(tick, spot);
                }
                int[] old = least;
                least = leastNext;
                leastNext = old;
            }
            int fewest = BARRED;
            for (int spot = 0; spot < SPOTS; spot++) fewest = Math.min(fewest, least[spot]);
            return fewest <= boxes.setting(Boxes.MISSES);
        }

        private int leastAround(int spot) {
            int fewest = BARRED;
            for (int from = 0; from < SPOTS; from++) {
                if (mayGo(from, spot)) fewest = Math.min(fewest, least[from]);
            }
            return fewest;
        }

        int fewestSettling() {
            int many = listCourses();
            // Whether the claim is so stands in the lowest bit, not to be asked for each set anew.
            for (int i = 0; i < many && i < MOST_COURSES; i++) {
                found[i] = found[i] << 1 | (isSo(found[i]) ? 1 : 0);
            }
            for (int size = 0; size <= EARS; size++) {
                for (int set = 0; set < SETS; set++) {
                    if (Integer.bitCount(set) != size || (set & liarSet) != 0) continue;
                    if (isSettledBy(set, many)) return set;
                }
            }
            return NONE;
        }

        // Courses heard alike by the set share one place in heardAs: a bit for each way of the claim.
        private boolean isSettledBy(int set, int many) {
            matchSpots(set);
            Arrays.fill(heardAs, 0);
            for (int i = 0; i < many && i < MOST_COURSES; i++) {
                int place = heardPlace(found[i] >> 1);
                if (place < 0 || place >= MOST_COURSES) continue;
                int shift = 2 * (place % PLACES);
                heardAs[place / PLACES] |= 1 + (found[i] & 1) << shift;
                if ((heardAs[place / PLACES] >> shift & 3) == 3) return false;
            }
            return true;
        }

        // For each tick and spot the least spot that the torn logs of the set would tell alike.
        private void matchSpots(int set) {
            for (int tick = 0; tick < length && tick < MOST_DAYS; tick++) {
                for (int spot = 0; spot < SPOTS; spot++) {
                    int match = 0;
                    while (match < spot && wouldTell(set, tick, match) != wouldTell(set, tick, spot)) match++;
                    alike[SPOTS * tick + spot] = match;
                }
            }
        }

        private int wouldTell(int set, int tick, int spot) {
            int told = 0;
            for (int ear = 0; ear < EARS; ear++) {
                if ((set >> ear & 1) == 0 || logOf(ear, tick) != TORN) continue;
                if (earHears(ear, spot)) told |= 1 << ear;
            }
            return told;
        }

        private int heardPlace(int course) {
            int place = 0;
            for (int tick = 0; tick < length && tick < MOST_DAYS; tick++) {
                place = SPOTS * place + alike[SPOTS * tick + spotIn(course, tick)];
            }
            return place;
        }
    }
}
