import java.util.Arrays;

/**
 * A lodge that builds a great church course by course; DOC.md numbers what it promises.
 * Whatever a call answers, all parts that are begun stand: each change that could make one
 * fall is tried first and taken back if it would.
 */
public final class ChurchLodge {
    public static final int BAD = -1, NOT = -2, FULL = -3;

    private static final int REFUSED = -10;
    private static final int NO_FAULT = -1;
    private static final int FAULTY = -100;
    private static final int NONE = -5;
    private static final int NO_SUCH_END = -2000000000;

    private static final int WHOLE_ALREADY = 1, NO_CENTRING = 1;
    private static final int SUPPORTS_NOT_READY = 2, NOT_WHOLE = 2;
    private static final int MONTH_IS_FULL = 3, MORTAR_IS_SOFT = 3;
    private static final int TOO_FEW_COINS = 4;
    private static final int WOULD_FALL = 5;

    private static final int WALL = 0, ARCH = 1;
    private static final int BEARS = 0, HOLDS = 1, THRUST = 2, HARD = 3;
    private static final int[] MOST_TOLD = {1000000, 100000, 100, 24};

    private static final int MOST_PARTS = 40;
    private static final int MOST_COURSES = 30;
    private static final int MOST_WEIGHT = 999;
    private static final int MOST_PRICE = 999;
    private static final int MOST_PROP = 100000;
    private static final int MOST_SUPPORTS = 4;
    private static final int TWELFTHS = 12;
    private static final int BY_NET = 100;
    private static final int MOST_EDITIONS = 60;
    private static final int LAST_MONTH = 1200;
    private static final int MONTHS_AT_ONCE = 100;
    private static final int YEAR = 12;
    private static final int MOST_GIFTS = 30;
    private static final int MOST_COINS = 1000000;
    private static final int MOST_STATUTES = 20;
    private static final int WORK_WITHOUT_STATUTE = 10;
    private static final int MOST_BYTES = 100;
    private static final int MOST_OPEN = 20;
    private static final int LEAST_DIGITS = 2, MOST_DIGITS = 5;

    private static final String NAMES = "pknwmyfd";
    private static final String SIGNS = "!+-*<=>&|";

    private final Plan plan;
    private final Stress stress;
    private final Calendar calendar;
    private final Tape tape;
    private final Reckoner reckoner;
    private final Gift[] gifts;
    private final Text[] statutes;
    private final int[] statuteFrom;
    private final int[] marked;
    private int giftCount;
    private int statuteCount;
    private int workDone;
    private int paid;

    public ChurchLodge() {
        plan = new Plan();
        stress = new Stress();
        calendar = new Calendar();
        tape = new Tape();
        reckoner = new Reckoner();
        gifts = new Gift[MOST_GIFTS];
        statutes = new Text[MOST_STATUTES];
        statuteFrom = new int[MOST_STATUTES];
        marked = new int[MOST_PARTS];
    }

    // ---- the plan

    public int part(int courses, int weight, int price) {
        if (!isMeasure(courses, weight, price)) {
            return BAD;
        }
        if (plan.partCount >= MOST_PARTS) {
            return FULL;
        }
        return plan.add(new Part(WALL, courses, weight, price));
    }

    public int arch(int courses, int weight, int price, int left, int right) {
        if (!isMeasure(courses, weight, price) || left == right
                || plan.find(left) == null || plan.find(right) == null) {
            return BAD;
        }
        if (plan.partCount >= MOST_PARTS) {
            return FULL;
        }
        Part made = new Part(ARCH, courses, weight, price);
        made.standOn(0, left, TWELFTHS / 2);
        made.standOn(1, right, TWELFTHS / 2);
        made.supportCount = 2;
        return plan.add(made);
    }

    public int bear(int part, int a, int b, int c, int d) {
        Part changed = plan.find(part);
        if (changed == null) {
            return BAD;
        }
        int found = plan.readSupports(part, a, b, c, d);
        if (found == BAD || changed.kind == ARCH && found < 2) {
            return BAD;
        }
        if (changed.isBegun()) {
            return NOT;
        }
        if (plan.editionCount >= MOST_EDITIONS) {
            return FULL;
        }
        plan.setSupports(changed, found);
        plan.keepEdition(part, changed.courses);
        return found;
    }

    public int edit(int part, int n) {
        Part changed = plan.find(part);
        if (changed == null || n < 1 || n > MOST_COURSES) {
            return BAD;
        }
        if (changed.isBegun()) {
            return NOT;
        }
        if (plan.editionCount >= MOST_EDITIONS) {
            return FULL;
        }
        changed.courses = n;
        return plan.keepEdition(part, n);
    }

    public int wanted(int edition, int part) {
        return plan.coursesIn(edition, part);
    }

    public int tell(int part, int what, int v) {
        Part changed = plan.find(part);
        if (changed == null || what < 0 || what >= MOST_TOLD.length || v < 0 || v > MOST_TOLD[what]) {
            return BAD;
        }
        int before = changed.told[what];
        changed.told[what] = v;
        if (!stands()) {
            changed.told[what] = before;
            return REFUSED - WOULD_FALL;
        }
        return before;
    }

    // ---- building

    public int lay(int part) {
        Part raised = plan.find(part);
        if (raised == null) {
            return BAD;
        }
        int hindrance = hindranceOfCourse(part, raised);
        if (hindrance != 0) {
            return REFUSED - hindrance;
        }
        payFor(part, raised);
        raised.takeCourse(calendar.now);
        workDone++;
        return raised.laid;
    }

    public int may(int part) {
        Part raised = plan.find(part);
        return raised == null ? BAD : hindranceOfCourse(part, raised);
    }

    public int falls(int part) {
        Part raised = plan.find(part);
        return raised == null ? BAD : fallByCourse(raised);
    }

    public int strike(int arch) {
        Part freed = plan.find(arch);
        if (freed == null) {
            return BAD;
        }
        if (!freed.isOnCentring()) {
            return REFUSED - NO_CENTRING;
        }
        if (!freed.isWhole()) {
            return REFUSED - NOT_WHOLE;
        }
        if (freed.age < freed.told[HARD]) {
            return REFUSED - MORTAR_IS_SOFT;
        }
        freed.struck = true;
        if (!stands()) {
            freed.struck = false;
            return REFUSED - WOULD_FALL;
        }
        return 1;
    }

    public int prop(int part, int v) {
        Part propped = plan.find(part);
        if (propped == null || v < 0 || v > MOST_PROP) {
            return BAD;
        }
        int before = propped.prop;
        propped.prop = v;
        if (!stands()) {
            propped.prop = before;
            return REFUSED - WOULD_FALL;
        }
        return before;
    }

    public int month(int n) {
        if (n < 1 || n > MONTHS_AT_ONCE || n > LAST_MONTH - calendar.now) {
            return BAD;
        }
        plan.ageAll(calendar.pass(n));
        workDone = 0;
        return calendar.now;
    }

    public int frost(int months) {
        if (months < 0 || months >= 1 << YEAR) {
            return BAD;
        }
        int before = calendar.frostOfYears;
        calendar.frostOfYears = months;
        return before;
    }

    public int bitter(int month) {
        if (!calendar.isAhead(month)) {
            return BAD;
        }
        return calendar.makeBitter(month) ? 1 : 0;
    }

    // ---- texts

    public int feed(int n, int v) {
        if (n < 1 || n > 4) {
            return BAD;
        }
        if (n > MOST_BYTES - tape.length) {
            return FULL;
        }
        tape.take(n, v);
        return tape.length;
    }

    public int gift(int coins) {
        if (coins < 1 || coins > MOST_COINS) {
            return BAD;
        }
        if (giftCount >= MOST_GIFTS) {
            return FULL;
        }
        Text purpose = null;
        if (tape.length > 0) {
            int fault = tape.read();
            tape.length = 0;
            if (fault != NO_FAULT) {
                return FAULTY - fault;
            }
            purpose = tape.asText();
        }
        gifts[giftCount] = new Gift(coins, purpose);
        giftCount++;
        return giftCount - 1;
    }

    public int statute(int from) {
        if (!calendar.isAhead(from)) {
            return BAD;
        }
        if (statuteCount >= MOST_STATUTES) {
            return FULL;
        }
        int fault = tape.read();
        tape.length = 0;
        if (fault != NO_FAULT) {
            return FAULTY - fault;
        }
        statutes[statuteCount] = tape.asText();
        statuteFrom[statuteCount] = from;
        statuteCount++;
        return statuteCount;
    }

    public int end(int gift, int part) {
        Gift asked = findGift(gift);
        Part meant = plan.find(part);
        if (asked == null || meant == null) {
            return NO_SUCH_END;
        }
        nameMonth();
        reckoner.namePart(part, meant);
        return reckoner.endOf(asked);
    }

    // ---- what is told

    public int about(int part, int what) {
        Part asked = plan.find(part);
        if (asked == null) {
            return BAD;
        }
        switch (what) {
            case 0: return asked.kind;
            case 1: return asked.courses;
            case 2: return asked.laid;
            case 3: return loadOf(part);
            case 4: return asked.age;
            case 5: return asked.isOnCentring() ? 1 : 0;
            case 6: return Math.abs(pushToRightOn(part));
            case 7: return pushToRightOn(part) > 0 ? 1 : 0;
            case 8: return asked.prop;
            case 9: return asked.supportCount;
            case 10: return plan.countBorneBy(part);
            case 11: return asked.weight;
            case 12: return asked.price;
            default: return BAD;
        }
    }

    public int support(int part, int i) {
        Part asked = plan.find(part);
        if (asked == null || i < 0 || i >= asked.supportCount) {
            return BAD;
        }
        return 100 * asked.supports[i] + asked.shares[i];
    }

    public int left(int gift, int what) {
        Gift asked = findGift(gift);
        if (asked == null || what < 0 || what > 1) {
            return BAD;
        }
        return what == 0 ? asked.remaining : asked.coins;
    }

    public int work() {
        int inForce = statuteInForce();
        if (inForce < 0) {
            return WORK_WITHOUT_STATUTE;
        }
        nameMonth();
        reckoner.nameNoPart();
        return Math.max(0, reckoner.valueOf(statutes[inForce]));
    }

    public int as(int part, int month) {
        Part asked = plan.find(part);
        if (asked == null || month < 0 || month > calendar.now) {
            return BAD;
        }
        return asked.laidTill(month);
    }

    public int down(int part) {
        Part asked = plan.find(part);
        if (asked == null) {
            return BAD;
        }
        if (asked.supportCount == 0 || asked.isOnCentring()) {
            return NONE;
        }
        return asked.supports[asked.heaviestWay(loadOf(part))];
    }

    public int needs(int part) {
        if (plan.find(part) == null) {
            return BAD;
        }
        Arrays.fill(marked, 0);
        marked[part] = 1;
        int missing = 0;
        for (int i = part; i >= 0; i--) {
            Part below = plan.find(i);
            if (below != null && marked[i] == 1) {
                missing += below.courses - below.laid;
                below.markSupports(marked);
            }
        }
        return missing;
    }

    public int count(int what) {
        switch (what) {
            case 0: return plan.partCount;
            case 1: return giftCount;
            case 2: return calendar.now;
            case 3: return plan.editionCount;
            case 4: return workDone;
            case 5: return plan.countLaid();
            case 6: return coinsRemaining();
            case 7: return paid;
            case 8: return statuteCount;
            case 9: return tape.length;
            default: return BAD;
        }
    }

    // ---- what the calls share

    private static boolean isMeasure(int courses, int weight, int price) {
        return courses >= 1 && courses <= MOST_COURSES
                && weight >= 1 && weight <= MOST_WEIGHT
                && price >= 0 && price <= MOST_PRICE;
    }

    private boolean stands() {
        return stress.leastFalling(plan) == NONE;
    }

    private int loadOf(int part) {
        stress.weigh(plan);
        return stress.loads[part];
    }

    private int pushToRightOn(int part) {
        stress.weigh(plan);
        return stress.pushes[part];
    }

    private int fallByCourse(Part raised) {
        raised.laid++;
        int falling = stress.leastFalling(plan);
        raised.laid--;
        return falling;
    }

    private int hindranceOfCourse(int part, Part raised) {
        if (raised.isWhole()) {
            return WHOLE_ALREADY;
        }
        if (!plan.isReadyBelow(raised)) {
            return SUPPORTS_NOT_READY;
        }
        if (workDone >= work()) {
            return MONTH_IS_FULL;
        }
        if (coinsFor(part, raised) < raised.price) {
            return TOO_FEW_COINS;
        }
        return fallByCourse(raised) == NONE ? 0 : WOULD_FALL;
    }

    private Gift findGift(int gift) {
        return gift >= 0 && gift < giftCount ? gifts[gift] : null;
    }

    private int coinsRemaining() {
        int all = 0;
        for (int i = 0; i < giftCount; i++) {
            Gift given = findGift(i);
            if (given != null) {
                all += given.remaining;
            }
        }
        return all;
    }

    private int coinsFor(int part, Part raised) {
        nameMonth();
        reckoner.namePart(part, raised);
        int all = 0;
        for (int i = 0; i < giftCount; i++) {
            Gift given = findGift(i);
            if (given != null && reckoner.endOf(given) != 0) {
                all += given.remaining;
            }
        }
        return all;
    }

    /** Called ahead of the course: the ends ask for what was laid and done before it. */
    private void payFor(int part, Part raised) {
        nameMonth();
        reckoner.namePart(part, raised);
        int due = raised.price;
        for (int i = 0; i < giftCount && due > 0; i++) {
            Gift given = findGift(i);
            if (given != null && reckoner.endOf(given) != 0) {
                int share = Math.min(due, given.remaining);
                given.remaining -= share;
                due -= share;
            }
        }
        paid += raised.price;
    }

    private void nameMonth() {
        reckoner.nameMonth(calendar.now, calendar.hasFrost(calendar.now), workDone);
    }

    /** The number of the statute in force now, -1 if there is none. */
    private int statuteInForce() {
        for (int i = statuteCount - 1; i >= 0; i--) {
            if (statuteFrom[i] <= calendar.now) {
                return i;
            }
        }
        return -1;
    }

    /** A wall or an arch, with what was planned of it and what is built. */
    private static final class Part {
        final int kind;
        final int coursesMade;
        final int weight;
        final int price;
        /** BEARS, HOLDS, THRUST and HARD, by the numbers with which they are told. */
        final int[] told = {1000000, 0, 50, 3};
        final int[] supports = new int[MOST_SUPPORTS];
        final int[] shares = new int[MOST_SUPPORTS];
        /** The month of each course that lies. */
        final int[] laidIn = new int[MOST_COURSES];
        int supportCount;
        int courses;
        int laid;
        int age;
        int prop;
        boolean struck;

        Part(int kind, int courses, int weight, int price) {
            this.kind = kind;
            this.coursesMade = courses;
            this.courses = courses;
            this.weight = weight;
            this.price = price;
        }

        boolean isBegun() {
            return laid > 0;
        }

        boolean isWhole() {
            return laid >= courses;
        }

        boolean isOnCentring() {
            return kind == ARCH && isBegun() && !struck;
        }

        /** Looks at the part's number here, as it is an index wherever the supports are walked. */
        void standOn(int i, int part, int share) {
            if (i >= 0 && i < MOST_SUPPORTS && part >= 0 && part < MOST_PARTS) {
                supports[i] = part;
                shares[i] = share;
            }
        }

        void takeCourse(int month) {
            if (laid < MOST_COURSES) {
                laidIn[laid] = month;
                laid++;
                age = 0;
            }
        }

        int laidTill(int month) {
            int courses = 0;
            for (int i = 0; i < laid && i < MOST_COURSES; i++) {
                if (laidIn[i] <= month) {
                    courses++;
                }
            }
            return courses;
        }

        /** What goes to a support; the first one has all that the others leave, so the rests too. */
        int portion(int load, int i) {
            if (i > 0) {
                return load * shares[i] / TWELFTHS;
            }
            int portion = load;
            for (int other = 1; other < supportCount; other++) {
                portion -= load * shares[other] / TWELFTHS;
            }
            return portion;
        }

        int heaviestWay(int load) {
            int heaviest = 0;
            for (int i = 1; i < supportCount; i++) {
                if (portion(load, i) > portion(load, heaviest)) {
                    heaviest = i;
                }
            }
            return heaviest;
        }

        void markSupports(int[] marked) {
            for (int i = 0; i < supportCount; i++) {
                marked[supports[i]] = 1;
            }
        }

        boolean standsOn(int part) {
            for (int i = 0; i < supportCount; i++) {
                if (supports[i] == part) {
                    return true;
                }
            }
            return false;
        }
    }

    /** The parts, and the editions of their plan as the changes that made them. */
    private static final class Plan {
        final Part[] parts = new Part[MOST_PARTS];
        final int[] editionPart = new int[MOST_EDITIONS + 1];
        final int[] editionCourses = new int[MOST_EDITIONS + 1];
        final int[] editionSize = new int[MOST_EDITIONS + 1];
        final int[] supportsRead = new int[MOST_SUPPORTS];
        int partCount;
        int editionCount;

        /** The part of a number, null if there is none. */
        Part find(int part) {
            return part >= 0 && part < partCount ? parts[part] : null;
        }

        int add(Part made) {
            if (partCount >= MOST_PARTS) {
                return FULL;
            }
            parts[partCount] = made;
            partCount++;
            return partCount - 1;
        }

        /** Reads supports as bear is told them: how many there are, or BAD. */
        int readSupports(int part, int a, int b, int c, int d) {
            supportsRead[0] = a;
            supportsRead[1] = b;
            supportsRead[2] = c;
            supportsRead[3] = d;
            int found = 0;
            while (found < MOST_SUPPORTS && supportsRead[found] != -1) {
                found++;
            }
            for (int i = found; i < MOST_SUPPORTS; i++) {
                if (supportsRead[i] != -1) {
                    return BAD;
                }
            }
            int twelfths = 0;
            for (int i = 0; i < found; i++) {
                if (!isSupportFor(part, supportsRead[i]) || isReadBefore(i)) {
                    return BAD;
                }
                twelfths += supportsRead[i] % 100;
            }
            return found == 0 || twelfths == TWELFTHS ? found : BAD;
        }

        private static boolean isSupportFor(int part, int read) {
            int share = read % 100;
            return read >= 0 && read / 100 < part && share >= 1 && share <= TWELFTHS;
        }

        private boolean isReadBefore(int i) {
            for (int earlier = 0; earlier < i; earlier++) {
                if (supportsRead[earlier] / 100 == supportsRead[i] / 100) {
                    return true;
                }
            }
            return false;
        }

        void setSupports(Part changed, int found) {
            for (int i = 0; i < found && i < MOST_SUPPORTS; i++) {
                changed.standOn(i, supportsRead[i] / 100, supportsRead[i] % 100);
            }
            changed.supportCount = found;
        }

        int keepEdition(int part, int courses) {
            if (editionCount >= MOST_EDITIONS) {
                return FULL;
            }
            editionCount++;
            editionPart[editionCount] = part;
            editionCourses[editionCount] = courses;
            editionSize[editionCount] = partCount;
            return editionCount;
        }

        int coursesIn(int edition, int part) {
            Part asked = find(part);
            if (asked == null || edition < 0 || edition > editionCount) {
                return BAD;
            }
            if (edition > 0 && part >= editionSize[edition]) {
                return BAD;
            }
            for (int i = edition; i > 0; i--) {
                if (editionPart[i] == part) {
                    return editionCourses[i];
                }
            }
            return asked.coursesMade;
        }

        boolean isReadyBelow(Part raised) {
            for (int i = 0; i < raised.supportCount; i++) {
                Part below = find(raised.supports[i]);
                if (below == null || !below.isWhole() || below.isOnCentring()) {
                    return false;
                }
            }
            return true;
        }

        void ageAll(int months) {
            for (int i = 0; i < partCount; i++) {
                Part old = find(i);
                if (old != null && old.isBegun()) {
                    old.age += months;
                }
            }
        }

        int countBorneBy(int part) {
            int borne = 0;
            for (int i = 0; i < partCount; i++) {
                Part above = find(i);
                if (above != null && above.standsOn(part)) {
                    borne++;
                }
            }
            return borne;
        }

        int countLaid() {
            int courses = 0;
            for (int i = 0; i < partCount; i++) {
                Part built = find(i);
                if (built != null) {
                    courses += built.laid;
                }
            }
            return courses;
        }
    }

    /** What lies on each part and what pushes it, worked out anew whenever it is asked. */
    private static final class Stress {
        final int[] loads = new int[MOST_PARTS];
        /** To the right above 0, to the left below. */
        final int[] pushes = new int[MOST_PARTS];

        /** From the last part on: what a part bears has a greater number, so its load is known. */
        void weigh(Plan plan) {
            Arrays.fill(loads, 0);
            Arrays.fill(pushes, 0);
            for (int i = plan.partCount - 1; i >= 0; i--) {
                Part part = plan.find(i);
                if (part != null) {
                    loads[i] += part.laid * part.weight;
                    if (!part.isOnCentring()) {
                        passDown(part, loads[i]);
                        pushAside(part, loads[i]);
                    }
                }
            }
        }

        private void passDown(Part part, int load) {
            for (int i = 0; i < part.supportCount; i++) {
                loads[part.supports[i]] += part.portion(load, i);
            }
        }

        private void pushAside(Part part, int load) {
            if (part.kind == ARCH && part.isBegun() && part.supportCount >= 2) {
                int push = load * part.told[THRUST] / 100;
                pushes[part.supports[0]] -= push;
                pushes[part.supports[1]] += push;
            }
        }

        /** The least part that falls, BY_NET more if by its push alone; NONE if all stand. */
        int leastFalling(Plan plan) {
            weigh(plan);
            for (int i = 0; i < plan.partCount; i++) {
                Part part = plan.find(i);
                if (part != null && part.isBegun() && !part.isOnCentring()) {
                    if (loads[i] > part.told[BEARS]) {
                        return i;
                    }
                    if (Math.abs(pushes[i]) > part.told[HOLDS] + part.prop + loads[i] / 4) {
                        return i + BY_NET;
                    }
                }
            }
            return NONE;
        }
    }

    /** The count of months, and which of them have frost. */
    private static final class Calendar {
        /** For each year twelve bits. */
        final int[] bitterOfYear = new int[LAST_MONTH / YEAR + 1];
        int now;
        int frostOfYears;

        boolean isAhead(int month) {
            return month >= now && month <= LAST_MONTH;
        }

        boolean hasFrost(int month) {
            return ((frostOfYears | bitterOfYear[month / YEAR]) & 1 << month % YEAR) != 0;
        }

        /** Whether the month was not bitter before. */
        boolean makeBitter(int month) {
            int bit = 1 << month % YEAR;
            boolean was = (bitterOfYear[month / YEAR] & bit) != 0;
            bitterOfYear[month / YEAR] |= bit;
            return !was;
        }

        /** Lets months go by: how many of them had no frost. */
        int pass(int months) {
            int mild = 0;
            for (int i = 0; i < months; i++) {
                if (!hasFrost(now)) {
                    mild++;
                }
                now++;
            }
            return mild;
        }
    }

    /** Coins, what is left of them, and the text that says for what (null: for any part). */
    private static final class Gift {
        final int coins;
        final Text purpose;
        int remaining;

        Gift(int coins, Text purpose) {
            this.coins = coins;
            this.purpose = purpose;
            this.remaining = coins;
        }
    }

    /** A sound text: numbers as they are, names and signs as their bytes below 0. */
    private static final class Text {
        final int[] items;

        Text(int[] items) {
            this.items = items;
        }
    }

    /** The bytes that were fed, and the items of the text that was read from them last. */
    private static final class Tape {
        final int[] bytes = new int[MOST_BYTES];
        final int[] items = new int[MOST_BYTES];
        /** How many Es each open sign still wants. */
        final int[] wants = new int[MOST_OPEN];
        int length;
        int itemCount;
        int open;

        void take(int n, int v) {
            for (int i = 0; i < n && length < MOST_BYTES; i++) {
                bytes[length] = (v >> 8 * i) & 255;
                length++;
            }
        }

        Text asText() {
            return new Text(Arrays.copyOf(items, itemCount));
        }

        /** Reads the tape as a text: the place of its fault, or NO_FAULT. */
        int read() {
            itemCount = 0;
            open = 0;
            boolean complete = false;
            int at = 0;
            for (int step = 0; step < MOST_BYTES && at < length; step++) {
                if (complete) {
                    return at;
                }
                if (SIGNS.indexOf((char) bytes[at]) >= 0) {
                    if (open >= MOST_OPEN) {
                        return at;
                    }
                    openSign(bytes[at]);
                    at++;
                } else {
                    int next = readLeaf(at);
                    if (next < 0) {
                        return -1 - next;
                    }
                    complete = closeSigns();
                    at = next;
                }
            }
            return complete ? NO_FAULT : length;
        }

        private void openSign(int sign) {
            wants[open] = sign == '!' ? 1 : 2;
            open++;
            keep(-sign);
        }

        /** An E was read: whether it was the whole text. */
        private boolean closeSigns() {
            while (open > 0) {
                wants[open - 1]--;
                if (wants[open - 1] > 0) {
                    return false;
                }
                open--;
            }
            return true;
        }

        /** Reads a digit, a number or a name: the place behind it, or -1 less its fault. */
        private int readLeaf(int at) {
            int first = bytes[at];
            if (first == '#') {
                return readNumber(at + 1);
            }
            if (isDigit(first)) {
                keep(first - '0');
                return at + 1;
            }
            if (NAMES.indexOf((char) first) >= 0) {
                keep(-first);
                return at + 1;
            }
            return -1 - at;
        }

        private int readNumber(int from) {
            int number = 0;
            int at = from;
            while (at < length && at < from + MOST_DIGITS && isDigit(bytes[at])) {
                number = 10 * number + bytes[at] - '0';
                at++;
            }
            if (at >= length || at < from + LEAST_DIGITS || bytes[at] != ' ') {
                return -1 - at;
            }
            keep(number);
            return at + 1;
        }

        private void keep(int item) {
            if (itemCount < MOST_BYTES) {
                items[itemCount] = item;
                itemCount++;
            }
        }

        private static boolean isDigit(int b) {
            return b >= '0' && b <= '9';
        }
    }

    /** Works texts out, with what the names mean now. */
    private static final class Reckoner {
        /** As NAMES has them. */
        final int[] meanings = new int[NAMES.length()];
        final int[] stack = new int[MOST_BYTES];

        void nameNoPart() {
            meanings[0] = 0;
            meanings[1] = 0;
            meanings[2] = 0;
            meanings[3] = 0;
        }

        void namePart(int number, Part part) {
            meanings[0] = number;
            meanings[1] = part.kind;
            meanings[2] = part.laid;
            meanings[3] = part.courses;
        }

        void nameMonth(int month, boolean hasFrost, int workDone) {
            meanings[4] = month % YEAR;
            meanings[5] = month / YEAR;
            meanings[6] = hasFrost ? 1 : 0;
            meanings[7] = workDone;
        }

        int endOf(Gift given) {
            return given.purpose == null ? 1 : valueOf(given.purpose);
        }

        /** From the last item on, so that the sides of a sign are worked out when it comes. */
        int valueOf(Text text) {
            if (text == null) {
                return 0;
            }
            int height = 0;
            for (int i = text.items.length - 1; i >= 0; i--) {
                int item = text.items[i];
                if (!isSign(item)) {
                    if (height < MOST_BYTES) {
                        stack[height] = meaningOf(item);
                        height++;
                    }
                } else if (item == -'!') {
                    if (height >= 1) {
                        stack[height - 1] = truth(stack[height - 1] == 0);
                    }
                } else if (height >= 2) {
                    height--;
                    stack[height - 1] = join(-item, stack[height], stack[height - 1]);
                }
            }
            return height > 0 ? stack[height - 1] : 0;
        }

        /** A number is none, whatever char its negative would wrap to. */
        private static boolean isSign(int item) {
            return item < 0 && SIGNS.indexOf((char) -item) >= 0;
        }

        private int meaningOf(int item) {
            if (item >= 0) {
                return item;
            }
            int name = NAMES.indexOf((char) -item);
            return name < 0 ? 0 : meanings[name];
        }

        private static int truth(boolean holds) {
            return holds ? 1 : 0;
        }

        private static int join(int sign, int left, int right) {
            switch (sign) {
                case '+': return left + right;
                case '-': return left - right;
                case '*': return left * right;
                case '<': return truth(left < right);
                case '=': return truth(left == right);
                case '>': return truth(left > right);
                case '&': return truth(left != 0 && right != 0);
                case '|': return truth(left != 0 || right != 0);
                default: return 0;
            }
        }
    }
}
