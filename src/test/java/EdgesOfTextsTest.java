/** The edges that the document names for texts: promises 16 to 19 and 23, and what the terms say of a TEXT. */
public final class EdgesOfTextsTest {
    private static final int LOW = Integer.MIN_VALUE, HIGH = Integer.MAX_VALUE;
    private static final int NO_END = -2000000000;
    /** Texts for the greatest int and the least. */
    private static final String GREATEST = "-*#65536 #32768 1", LEAST = "*#65536 #32768 ";

    public static void main(String[] args) {
        oneToFourBytes();
        hundredBytes();
        lowestFirst();
        coins();
        thirtyGifts();
        giftsThatAreFaulty();
        emptyTape();
        monthsOfStatutes();
        twentyStatutes();
        statutesThatAreFaulty();
        inForce();
        numbersOfGifts();
        digits();
        twoToFiveDigits();
        everySecondByte();
        endsTooEarly();
        goesOnTooLong();
        twentyOpen();
        openTillItsEsAreRead();
        firstFaultOfSeveral();
        hundredBytesOfText();
        wraps();
        comparesWhatWrapped();
        oneOrZero();
        namesAtTheirLeast();
        namesAtTheirMost();
        namesOfAStatute();
        statuteLessThanZero();
        Check.finish();
    }

    private static Lodge oneWall() {
        Lodge x = new Lodge();
        x.part(2, 10, 0);
        return x;
    }

    /** "n (1 .. 4) bytes come to THE TAPE". */
    private static void oneToFourBytes() {
        Lodge x = oneWall();
        int[] bad = {0, 5, -1, LOW, HIGH};
        for (int n : bad) {
            Check.unchanged(x, "16: feed(" + n + ", '1')", -1, l -> l.feed(n, '1'));
        }
        for (int n = 1; n <= 4; n++) {
            Check.due("16: feed(" + n + ", 0)", x.feed(n, 0), n * (n + 1) / 2);
        }
    }

    /** "THE TAPE (at most 100)": for each n the last place where so many are taken, and the first where not. */
    private static void hundredBytes() {
        for (int n = 1; n <= 4; n++) {
            Lodge x = oneWall();
            int bytes = n;
            Check.feed(x, "1".repeat(100 - n));
            Check.due("16: " + n + " bytes to the 100th", x.feed(n, 0), 100);
            Check.unchanged(x, "16: one more than 100", -3, l -> l.feed(1, 0));
            Lodge y = oneWall();
            Check.feed(y, "1".repeat(101 - n));
            Check.unchanged(y, "16: " + n + " bytes to the 101st", -3, l -> l.feed(bytes, 0));
            Check.unchanged(y, "16: BAD ahead of FULL", -1, l -> l.feed(5, 0));
            Check.unchanged(y, "16: BAD ahead of FULL", -1, l -> l.feed(0, 0));
            if (n > 1) {
                Check.due("16: but one less", y.feed(n - 1, 0), 100);
            }
        }
    }

    /** "the lowest of v first": what lies above n bytes isn't asked, and the highest bit is one as others. */
    private static void lowestFirst() {
        for (int n = 1; n <= 4; n++) {
            Lodge x = oneWall();
            Check.due("16: feed(" + n + ", ..)", x.feed(n, '!' | '!' << 8 | '!' << 16 | '!' << 24), n);
            x.feed(1, 0x7fffff00 | '0');
            Check.due("17: a text of " + n + " signs", x.gift(1), 0);
            Check.due("19: what it says", x.end(0, 0), n % 2);
        }
        Lodge y = oneWall();
        Check.due("16: the highest bit", y.feed(4, '-' | '7' << 8 | '2' << 16 | 0x80 << 24), 4);
        Check.due("17: the byte 128 is the fault", y.gift(1), -103);
        y.feed(3, 0x80000000 | '-' | '7' << 8 | '2' << 16);
        Check.due("17: not asked", y.gift(1), 0);
        Check.due("19: 7 less 2", y.end(0, 0), 5);
    }

    /** "coins (1 .. 1000000)". */
    private static void coins() {
        Lodge x = oneWall();
        Check.feed(x, "=p0");
        int[] bad = {0, 1000001, -1, LOW, HIGH};
        for (int c : bad) {
            Check.unchanged(x, "17: gift(" + c + ")", -1, l -> l.gift(c));
        }
        Check.due("17: gift(1)", x.gift(1), 0);
        Check.due("17: gift(1000000)", x.gift(1000000), 1);
        Check.due("22: 1", x.left(0, 1), 1);
        Check.due("22: 1000000", x.left(1, 0), 1000000);
        Check.feed(x, "zz");
        Check.unchanged(x, "17: BAD ahead of the fault", -1, l -> l.gift(0));
    }

    /** "GIFTS 0 .. 29": the 30th is taken, the 31st is FULL. */
    private static void thirtyGifts() {
        Lodge x = oneWall();
        for (int i = 0; i < 29; i++) {
            Check.due("17: gift " + i, x.gift(1 + i), i);
        }
        Check.due("17: a fault makes none", Check.gift(x, 1, "12"), -101);
        Check.due("17: the 30th", Check.gift(x, 1000000, "#77 "), 29);
        Check.due("22: left(29, 0)", x.left(29, 0), 1000000);
        Check.due("19: end(29, 0)", x.end(29, 0), 77);
        Check.due("22: left(30, 0)", x.left(30, 0), -1);
        Check.due("19: end(30, 0)", x.end(30, 0), NO_END);
        Check.unchanged(x, "17: the 31st", -3, l -> l.gift(1));
        Check.unchanged(x, "17: BAD ahead of FULL", -1, l -> l.gift(1000001));
        Check.feed(x, "+1");
        Check.unchanged(x, "17: the 31st, with a tape", -3, l -> l.gift(1));
        Check.due("27: the tape is as it was", x.count(9), 2);
        Check.due("18: and goes on", Check.statute(x, 0, "5"), 1);
        Check.due("23: work()", x.work(), 6);
    }

    /** "-100 less its FAULT (THE TAPE is empty then, too)": nothing else is changed. */
    private static void giftsThatAreFaulty() {
        Lodge x = oneWall();
        String before = x.state();
        Check.due("17: the fault 0", Check.gift(x, 5, "?"), -100);
        Check.dueSame("17: the fault 0", x, before);
        Check.due("17: the fault 3", Check.gift(x, 5, "+12?"), -103);
        Check.due("17: too early", Check.gift(x, 5, "+1"), -102);
        Check.due("17: the 100th byte", Check.gift(x, 5, "+1".repeat(20) + "1" + "1".repeat(59)), -141);
        Check.dueSame("17: a fault", x, before);
        Check.due("17: the next one", Check.gift(x, 5, "2"), 0);
        Check.due("19: what it says", x.end(0, 0), 2);
    }

    /** "(empty: for any PART)"; an empty STATUTE "ends too early". */
    private static void emptyTape() {
        Lodge x = oneWall();
        x.part(1, 1, 0);
        Check.due("17: a gift for any part", x.gift(1), 0);
        Check.due("19: says 1 for part 0", x.end(0, 0), 1);
        Check.due("19: says 1 for part 1", x.end(0, 1), 1);
        Check.unchanged(x, "18: an empty tape", -100, l -> l.statute(0));
        Check.due("18: BAD ahead of the fault", x.statute(1201), -1);
    }

    /** "in force from a month (MONTH now .. 1200) on". */
    private static void monthsOfStatutes() {
        Lodge x = oneWall();
        Check.feed(x, "7");
        int[] bad = {-1, 1201, LOW, HIGH};
        for (int m : bad) {
            Check.unchanged(x, "18: statute(" + m + ")", -1, l -> l.statute(m));
        }
        Check.due("18: statute(1200)", x.copy().statute(1200), 1);
        Check.due("18: statute(0)", x.copy().statute(0), 1);
        x.month(13);
        Check.unchanged(x, "18: the month that went", -1, l -> l.statute(12));
        Check.unchanged(x, "18: month 0", -1, l -> l.statute(0));
        Check.due("18: now", x.statute(13), 1);
        Check.due("23: in force now", x.work(), 7);
        Check.due("27: the tape is empty", x.count(9), 0);
    }

    /** "FULL: 20": the 20th is taken, the 21st is not; BAD is named ahead of it. */
    private static void twentyStatutes() {
        Lodge x = oneWall();
        for (int i = 1; i <= 19; i++) {
            Check.due("18: statute " + i, Check.statute(x, 0, "5"), i);
        }
        Check.due("18: a fault makes none", Check.statute(x, 0, "55"), -101);
        Check.due("18: the 20th", Check.statute(x, 0, "#20 "), 20);
        Check.unchanged(x, "18: the 21st, an empty tape", -3, l -> l.statute(0));
        Check.feed(x, "8");
        Check.unchanged(x, "18: the 21st", -3, l -> l.statute(0));
        Check.unchanged(x, "18: BAD ahead of FULL", -1, l -> l.statute(1201));
        Check.feed(x, "8");
        Check.unchanged(x, "18: FULL ahead of the fault", -3, l -> l.statute(0));
        Check.due("23: the 20th is in force", x.work(), 20);
        Check.due("17: the tape is as it was", x.gift(1), -101);
    }

    /** "-100 less its FAULT; THE TAPE is empty then": no statute came. */
    private static void statutesThatAreFaulty() {
        Lodge x = oneWall();
        String before = x.state();
        Check.due("18: the fault 0", Check.statute(x, 0, "?"), -100);
        Check.due("18: too early", Check.statute(x, 0, "!"), -101);
        Check.due("18: too long", Check.statute(x, 0, "#12 1"), -104);
        Check.dueSame("18: a fault", x, before);
        Check.feed(x, "?");
        Check.unchanged(x, "18: BAD ahead of the fault", -1, l -> l.statute(1201));
        Check.unchanged(x, "18: BAD ahead of the fault", -1, l -> l.statute(-1));
    }

    /** "the one told last of those that were told for it or an earlier one". */
    private static void inForce() {
        Lodge x = oneWall();
        Check.statute(x, 2, "2");
        Check.statute(x, 1, "1");
        Check.statute(x, 3, "3");
        Check.statute(x, 3, "4");
        Check.statute(x, 1200, "5");
        int[] want = {10, 1, 1, 4, 4};
        for (int m = 0; m < want.length; m++) {
            Check.due("23: work() in month " + m, x.work(), want[m]);
            x.month(1);
        }
        for (int i = 0; i < 11; i++) {
            x.month(100);
        }
        x.month(94);
        Check.due("23: in month 1199", x.work(), 4);
        x.month(1);
        Check.due("23: in month 1200", x.work(), 5);
    }

    /** "-2000000000: BAD": no such gift, no such part. */
    private static void numbersOfGifts() {
        Lodge x = oneWall();
        Check.due("19: no gift", x.end(0, 0), NO_END);
        Check.due("22: no gift", x.left(0, 0), -1);
        x.gift(5);
        x.gift(6);
        int[] bad = {-1, 2, 29, 30, LOW, HIGH};
        for (int g : bad) {
            Check.due("19: end(" + g + ", 0)", x.end(g, 0), NO_END);
            Check.due("22: left(" + g + ", 0)", x.left(g, 0), -1);
            Check.due("22: left(" + g + ", 1)", x.left(g, 1), -1);
        }
        Check.due("19: the first", x.end(0, 0), 1);
        Check.due("19: the last", x.end(1, 0), 1);
        Check.due("22: the last", x.left(1, 1), 6);
        Check.due("19: BAD twice", x.end(2, 1), NO_END);
    }

    /** A text whose fault is at a place; -1: it has none. Of a gift and of a statute. */
    private static void fault(String text, int place) {
        Lodge x = oneWall();
        Check.due("17: gift with '" + text + "'", Check.gift(x, 1, text), place < 0 ? 0 : -100 - place);
        Check.due("27: the tape is empty then", x.count(9), 0);
        Check.due("18: statute with '" + text + "'", Check.statute(x, 0, text), place < 0 ? 1 : -100 - place);
        Check.due("27: the tape is empty then", x.count(9), 0);
    }

    private static void value(String text, int want) {
        Lodge x = oneWall();
        Check.due("17: '" + text + "'", Check.gift(x, 1, text), 0);
        Check.due("19: what '" + text + "' says", x.end(0, 0), want);
        Check.due("18: '" + text + "'", Check.statute(x, 0, text), 1);
        Check.due("23: what '" + text + "' lets lay", x.work(), Math.max(0, want));
    }

    /** "a digit (0 .. 9)", and the bytes on both sides of these. */
    private static void digits() {
        for (int d = 0; d <= 9; d++) {
            value(String.valueOf(d), d);
        }
        fault("/", 0);
        fault(":", 0);
        fault("#1/ ", 2);
        fault("#1: ", 2);
        fault("#/1 ", 1);
        fault("#:1 ", 1);
    }

    /** "# and two to five digits and a blank (that number)". */
    private static void twoToFiveDigits() {
        fault("# ", 1);
        fault("#1 ", 2);
        value("#00 ", 0);
        value("#01 ", 1);
        value("#99 ", 99);
        value("#100 ", 100);
        value("#0999 ", 999);
        value("#00000 ", 0);
        value("#99999 ", 99999);
        fault("#100000", 6);
        fault("#000000 ", 6);
        fault("#", 1);
        fault("#1", 2);
        fault("#12", 3);
        fault("#12345", 6);
        fault("#12#", 3);
        fault("#12!", 3);
        fault("#12345p", 6);
        fault("##", 1);
        fault("#p", 1);
        fault("#12  ", 4);
        value("+#12 #34567 ", 34579);
        value("-#12 3", 9);
    }

    /** Each byte behind each kind of text's beginning: whether a TEXT goes on with it. */
    private static void everySecondByte() {
        String starts = "0123456789#pknwmyfd!+-*<=>&|";
        for (int b = 0; b < 256; b++) {
            boolean opens = starts.indexOf(b) >= 0;
            boolean leaf = opens && "#!+-*<=>&|".indexOf(b) < 0;
            boolean digit = b >= '0' && b <= '9';
            byteBehind("", b, opens ? leaf ? -1 : 1 : 0);
            byteBehind("!", b, opens ? leaf ? -1 : 2 : 1);
            byteBehind("*", b, opens ? 2 : 1);
            byteBehind("*1", b, opens ? leaf ? -1 : 3 : 2);
            byteBehind("p", b, 1);
            byteBehind("#", b, digit ? 2 : 1);
            byteBehind("#1", b, digit ? 3 : 2);
            byteBehind("#12", b, b == ' ' ? -1 : digit ? 4 : 3);
            byteBehind("#12345", b, b == ' ' ? -1 : 6);
        }
    }

    private static void byteBehind(String text, int b, int place) {
        Lodge x = new Lodge();
        Check.due("17: the byte " + b + " behind '" + text + "'", Check.gift(x, 1, text + (char) b),
            place < 0 ? 0 : -100 - place);
    }

    /** "the length, if it ends too early". */
    private static void endsTooEarly() {
        String whole = "|&<p3=n#12 >-w1*2!+yf";
        fault(whole, -1);
        for (int cut = 1; cut < whole.length(); cut++) {
            fault(whole.substring(0, cut), cut);
        }
    }

    /** The first byte behind a whole text is a fault, whatever it is. */
    private static void goesOnTooLong() {
        String[] whole = {"0", "d", "#12 ", "!1", "+12", "*+12-#34 f"};
        for (String text : whole) {
            fault(text, -1);
            fault(text + "0", text.length());
            fault(text + " ", text.length());
            fault(text + "+", text.length());
            fault(text + (char) 0, text.length());
        }
    }

    /** "At most 20 of ! and the signs are open within one another; the 21st open one is so". */
    private static void twentyOpen() {
        String signs = "!+-*<=>&|";
        for (int i = 0; i < signs.length(); i++) {
            char sign = signs.charAt(i);
            String twenty = String.valueOf(sign).repeat(20);
            String rest = sign == '!' ? "0" : "0".repeat(21);
            fault(twenty.substring(1) + (sign == '!' ? "0" : "0".repeat(20)), -1);
            fault(twenty + rest, -1);
            fault(twenty + sign + rest + "0", 20);
            fault(twenty + sign, 20);
            fault(twenty, 20);
        }
        // on the left side and on the right one
        fault("+0".repeat(20) + "0", -1);
        fault("+0".repeat(20) + "!0", 40);
        fault("+0".repeat(19) + "!0", -1);
        fault("+0".repeat(19) + "!!0", 39);
        fault("+".repeat(20) + "0!0", 21);
        fault("+".repeat(20) + "00!0" + "0".repeat(18), -1);
        fault("+".repeat(20) + "00!!0", 23);
    }

    /** "(one is open till its Es are read)". */
    private static void openTillItsEsAreRead() {
        String deep = "!".repeat(19) + "0";
        fault("+" + deep + deep, -1);
        fault("+" + deep + "!" + deep, 40);
        fault("+!" + deep, 20);
        fault("++00" + deep, -1);
        fault("++00!" + deep, 23);
        fault("+0" + deep, -1);
        fault("+0!" + deep, 21);
        fault("++" + deep.substring(1) + "0" + deep, -1);
        fault("++" + deep.substring(1) + deep.substring(1) + deep, -1);
        fault("++" + deep.substring(1) + deep, 39);
        fault("++" + deep, 20);
        fault("!+" + deep.substring(1) + deep.substring(1), -1);
    }

    /** "the place of the first byte with which no TEXT goes on". */
    private static void firstFaultOfSeveral() {
        fault("??", 0);
        fault("+?#1 ", 1);
        fault("+1#1 ?", 4);
        fault("12?", 1);
        fault("!".repeat(21) + "?", 20);
        fault("!".repeat(20) + "?!", 20);
        fault("!".repeat(20) + "#1 !", 22);
        fault("#123456?", 6);
    }

    /** A text of all 100 bytes: whole, too early, and with its last byte a fault. */
    private static void hundredBytesOfText() {
        String but99 = "+".repeat(12) + "#12345 ".repeat(12) + "!!!";
        Check.due("the bytes ahead of the last one", but99.length(), 99);
        fault(but99 + "0", -1);
        value(but99 + "0", 12 * 12345 + 1);
        fault(but99, 99);
        fault(but99 + "!", 100);
        fault(but99 + "#", 100);
        fault(but99 + "?", 99);
        fault(but99.substring(0, 96) + "00#1", 97);
        fault(but99.substring(0, 96) + "!00#", 98);
        fault(but99.substring(0, 96) + "!!00", 99);
        fault("+" + but99.substring(0, 96) + "00 ", 99);
        fault("+" + but99.substring(0, 96) + "!00", -1);
        fault("+" + but99.substring(0, 96) + "#00", 100);
        String signsAlone = "+".repeat(5) + ("!".repeat(15) + "0").repeat(5) + "!".repeat(14) + "0";
        Check.due("the bytes of a text of signs and digits alone", signsAlone.length(), 100);
        value(signsAlone, 5);
        Lodge x = oneWall();
        Check.gift(x, 1, but99 + "0");
        Check.unchanged(x, "18: the tape was emptied of all 100", -100, l -> l.statute(0));
    }

    /** "Ints that wrap". */
    private static void wraps() {
        value(GREATEST, HIGH);
        value(LEAST, LOW);
        value("+" + GREATEST + "1", LOW);
        value("-" + LEAST + "1", HIGH);
        value("-0" + LEAST, LOW);
        value("+" + LEAST + LEAST, 0);
        value("*" + LEAST + "2", 0);
        value("*" + LEAST + "-01", LOW);
        value("*" + GREATEST + GREATEST, 1);
        value("*" + GREATEST + "2", -2);
        value("*#65536 #65536 ", 0);
        value("*#46341 #46341 ", 46341 * 46341);
        value("*#46340 #46340 ", 46340 * 46340);
        value("+" + GREATEST + GREATEST, -2);
    }

    /** The sides as they are, not their difference, which may wrap. */
    private static void comparesWhatWrapped() {
        value("<" + LEAST + GREATEST, 1);
        value("<" + GREATEST + LEAST, 0);
        value(">" + GREATEST + LEAST, 1);
        value(">" + LEAST + GREATEST, 0);
        value("=" + LEAST + GREATEST, 0);
        value("=" + LEAST + LEAST, 1);
        value("=+" + GREATEST + "1" + LEAST, 1);
        value("<" + LEAST + "0", 1);
        value(">" + LEAST + "0", 0);
        value("&" + LEAST + LEAST, 1);
        value("!" + LEAST, 0);
        value("!*" + LEAST + "2", 1);
        int[][] near = {{3, 4}, {4, 4}, {5, 4}};
        for (int[] n : near) {
            String sides = String.valueOf(n[0]) + n[1];
            value("<" + sides, n[0] < n[1] ? 1 : 0);
            value("=" + sides, n[0] == n[1] ? 1 : 0);
            value(">" + sides, n[0] > n[1] ? 1 : 0);
        }
    }

    /** "! < = > & | give 1 or 0 (what is not 0 is true)". */
    private static void oneOrZero() {
        String[] sides = {"0", "1", "2", "4", "-01", "-02"};
        for (int i = 0; i < sides.length; i++) {
            value("!" + sides[i], i == 0 ? 1 : 0);
            for (int k = 0; k < sides.length; k++) {
                value("&" + sides[i] + sides[k], i > 0 && k > 0 ? 1 : 0);
                value("|" + sides[i] + sides[k], i > 0 || k > 0 ? 1 : 0);
            }
        }
        value("!!7", 1);
        value("+<12>21", 2);
    }

    private static int[] namesOf(Lodge x, int part) {
        int[] says = new int[8];
        for (int i = 0; i < 8; i++) {
            Lodge y = x.copy();
            int gift = Check.gift(y, 1, "pknwmyfd".substring(i, i + 1));
            says[i] = y.end(gift, part);
        }
        return says;
    }

    private static void dueNames(String when, Lodge x, int part, int... want) {
        int[] says = namesOf(x, part);
        for (int i = 0; i < 8; i++) {
            Check.due("19: " + "pknwmyfd".charAt(i) + " " + when, says[i], want[i]);
        }
    }

    private static void namesAtTheirLeast() {
        Lodge x = new Lodge();
        x.part(1, 1, 0);
        dueNames("at first", x, 0, 0, 0, 0, 1, 0, 0, 0, 0);
        x.lay(0);
        dueNames("with a course", x, 0, 0, 0, 1, 1, 0, 0, 0, 1);
        x.bitter(0);
        dueNames("in a bitter month", x, 0, 0, 0, 1, 1, 0, 0, 1, 1);
        x.month(1);
        dueNames("in month 1", x, 0, 0, 0, 1, 1, 1, 0, 0, 0);
        x.month(10);
        dueNames("in month 11", x, 0, 0, 0, 1, 1, 11, 0, 0, 0);
        x.month(1);
        dueNames("in month 12", x, 0, 0, 0, 1, 1, 0, 1, 0, 0);
        x.frost(1);
        dueNames("with frost", x, 0, 0, 0, 1, 1, 0, 1, 1, 0);
        x.edit(0, 5);
        dueNames("when edit is answered with NOT", x, 0, 0, 0, 1, 1, 0, 1, 1, 0);
    }

    private static void namesAtTheirMost() {
        Lodge x = new Lodge();
        for (int i = 0; i < 39; i++) {
            x.part(1, 1, 0);
        }
        x.arch(2, 1, 0, 0, 1);
        x.edit(39, 30);
        dueNames("of part 39", x, 39, 39, 1, 0, 30, 0, 0, 0, 0);
        for (int i = 0; i < 11; i++) {
            x.month(100);
        }
        x.month(99);
        x.frost(1 << 11);
        dueNames("in month 1199", x, 39, 39, 1, 0, 30, 11, 99, 1, 0);
        x.month(1);
        dueNames("in month 1200", x, 39, 39, 1, 0, 30, 0, 100, 0, 0);
        x.bitter(1200);
        Check.statute(x, 1200, "#99 ");
        x.lay(0);
        x.lay(1);
        for (int i = 0; i < 30; i++) {
            x.lay(39);
        }
        dueNames("when it is whole", x, 39, 39, 1, 30, 30, 0, 100, 1, 32);
    }

    /** "Of a STATUTE p, k, n, w are 0", also when a part was asked just before. */
    private static void namesOfAStatute() {
        String names = "pknwmyfd";
        Lodge x = new Lodge();
        for (int i = 0; i < 3; i++) {
            x.part(3, 1, 0);
        }
        x.arch(3, 1, 0, 1, 2);
        Check.gift(x, 1, "+p+k+nw");
        for (int i = 0; i < 6; i++) {
            x.lay(1 + i / 3);
        }
        x.lay(3);
        x.month(17);
        x.frost(1 << 5);
        x.lay(3);
        int[] want = {0, 0, 0, 0, 5, 1, 1, 1};
        for (int i = 0; i < 8; i++) {
            Lodge y = x.copy();
            Check.due("19: of the arch", y.end(0, 3), 3 + 1 + 2 + 3);
            Check.statute(y, 17, names.substring(i, i + 1));
            Check.due("23: " + names.charAt(i), y.work(), want[i]);
            y.end(0, 3);
            Check.due("23: " + names.charAt(i) + " behind end()", y.work(), want[i]);
            Check.due("9: as much work is done", y.may(3), want[i] > 1 ? 0 : 3);
        }
    }

    /** "(less than 0 is 0)". */
    private static void statuteLessThanZero() {
        String[] texts = {"0", "-01", LEAST, "1", GREATEST};
        int[] want = {0, 0, 0, 1, HIGH};
        for (int i = 0; i < texts.length; i++) {
            Lodge x = oneWall();
            Check.statute(x, 0, texts[i]);
            Check.due("23: '" + texts[i] + "'", x.work(), want[i]);
            Check.due("9: '" + texts[i] + "'", x.may(0), want[i] == 0 ? 3 : 0);
        }
    }
}
