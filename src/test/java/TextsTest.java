/** Promises 16 to 19 and 23: feed, gift, statute, end, work. */
public final class TextsTest {
    public static void main(String[] args) {
        feeding();
        gifts();
        giftsAreFull();
        faults();
        faultsOfDepth();
        everyByte();
        oldBytes();
        values();
        names();
        ends();
        statutes();
        statutesAreFull();
        Check.finish();
    }

    private static void feeding() {
        Lodge x = new Lodge();
        Check.due("16: feed(0, 0)", x.feed(0, 0), -1);
        Check.due("16: feed(5, 0)", x.feed(5, 0), -1);
        Check.due("16: feed(-1, 0)", x.feed(-1, 0), -1);
        Check.due("16: the lowest first", x.feed(3, '-' | '7' << 8 | '2' << 16 | 'x' << 24), 3);
        x.part(1, 1, 0);
        x.gift(1);
        Check.due("16: 7 - 2", x.end(0, 0), 5);
        Check.due("16: a byte of 255", x.feed(4, -1), 4);
        Check.due("16: is no text", x.gift(1), -100);
        for (int i = 1; i <= 24; i++) {
            Check.due("16: feed(4, ..)", x.feed(4, 0), 4 * i);
        }
        Check.due("16: feed(3, ..)", x.feed(3, 0), 99);
        Check.due("16: beyond 100", x.feed(2, 0), -3);
        Check.due("16: BAD before FULL", x.feed(5, 0), -1);
        Check.due("16: count(9)", x.count(9), 99);
        Check.due("16: the 100th", x.feed(1, 0), 100);
        Check.due("16: the 101st", x.feed(1, 0), -3);
        Check.due("16: emptied", x.gift(1), -100);
        Check.due("16: count(9)", x.count(9), 0);
    }

    private static void gifts() {
        Lodge x = new Lodge();
        Check.due("17: gift(0)", x.gift(0), -1);
        Check.due("17: gift(-5)", x.gift(-5), -1);
        Check.due("17: gift(1000001)", x.gift(1000001), -1);
        Check.due("17: gift(1000000)", x.gift(1000000), 0);
        Check.due("17: gift(1)", x.gift(1), 1);
        Check.due("22: left(0, 0)", x.left(0, 0), 1000000);
        Check.due("22: left(0, 1)", x.left(0, 1), 1000000);
        Check.feed(x, "zz");
        Check.due("17: BAD leaves the tape", x.gift(0), -1);
        Check.due("17: count(9)", x.count(9), 2);
        Check.due("17: a fault", x.gift(1), -100);
        Check.due("17: the tape is empty then", x.count(9), 0);
        Check.due("17: and no gift came", x.count(1), 2);
        Check.due("17: a sound one", Check.gift(x, 5, "p"), 2);
        Check.due("17: the tape is empty then", x.count(9), 0);
        Check.due("17: the next is for any part", x.gift(5), 3);
        x.part(1, 1, 0);
        Check.due("19: end(2, 0)", x.end(2, 0), 0);
        Check.due("19: end(3, 0)", x.end(3, 0), 1);
    }

    private static void giftsAreFull() {
        Lodge x = new Lodge();
        for (int i = 0; i < 30; i++) {
            Check.due("17: gift " + i, x.gift(1000000), i);
        }
        Check.due("27: all left", x.count(6), 30000000);
        Check.feed(x, "zz");
        Check.due("17: the 31st", x.gift(1), -3);
        Check.due("17: BAD before FULL", x.gift(0), -1);
        Check.due("17: FULL leaves the tape", x.count(9), 2);
        Check.due("17: count(1)", x.count(1), 30);
        Check.due("22: left(29, 0)", x.left(29, 0), 1000000);
        Check.due("22: left(30, 0)", x.left(30, 0), -1);
        x.part(1, 1, 0);
        Check.due("19: end(30, 0)", x.end(30, 0), -2000000000);
    }

    private static void fault(String text, int want) {
        Lodge x = new Lodge();
        int due = want < 0 ? 0 : -100 - want;
        Check.due("17: gift with '" + text + "'", Check.gift(x, 1, text), due);
        if (!text.isEmpty()) {
            Check.due("18: statute with '" + text + "'", Check.statute(x, 0, text), want < 0 ? 1 : due);
        }
        Check.due("17: count(9)", x.count(9), 0);
    }

    private static void faults() {
        String[] sound = {"", "0", "9", "p", "k", "n", "w", "m", "y", "f", "d", "#10 ", "#00 ", "#12345 ", "!0",
            "+12", "-#123 n", "*#99999 #99999 ", "<pn", "=kw", ">my", "&fd", "|01", "+!1!2", "!+12", "+*12-34"};
        for (String text : sound) {
            fault(text, -1);
        }
        fault("12", 1);
        fault("1 ", 1);
        fault(" 1", 0);
        fault("a", 0);
        fault("P", 0);
        fault("+", 1);
        fault("+1", 2);
        fault("+12p", 3);
        fault("!", 1);
        fault("!!", 2);
        fault("!12", 2);
        fault("#", 1);
        fault("#1", 2);
        fault("#12", 3);
        fault("#12345", 6);
        fault("#1 ", 2);
        fault("# 12 ", 1);
        fault("#12p", 3);
        fault("#123456 ", 6);
        fault("#12 1", 4);
        fault("#12345 #", 7);
        fault("+#12 #3 ", 7);
        fault("#-12 ", 1);
        fault("1+2", 1);
        fault("/12", 0);
        fault("+1,", 2);
        fault("+1:", 2);
        fault("+1+2+3", 6);
    }

    private static void faultsOfDepth() {
        String twenty = "!".repeat(20);
        fault(twenty + "1", -1);
        fault(twenty, 20);
        fault(twenty + "!1", 20);
        fault(twenty + "+11", 20);
        fault("+1".repeat(20) + "1", -1);
        fault("+1".repeat(20) + "+11", 40);
        fault("+".repeat(20) + "1".repeat(21), -1);
        fault("+".repeat(20) + "1".repeat(22), 41);
        fault("+".repeat(21) + "1".repeat(22), 20);
        // signs that are read are open no more
        fault("+" + "!".repeat(19) + "1" + "!".repeat(19) + "1", -1);
        fault("+" + "!".repeat(19) + "1" + "!".repeat(20) + "1", 40);
        fault("+" + "+11".repeat(1) + "!".repeat(19) + "1", -1);
        String most = "++++" + "!".repeat(16) + "#1234 " + "!".repeat(16) + "1" + "!".repeat(17) + "1"
            + "!".repeat(18) + "1" + "!".repeat(19) + "1";
        Check.due("17: the length of the longest text", most.length(), 100);
        fault(most, -1);
        String onlySigns = "+++++" + "!".repeat(15) + "1" + "!".repeat(15) + "1" + "!".repeat(16) + "1"
            + "!".repeat(17) + "1" + "!".repeat(18) + "1" + "!".repeat(8) + "1";
        Check.due("17: the length of the text with most signs", onlySigns.length(), 100);
        fault(onlySigns, -1);
        fault(onlySigns.substring(0, 99) + "!", 100);
        fault(onlySigns.substring(0, 97) + "#12", 100);
        fault(onlySigns.substring(0, 98) + "1p", 99);
        fault(most.substring(0, 99) + "!", 99);
        fault(most.substring(0, 98) + "!p", -1);
        fault(most.substring(0, 94) + "++12+", 99);
        fault(most.substring(0, 70) + "!".repeat(8) + "#12 " + "!".repeat(17) + "p", -1);
    }

    private static void everyByte() {
        String first = "0123456789#pknwmyfd!+-*<=>&|";
        for (int b = 0; b < 256; b++) {
            Lodge x = new Lodge();
            x.feed(1, b);
            boolean opens = first.indexOf(b) >= 0;
            boolean whole = opens && "#!+-*<=>&|".indexOf(b) < 0;
            Check.due("17: the byte " + b, x.gift(1), whole ? 0 : opens ? -101 : -100);
        }
    }

    /** What an earlier text left behind the end of the tape is no part of a later one. */
    private static void oldBytes() {
        Lodge x = new Lodge();
        Check.due("17: a text", Check.gift(x, 1, "#123 "), 0);
        Check.due("17: its blank is gone", Check.gift(x, 1, "#321"), -104);
        Check.due("17: its digits are gone", Check.gift(x, 1, "#1"), -102);
        Check.due("17: a text", Check.gift(x, 1, "+12"), 1);
        Check.due("17: its last E is gone", Check.gift(x, 1, "+1"), -102);
        Check.due("18: its last E is gone", Check.statute(x, 0, "+1"), -102);
        Check.due("17: open signs are gone", Check.gift(x, 1, "p"), 2);
    }

    private static void value(String text, int want) {
        Lodge x = new Lodge();
        x.part(1, 1, 0);
        Check.due("17: '" + text + "'", Check.gift(x, 1, text), 0);
        Check.due("19: what '" + text + "' says", x.end(0, 0), want);
        Check.due("18: '" + text + "'", Check.statute(x, 0, text.replace("w", "1")), 1);
        Check.due("23: what '" + text + "' lets lay", x.work(), Math.max(0, want));
    }

    private static void values() {
        value("7", 7);
        value("#00 ", 0);
        value("#10 ", 10);
        value("#00123 ", 123);
        value("#99999 ", 99999);
        value("+34", 7);
        value("-34", -1);
        value("*34", 12);
        value("<34", 1);
        value("<43", 0);
        value("<33", 0);
        value(">34", 0);
        value(">43", 1);
        value(">33", 0);
        value("=33", 1);
        value("=34", 0);
        value("&20", 0);
        value("&02", 0);
        value("&24", 1);
        value("&00", 0);
        value("|20", 1);
        value("|02", 1);
        value("|00", 0);
        value("|24", 1);
        value("!0", 1);
        value("!7", 0);
        value("!-01", 0);
        value("&-01-02", 1);
        value("--951", 3);
        value("-9-51", 5);
        value("-*23!0", 5);
        value("+w*w2", 3);
        value("*#99999 #99999 ", 99999 * 99999);
        value("**#99999 #99999 *#99999 #99999 ", 99999 * 99999 * (99999 * 99999));
        value("<*#99999 #99999 0", 99999 * 99999 < 0 ? 1 : 0);
        value("-*#65536 #32768 1", Integer.MAX_VALUE);
        value("*#65536 #32768 ", Integer.MIN_VALUE);
        // numbers whose negative wraps to a sign's or a name's char
        String special = "!+-*<=>&|pknwmyfd#0 ";
        for (int i = 0; i < special.length(); i++) {
            int number = 65536 - special.charAt(i);
            value("#" + number + " ", number);
            value("+#" + number + " 1", number + 1);
            value("#" + (int) special.charAt(i) + " ", special.charAt(i));
        }
    }

    private static void names() {
        Lodge x = new Lodge();
        x.part(3, 1, 0);
        x.part(4, 1, 0);
        x.arch(5, 1, 0, 0, 1);
        String names = "pknwmyfd";
        for (int i = 0; i < 8; i++) {
            Check.due("17: a name", Check.gift(x, 1, names.substring(i, i + 1)), i);
        }
        x.month(29);
        x.bitter(29);
        Check.layAll(x, 0);
        Check.layAll(x, 1);
        x.lay(2);
        x.lay(2);
        x.edit(2, 6);
        int[][] want = {{0, 0, 3, 3, 5, 2, 1, 9}, {1, 0, 4, 4, 5, 2, 1, 9}, {2, 1, 2, 5, 5, 2, 1, 9}};
        for (int p = 0; p < 3; p++) {
            for (int i = 0; i < 8; i++) {
                Check.due("19: " + names.charAt(i) + " of part " + p, x.end(i, p), want[p][i]);
            }
        }
        x.end(0, 2);
        int[] ofStatute = {0, 0, 0, 0, 5, 2, 1, 9};
        for (int i = 0; i < 8; i++) {
            Check.due("18: a name", Check.statute(x, 29, names.substring(i, i + 1)), i + 1);
            Check.due("23: " + names.charAt(i) + " of a statute", x.work(), ofStatute[i]);
        }
        x.month(1);
        Check.due("19: m", x.end(4, 0), 6);
        Check.due("19: f", x.end(6, 0), 0);
        Check.due("19: d", x.end(7, 0), 0);
        x.frost(1 << 6);
        Check.due("19: f by the frost of all years", x.end(6, 0), 1);
    }

    private static void ends() {
        Lodge x = new Lodge();
        Check.due("19: none such", x.end(0, 0), -2000000000);
        x.gift(1);
        Check.due("19: no such part", x.end(0, 0), -2000000000);
        x.part(1, 1, 0);
        Check.due("19: end(0, 0)", x.end(0, 0), 1);
        Check.due("19: end(1, 0)", x.end(1, 0), -2000000000);
        Check.due("19: end(-1, 0)", x.end(-1, 0), -2000000000);
        Check.due("19: end(0, 1)", x.end(0, 1), -2000000000);
        Check.due("19: end(0, -1)", x.end(0, -1), -2000000000);
        Check.gift(x, 1, "-1");
        Check.gift(x, 1, "-03");
        Check.due("19: below 0", x.end(1, 0), -3);
    }

    private static void statutes() {
        Lodge x = new Lodge();
        Check.due("18: an empty tape", x.statute(0), -100);
        Check.due("18: from -1", Check.statute(x, -1, "5"), -1);
        Check.due("18: BAD leaves the tape", x.count(9), 1);
        Check.due("18: from 1201", x.statute(1201), -1);
        Check.due("18: from 3", x.statute(3), 1);
        Check.due("18: the tape is empty then", x.count(9), 0);
        Check.due("23: none in force yet", x.work(), 10);
        Check.due("18: from 1", Check.statute(x, 1, "-12"), 2);
        Check.due("18: from 1200", Check.statute(x, 1200, "7"), 3);
        Check.due("18: a fault", Check.statute(x, 1, "12"), -101);
        Check.due("18: the tape is empty then", x.count(9), 0);
        Check.due("18: count(8)", x.count(8), 3);
        x.month(1);
        Check.due("23: less than 0 is 0", x.work(), 0);
        x.part(9, 1, 0);
        Check.due("8: nothing may be laid", x.lay(0), -13);
        x.month(2);
        Check.due("23: the one told last, not the one from the later month", x.work(), 0);
        Check.due("18: a month that went", Check.statute(x, 2, "1"), -1);
        Check.due("18: now", x.statute(3), 4);
        Check.due("23: work()", x.work(), 1);
        Check.due("8: lay(0)", x.lay(0), 1);
        Check.due("23: all of the month, not what is left", x.work(), 1);
        Check.due("8: lay(0)", x.lay(0), -13);
        Check.due("18: of the work done", Check.statute(x, 3, "+d1"), 5);
        Check.due("8: lay(0)", x.lay(0), 2);
        Check.due("23: work()", x.work(), 3);
        Check.due("8: lay(0)", x.lay(0), 3);
    }

    private static void statutesAreFull() {
        Lodge x = new Lodge();
        for (int i = 1; i <= 20; i++) {
            Check.due("18: statute " + i, Check.statute(x, 0, "5"), i);
        }
        Check.feed(x, "12");
        Check.due("18: the 21st", x.statute(0), -3);
        Check.due("18: BAD before FULL", x.statute(1201), -1);
        Check.due("18: FULL leaves the tape", x.count(9), 2);
        Check.due("18: count(8)", x.count(8), 20);
    }
}
