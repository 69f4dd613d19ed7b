/** Both sides of every boundary of what is there and of what is done by hand: promises 7 to 16, 34 and 36 to 38. */
public final class BoundaryActsTest {
    private static final int NONE = SlipDesk.NONE;
    private static final int LEAST = Integer.MIN_VALUE;
    private static final int MOST = Integer.MAX_VALUE;
    private static final String NINE = "slip 9" + Bench.many(9, ";offer 1 0");
    /** Of 100, lines 0 and 1 have 60 and 40 signed; 2 waits, and would go out by what it needs. */
    private static final String THREE = "slip 100;offer 60 1;offer 80 0;offer 40 0;needs 2 2 21;needs 1 4 30";

    private static final Bench b = new Bench("BoundaryActsTest");

    public static void main(String[] args) {
        offers();
        needs();
        lines();
        outs();
        shorts();
        standing();
        signingDown();
        placedNeeds();
        lineNeeds();
        signedNeeds();
        manyNeeds();
        shortNeeds();
        dayNeeds();
        settling();
        evermore();
        days();
        above0();
        day999();
        cancels();
        orders();
        writes();
        claims();
        paid9999();
        undone20();
        undoneAround();
        undoneAll();
        seeds();
        counts();
        images();
        imagesWhole();
        b.close();
    }

    private static void dueAll(String call, int[] got, int... want) {
        for (int i = 0; i < want.length; i++) {
            b.due(call + " " + i, got[i], want[i]);
        }
    }

    private static int[] signed(SlipDesk x) {
        int[] signed = new int[9];
        for (int o = 0; o < 9; o++) {
            signed[o] = x.offer(o, 4);
        }
        return signed;
    }

    // ---- promises 7 to 10

    private static void offers() {
        b.says(7, "NONE without these");
        SlipDesk none = new SlipDesk();
        SlipDesk empty = b.desk("slip 5", 0);
        SlipDesk x = b.desk(THREE, 2);
        SlipDesk nine = b.desk(NINE, 0);
        for (int what = 0; what < 6; what++) {
            int w = what;
            b.due("without a slip", none.offer(0, what), NONE);
            b.due("without offers", empty.offer(0, what), NONE);
            b.still(x, "offer -1", () -> x.offer(-1, w), NONE);
            b.still(x, "offer 3 of three", () -> x.offer(3, w), NONE);
            b.due("offer 9 of nine", nine.offer(9, what), NONE);
            b.due("the least number of all", x.offer(LEAST, what), NONE);
            b.due("the greatest number of all", x.offer(MOST, what), NONE);
        }
        int[] whats = {-1, 6, LEAST, MOST};
        for (int what : whats) {
            b.due("what " + what, x.offer(0, what), NONE);
        }
        dueAll("offer 8 of nine", new int[] {nine.offer(8, 0), nine.offer(8, 1), nine.offer(8, 2), nine.offer(8, 3),
            nine.offer(8, 4), nine.offer(8, 5)}, 1, 0, 0, 0, 0, 0);
        b.says(7, "3: 0 it WAITS, 1 it is a LINE, 2 it is OUT, 4: SIGNED (0, if it is no LINE), 5: PAID");
        x.claim(50);
        x.cancel(0);
        dueAll("out", new int[] {x.offer(0, 3), x.offer(0, 4), x.offer(0, 5)}, 2, 0, 30);
        dueAll("a line", new int[] {x.offer(1, 3), x.offer(1, 4), x.offer(1, 5)}, 1, 80, 20);
        dueAll("waits", new int[] {x.offer(2, 3), x.offer(2, 4), x.offer(2, 5)}, 0, 0, 0);
    }

    private static void needs() {
        b.says(8, "Of the i-th NEED (from 0) of an OFFER; NONE without these");
        SlipDesk x = b.desk("slip 9;offer 1 0;offer 2 0" + Bench.many(12, ";needs 1 3 4"), 0);
        b.due("the first", x.need(1, 0, 0), 3);
        b.due("the twelfth", x.need(1, 11, 0), 3);
        b.due("the twelfth", x.need(1, 11, 1), 4);
        b.due("the twelfth", x.need(1, 11, 2), 0);
        int[][] bad = {{1, 12, 0}, {1, -1, 0}, {1, LEAST, 0}, {1, MOST, 0}, {0, 0, 0}, {2, 0, 0}, {-1, 0, 0},
            {9, 0, 0}, {LEAST, 0, 0}, {MOST, 0, 0}, {1, 0, -1}, {1, 0, 3}, {1, 0, LEAST}, {1, 0, MOST}};
        for (int[] n : bad) {
            b.still(x, "need " + n[0] + " " + n[1] + " " + n[2], () -> x.need(n[0], n[1], n[2]), NONE);
        }
        b.due("without a slip", new SlipDesk().need(0, 0, 0), NONE);
        b.says(8, "2: 1 if it is a LINE and this holds, else 0");
        SlipDesk y = b.desk("slip 9;offer 1 0;offer 2 0;needs 0 5 1;needs 0 3 1;needs 1 3 9", 0);
        b.due("waits, though it would hold", y.need(0, 0, 2), 0);
        y.day();
        b.due("day 1 is 1 at most", y.need(0, 0, 2), 1);
        b.due("one line at most", y.need(0, 1, 2), 1);
        b.due("the other waits", y.need(1, 0, 2), 0);
        y.day();
        b.due("out", y.offer(0, 3), 2);
        b.due("out, though there is one line at most", y.need(0, 1, 2), 0);
        b.due("the other is a line", y.need(1, 0, 2), 1);
        SlipDesk z = b.desk("slip 9;offer 1 0;needs 0 5 0", 1);
        b.due("a line, and does not hold", z.need(0, 0, 2), 0);
    }

    private static void lines() {
        b.says(9, "Which OFFER is the LINE at a place along the slip; NONE without it");
        SlipDesk x = b.ruled(NINE, "take 1+offer", 9);
        for (int place = 0; place < 9; place++) {
            b.due("line " + place, x.line(place), 8 - place);
        }
        int[] places = {-1, 9, LEAST, MOST};
        for (int place : places) {
            b.due("line " + place, x.line(place), NONE);
        }
        x.cancel(5);
        b.due("ahead of the one that went", x.line(2), 6);
        b.due("behind it", x.line(3), 4);
        b.due("the last", x.line(7), 0);
        b.due("behind the last", x.line(8), NONE);
        b.due("without lines", b.desk(NINE, 0).line(0), NONE);
        b.due("without a slip", new SlipDesk().line(0), NONE);
    }

    private static void outs() {
        b.says(10, "Which OFFER went OUT the place-th (from 0) of all; NONE without it");
        SlipDesk x = b.desk(NINE, 9);
        b.due("none yet", x.out(0), NONE);
        int[] order = {4, 8, 0, 1, 7, 6, 2, 3, 5};
        for (int i = 0; i < 9; i++) {
            b.due("without it", x.out(i), NONE);
            x.cancel(order[i]);
            b.due("out " + i, x.out(i), order[i]);
        }
        for (int i = 0; i < 9; i++) {
            b.due("out " + i, x.out(i), order[i]);
        }
        int[] places = {-1, 9, LEAST, MOST};
        for (int place : places) {
            b.due("out " + place, x.out(place), NONE);
        }
        b.due("without a slip", new SlipDesk().out(0), NONE);
    }

    // ---- what is placed and signed

    private static void shorts() {
        b.says(36, "SHORT: ORDER less PLACED, 0 at least");
        SlipDesk x = b.desk("slip 100;offer 99 0", 0);
        b.due("nothing placed", x.count(8), 100);
        x.day();
        b.due("99 placed", x.count(8), 1);
        x.write(0, 100);
        b.due("100 placed", x.count(8), 0);
        x.write(0, 101);
        b.due("101 placed", x.count(8), 0);
        b.due("placed", x.count(7), 101);
        b.due("signed", x.count(9), 100);
        SlipDesk most = b.desk("slip 1" + Bench.many(9, ";offer 999 0"), 9);
        b.due("most placed of all", most.count(7), 8991);
        b.due("short", most.count(8), 0);
        b.due("signed", most.count(9), 1);
    }

    private static void standing() {
        b.says(7, "one that is to STAND has as much as it writes, if that is not more than what of the ORDER is left by such ones ahead of it");
        dueAll("all of the order", signed(b.desk("slip 100;offer 100 1;offer 50 0", 2)), 100, 0);
        dueAll("one more than the order", signed(b.desk("slip 100;offer 101 1;offer 50 0", 2)), 67, 33);
        dueAll("what is left, just", signed(b.desk("slip 100;offer 60 1;offer 40 1;offer 10 0", 3)), 60, 40, 0);
        // 40 by 41 and 10: 32 8/51 and 7 43/51
        dueAll("one more than is left", signed(b.desk("slip 100;offer 60 1;offer 41 1;offer 10 0", 3)), 60, 32, 8);
        dueAll("nothing is left", signed(b.desk("slip 60;offer 60 1;offer 1 1;offer 1 0", 3)), 60, 0, 0);
        dueAll("one behind fits yet", signed(b.desk("slip 100;offer 60 1;offer 41 1;offer 40 1", 3)), 60, 0, 40);
        dueAll("not to stand", signed(b.desk("slip 100;offer 100 0;offer 50 1", 2)), 50, 50);
        b.says(7, "what is left then is for all others (those to STAND that were too large, too)");
        dueAll("both are too large", signed(b.desk("slip 10;offer 20 1;offer 20 1", 2)), 5, 5);
        // "along the slip", not by numbers
        dueAll("taken first", signed(b.ruled("slip 100;offer 60 1;offer 60 1", "take offer+1", 2)), 40, 60);
    }

    private static void signingDown() {
        b.says(7, "each as much as it writes, if these write no more than that, together");
        dueAll("one less", signed(b.desk("slip 100;offer 50 0;offer 49 0", 2)), 50, 49);
        dueAll("just as much", signed(b.desk("slip 100;offer 50 0;offer 50 0", 2)), 50, 50);
        dueAll("behind one that stands", signed(b.desk("slip 100;offer 40 1;offer 30 0;offer 30 0", 3)), 40, 30, 30);
        // 100 by 50 and 52: 49 2/102 and 50 100/102
        dueAll("two more", signed(b.desk("slip 100;offer 50 0;offer 52 0", 2)), 49, 51);
        // 100 by 50 and 51: 49 51/101 and 50 50/101
        dueAll("one more", signed(b.desk("slip 100;offer 50 0;offer 51 0", 2)), 50, 50);
        b.says(7, "else each the part of it by what it writes, downwards, and what is left, one each, to those whose part lost most by that");
        // 10 by 7, 5 and 3: 4 10/15, 3 5/15 and 2
        dueAll("one is left", signed(b.desk("slip 10;offer 7 0;offer 5 0;offer 3 0", 3)), 5, 3, 2);
        // 11 by 4, 5, 6: 2 14/15, 3 10/15, 4 6/15
        dueAll("two are left", signed(b.desk("slip 11;offer 4 0;offer 5 0;offer 6 0", 3)), 3, 4, 4);
        dueAll("none is left", signed(b.desk("slip 10;offer 10 0;offer 6 0;offer 4 0", 3)), 5, 3, 2);
        dueAll("one writes 1", signed(b.desk("slip 9;offer 1 0", 1)), 1);
        dueAll("one of 1 writes 1", signed(b.desk("slip 1;offer 1 1", 1)), 1);
        dueAll("one of 1 writes 2", signed(b.desk("slip 1;offer 2 1", 1)), 1);
        dueAll("nine for 8", signed(b.desk("slip 8" + Bench.many(9, ";offer 1 0"), 9)), 1, 1, 1, 1, 1, 1, 1, 1, 0);
        dueAll("nine for 1", signed(b.desk("slip 1" + Bench.many(9, ";offer 999 0"), 9)), 1, 0, 0, 0, 0, 0, 0, 0, 0);
        b.says(7, "of several the first along the slip");
        dueAll("three of four", signed(b.desk("slip 11" + Bench.many(4, ";offer 5 0"), 4)), 3, 3, 3, 2);
        dueAll("turned", signed(b.ruled("slip 11" + Bench.many(4, ";offer 5 0"), "take 1+offer", 4)), 2, 3, 3, 3);
    }

    // ---- what lines need

    /** Whether the first offer is a line behind so many days. */
    private static void stays(String slip, int days, boolean stays) {
        b.due("where 0 is behind " + days + " days of " + slip, b.desk(slip, days).offer(0, 3), stays ? 1 : 2);
    }

    private static void placedNeeds() {
        b.says(11, "KIND 0: PLACED is N at least");
        stays("slip 9;offer 10 0;needs 0 0 0", 1, true);
        stays("slip 9;offer 10 0;needs 0 0 9", 1, true);
        stays("slip 9;offer 10 0;needs 0 0 10", 1, true);
        stays("slip 9;offer 10 0;needs 0 0 11", 1, false);
        stays("slip 9;offer 999 0;needs 0 0 999", 1, true);
        stays("slip 9;offer 998 0;needs 0 0 999", 1, false);
        SlipDesk x = b.desk("slip 9;offer 10 0;offer 5 0;needs 0 0 9;needs 1 0 15", 2);
        b.due("both, together", x.count(6), 3);
        b.due("one less", x.write(0, 9), 9);
        b.due("14 are not 15", x.out(0), 1);
    }

    private static void lineNeeds() {
        b.says(11, "1: OFFER N is a LINE");
        stays("slip 9;offer 1 0;needs 0 1 0", 1, true);
        stays("slip 9;offer 1 0;offer 1 0;needs 0 1 1", 1, false);
        stays("slip 9;offer 1 0;needs 0 1 1", 1, false);
        stays("slip 9;offer 1 0;needs 0 1 8", 1, false);
        stays("slip 9;offer 1 0;needs 0 1 9", 1, false);
        stays("slip 9;offer 1 0;needs 0 1 31", 1, false);
        stays("slip 9;offer 1 0;needs 0 1 32", 1, false);
        stays("slip 9;offer 1 0;needs 0 1 999", 1, false);
        b.due("the ninth", b.ruled(NINE + ";needs 0 1 8", "take 1+offer", 9).offer(0, 3), 1);
        SlipDesk x = b.ruled("slip 9;offer 1 0;offer 1 0;needs 0 1 1", "take 1+offer", 2);
        b.due("it is", x.offer(0, 3), 1);
        b.due("it is out", x.cancel(1), 2);
    }

    private static void signedNeeds() {
        b.says(11, "2: it has N SIGNED at least");
        stays("slip 9;offer 9 0;needs 0 2 0", 1, true);
        stays("slip 9;offer 9 0;needs 0 2 8", 1, true);
        stays("slip 9;offer 9 0;needs 0 2 9", 1, true);
        stays("slip 9;offer 9 0;needs 0 2 10", 1, false);
        stays("slip 9;offer 10 0;needs 0 2 10", 1, false);
        stays("slip 999;offer 999 0;needs 0 2 999", 1, true);
        stays("slip 998;offer 999 0;needs 0 2 999", 1, false);
        stays("slip 10;offer 10 0;offer 10 0;needs 0 2 5", 2, true);
        stays("slip 10;offer 10 0;offer 10 0;needs 0 2 6", 2, false);
        SlipDesk x = b.desk("slip 5;offer 5 1;offer 5 0;needs 1 2 0", 2);
        b.due("0 are 0 at least", x.count(6), 3);
    }

    private static void manyNeeds() {
        b.says(11, "3: there are N LINES at most");
        stays("slip 9;offer 1 0;needs 0 3 0", 1, false);
        stays("slip 9;offer 1 0;needs 0 3 1", 1, true);
        stays("slip 9;offer 1 0;offer 1 0;needs 0 3 1", 2, false);
        stays("slip 9;offer 1 0;offer 1 0;needs 0 3 2", 2, true);
        stays(NINE + ";needs 0 3 9", 9, true);
        stays(NINE + ";needs 0 3 8", 8, true);
        stays(NINE + ";needs 0 3 8", 9, false);
    }

    private static void shortNeeds() {
        b.says(11, "4: SHORT is N at most");
        stays("slip 10;offer 10 0;needs 0 4 0", 1, true);
        stays("slip 10;offer 11 0;needs 0 4 0", 1, true);
        stays("slip 10;offer 9 0;needs 0 4 0", 1, false);
        stays("slip 10;offer 9 0;needs 0 4 1", 1, true);
        stays("slip 30;offer 10 0;needs 0 4 20", 1, true);
        stays("slip 30;offer 10 0;needs 0 4 19", 1, false);
        stays("slip 999;offer 1 0;needs 0 4 998", 1, true);
        stays("slip 999;offer 1 0;needs 0 4 997", 1, false);
        stays("slip 999;offer 1 0;needs 0 4 999", 1, true);
    }

    private static void dayNeeds() {
        b.says(11, "5: DAY is N at most; then all is SETTLED; DAY is 1 more");
        stays("slip 9;offer 1 0;needs 0 5 0", 1, true);
        stays("slip 9;offer 1 0;needs 0 5 0", 2, false);
        stays("slip 9;offer 1 0;needs 0 5 2", 3, true);
        stays("slip 9;offer 1 0;needs 0 5 2", 4, false);
        stays("slip 9;offer 1 0;needs 0 5 998", 999, true);
        SlipDesk x = b.desk("slip 9;offer 1 0;needs 0 5 2", 2);
        b.due("day 2", x.need(0, 0, 2), 1);
        b.due("an order in day 2", x.order(8), 0);
        x.day();
        b.due("day 3", x.need(0, 0, 2), 0);
        b.due("a line yet", x.offer(0, 3), 1);
        b.due("an order in day 3", x.order(7), 1);
        SlipDesk y = b.ruled("slip 9;offer 1 0;needs 0 5 2", "take 1 if day=3", 4);
        b.due("taken in day 3, and out in it", y.out(0), 0);
        SlipDesk z = b.ruled("slip 9;offer 1 0;needs 0 5 2", "take 1 if day=2", 3);
        b.due("taken in day 2", z.line(0), 0);
    }

    private static void settling() {
        b.says(11, "SETTLED: as long as a NEED of a LINE does not hold, the first LINE along the slip of which that is so goes OUT");
        SlipDesk x = b.desk("slip 99;offer 1 0;offer 1 0;needs 0 3 1;needs 1 3 1", 2);
        b.due("the first goes", x.out(0), 0);
        b.due("the second may stay then", x.line(0), 1);
        b.due("no more go", x.count(10), 1);
        SlipDesk y = b.ruled("slip 99;offer 1 0;offer 1 0;needs 0 3 1;needs 1 3 1", "take 1+offer", 2);
        b.due("along the slip, not by numbers", y.out(0), 1);
        SlipDesk z = b.ruled(NINE + ";needs 0 1 1;needs 1 1 2;needs 2 1 3;needs 3 1 4;needs 4 1 5;needs 5 1 6;needs 6 1 7"
                + ";needs 7 1 8", "take 1+offer", 9);
        b.due("all are lines", z.count(6), 511);
        b.due("all nine go", z.cancel(8), 9);
        for (int i = 0; i < 9; i++) {
            b.due("out " + i, z.out(i), 8 - i);
        }
        StringBuilder all = new StringBuilder(NINE);
        for (int o = 0; o < 9; o++) {
            all.append(";needs ").append(o).append(" 4 8");
        }
        SlipDesk nine = b.desk(all.toString(), 9);
        b.due("short by 8", nine.order(17), 0);
        b.due("short by 9: all nine go", nine.order(18), 9);
        for (int i = 0; i < 9; i++) {
            b.due("out " + i, nine.out(i), i);
        }
        String eleven = "slip 9;offer 5 0" + Bench.many(11, ";needs 0 0 5");
        b.due("the twelfth need holds", b.desk(eleven + ";needs 0 3 1", 1).line(0), 0);
        b.due("the twelfth need does not", b.desk(eleven + ";needs 0 3 0", 1).out(0), 0);
        SlipDesk w = b.desk("slip 9;offer 5 0;offer 5 0;needs 0 0 1;needs 0 2 4;needs 1 0 9;needs 1 0 1", 2);
        b.due("all needs of both hold", w.count(6), 3);
        b.due("one of several does not", w.order(7), 0);
        b.due("one of several does not", w.order(6), 2);
        b.due("it went first", w.out(0), 0);
        b.due("and this one by its going", w.out(1), 1);
    }

    private static void evermore() {
        b.says(11, "one that went OUT is no LINE, and does not WAIT, ever more");
        SlipDesk x = b.desk("slip 9;offer 5 0", 1);
        x.cancel(0);
        b.due("waiting", x.count(5), 0);
        b.due("lines", x.count(6), 0);
        b.due("none is taken", x.day(), -2);
        b.due("out", x.offer(0, 3), 2);
        b.still(x, "write", () -> x.write(0, 6), NONE);
        b.still(x, "cancel", () -> x.cancel(0), NONE);
        SlipDesk y = b.desk("slip 9;offer 5 0;needs 0 0 6", 1);
        b.due("taken and out", y.offer(0, 3), 2);
        b.due("not again", y.day(), -2);
    }

    // ---- promise 11

    private static void days() {
        b.says(11, "which OFFER is taken (-2: none); NONE, and nothing happens, without a SLIP");
        SlipDesk none = new SlipDesk();
        b.still(none, "without a slip", none::day, NONE);
        SlipDesk x = b.desk("slip 5", 0);
        b.due("no offers", x.day(), -2);
        b.due("a day all the same", x.count(4), 1);
        b.due("and an act", x.count(12), 1);
        b.says(11, "without a RULE the least");
        SlipDesk y = b.ruled("slip 9;offer 1 0;offer 2 0;offer 3 0", "take writes", 1);
        b.due("by the rule", y.line(0), 2);
        y.force(NONE);
        b.due("the least that waits", y.day(), 0);
        b.due("the next", y.day(), 1);
        b.due("none is left", y.day(), -2);
        b.says(11, "behind all others");
        b.due("the first", y.line(0), 2);
        b.due("the last", y.line(2), 1);
    }

    private static void above0() {
        b.says(11, "is greatest, if it is above 0, of several the least (none, if none is such)");
        String slip = "slip 9;offer 1 0;offer 2 0;offer 3 0";
        b.due("1", b.ruled(slip, "take 1", 0).day(), 0);
        b.due("0", b.ruled(slip, "take 0", 0).day(), -2);
        b.due("-1", b.ruled(slip, "take 0-1", 0).day(), -2);
        b.due("0, 0, 1", b.ruled(slip, "take offer/2", 0).day(), 2);
        b.due("0, 1, 1", b.ruled(slip, "take 1-1/writes", 0).day(), 1);
        b.due("-1, 0, 1", b.ruled(slip, "take offer-1", 0).day(), 2);
        b.due("1, 0, -1", b.ruled(slip, "take 1-offer", 0).day(), 0);
        b.due("-2, -1, 0", b.ruled(slip, "take offer-2", 0).day(), -2);
        SlipDesk x = b.ruled(slip, "take writes if writes>2", 0);
        b.due("3", x.day(), 2);
        b.due("none is such, though two wait", x.day(), -2);
        b.due("they wait yet", x.count(5), 3);
        b.says(11, "of an OFFER that WAITS: offer, writes, stands (1, 0), needs (how many it has)");
        String words = "slip 50;offer 10 0;offer 20 1;offer 30 0;needs 2 3 2;needs 2 4 40;needs 0 3 1;offer 7 0";
        String[] rules = {"offer=0", "offer=3", "writes=7", "stands=1", "stands=0", "needs=0", "needs=1", "needs=2",
            "lines=0", "placed=0", "order=50", "short=50", "waiting=4", "gone=0", "day=0"};
        int[] first = {0, 3, 3, 1, 0, 1, 0, 2, 0, 0, 0, 0, 0, 0, 0};
        int[] firstNot = {1, 0, 0, 0, 1, 0, 1, 0, -2, -2, -2, -2, -2, -2, -2};
        for (int i = 0; i < rules.length; i++) {
            b.due(rules[i], b.ruled(words, "take 1 if " + rules[i], 0).day(), first[i]);
            b.due("not " + rules[i], b.ruled(words, "take 1 if not " + rules[i], 0).day(), firstNot[i]);
        }
        // 0 goes out as 1 comes; of 50, 20 are placed then.
        SlipDesk y = b.desk(words, 2);
        b.forceNew(y, "take 1 if lines=1 and placed=20 and order=50 and short=30 and waiting=2 and gone=1 and day=2");
        b.due("later", y.day(), 2);
        b.due("no more", y.day(), -2);
    }

    private static void day999() {
        b.says(11, "NONE, and nothing happens, without a SLIP, or in DAY 999; 999 at most by hand");
        SlipDesk x = b.desk("slip 50;offer 5 0;offer 6 0", 998);
        b.due("day", x.count(4), 998);
        b.due("in day 998", x.day(), -2);
        b.due("day", x.count(4), 999);
        b.still(x, "in day 999", x::day, NONE);
        b.due("other acts go on", x.claim(1), 0);
        b.due("other acts go on", x.order(51), 0);
        x.undo();
        x.undo();
        b.due("undone", x.undo(), 17);
        b.due("day", x.count(4), 998);
        b.due("in day 998", x.day(), -2);
        b.still(x, "in day 999", x::day, NONE);
        x.image(0);
        b.due("back", x.back(0), 999);
        b.still(x, "in day 999", x::day, NONE);
        b.says(24, "DAYS that are asked go on beyond");
        SlipDesk y = b.ruled("slip 50;offer 5 0;offer 50 0", "take 1 if offer=0 and day=1001 or offer=1 and day=1058", 999);
        b.due("999 and 1000", y.ahead(2, 1), 0);
        b.due("1001, too", y.ahead(3, 1), 1);
        b.due("full", y.full(), 1058);
        b.due("taken", y.taken(0), 1001);
        b.due("taken", y.taken(1), 1058);
        b.due("seasons", y.seasons(1, 3, 0, 1), 1);
        b.due("nothing changes", y.count(4), 999);
        b.still(y, "in day 999", y::day, NONE);
        b.due("another slip", Bench.slip(y, "slip 5"), 0);
        b.due("day 0 again", y.day(), -2);
    }

    // ---- promises 12 to 14

    private static void cancels() {
        b.says(12, "how many go OUT by it, that one, too; NONE, and nothing happens, without that LINE");
        SlipDesk none = new SlipDesk();
        b.still(none, "without a slip", () -> none.cancel(0), NONE);
        SlipDesk x = b.desk(THREE, 2);
        int[] bad = {-1, 2, 3, 9, 31, 32, LEAST, MOST};
        for (int o : bad) {
            b.still(x, "cancel " + o, () -> x.cancel(o), NONE);
        }
        b.due("one", x.cancel(0), 1);
        b.still(x, "out", () -> x.cancel(0), NONE);
        b.due("the last", x.cancel(1), 1);
        b.still(x, "out", () -> x.cancel(1), NONE);
        SlipDesk y = b.desk("slip 100;offer 70 0;offer 60 0;needs 1 4 30", 2);
        b.due("0 takes 1 along", y.cancel(0), 2);
        SlipDesk z = b.desk("slip 100;offer 70 0;offer 60 0;needs 1 4 40", 2);
        b.due("0 goes alone", z.cancel(0), 1);
        SlipDesk nine = b.desk(NINE, 9);
        b.due("8 of nine", nine.cancel(8), 1);
        b.still(nine, "9 of nine", () -> nine.cancel(9), NONE);
    }

    private static void orders() {
        b.says(13, "how many go OUT by it; NONE, and nothing happens, without these (another one), or a SLIP; 1 to 999");
        SlipDesk none = new SlipDesk();
        b.still(none, "without a slip", () -> none.order(5), NONE);
        b.still(none, "without a slip", () -> none.order(0), NONE);
        SlipDesk x = b.desk(THREE, 2);
        int[] bad = {0, -1, 1000, 100, LEAST, MOST};
        for (int order : bad) {
            b.still(x, "order " + order, () -> x.order(order), NONE);
        }
        b.due("one less", x.order(99), 0);
        b.due("one more", x.order(100), 0);
        b.still(x, "the same now", () -> x.order(100), NONE);
        b.due("1", x.order(1), 0);
        b.due("order", x.count(0), 1);
        b.still(x, "the same", () -> x.order(1), NONE);
        b.due("short by 30", x.order(170), 0);
        b.due("short by 31: one goes", x.order(171), 1);
        b.due("999", x.order(999), 0);
        b.due("order", x.count(0), 999);
        b.still(x, "the same", () -> x.order(999), NONE);
        SlipDesk y = b.desk("slip 6;offer 6 0;offer 2 0;offer 2 0;needs 0 4 0;needs 1 4 0;needs 2 4 0", 3);
        b.due("none goes", y.order(10), 0);
        b.due("three go", y.order(11), 3);
        SlipDesk z = b.desk("slip 6", 0);
        b.due("without lines", z.order(7), 0);
        b.due("an act", z.count(12), 1);
    }

    private static void writes() {
        b.says(14, "what it has SIGNED then (-2: it went OUT); NONE, and nothing happens, without these (another number); 1 to 999");
        SlipDesk none = new SlipDesk();
        b.still(none, "without a slip", () -> none.write(0, 5), NONE);
        SlipDesk x = b.desk(THREE, 2);
        int[][] bad = {{1, 0}, {1, -1}, {1, 1000}, {1, 80}, {1, LEAST}, {1, MOST}, {2, 50}, {3, 50}, {-1, 50}, {9, 50},
            {LEAST, 50}, {MOST, 50}};
        for (int[] w : bad) {
            b.still(x, "write " + w[0] + " " + w[1], () -> x.write(w[0], w[1]), NONE);
        }
        b.due("one more", x.write(1, 81), 40);
        b.due("as the text told it", x.write(1, 80), 40);
        b.due("999", x.write(1, 999), 40);
        b.still(x, "the same now", () -> x.write(1, 999), NONE);
        b.due("short by 30", x.write(1, 10), 10);
        b.due("short by 31", x.write(1, 9), -2);
        b.still(x, "out", () -> x.write(1, 50), NONE);
        b.due("1", x.write(0, 1), 1);
        b.still(x, "the same", () -> x.write(0, 1), NONE);
        b.due("all of it, stood", x.write(0, 100), 100);
        SlipDesk y = b.desk("slip 100;offer 60 1;offer 60 0", 2);
        b.due("all of it, stood", y.write(0, 100), 100);
        b.due("one too many to stand", y.write(0, 101), 63);
        SlipDesk z = b.desk("slip 100;offer 60 0;offer 60 1;needs 0 2 40", 2);
        b.due("another goes by it, too", z.write(1, 61), 61);
        b.due("out", z.out(0), 0);
        SlipDesk w = b.desk("slip 100;offer 60 1;offer 40 0;needs 1 2 1", 2);
        b.due("nothing is left for the other", w.write(0, 100), 100);
        b.due("it went", w.out(0), 1);
        SlipDesk v = b.desk("slip 100;offer 100 1;offer 40 0", 2);
        b.due("0 signed is not out", v.write(1, 41), 0);
    }

    // ---- promise 15

    private static void claims() {
        b.says(15, "what the first LINE along the slip has PAID then; NONE, and nothing happens, without these; 1 to 9999, if there are LINES");
        SlipDesk none = new SlipDesk();
        b.still(none, "without a slip", () -> none.claim(5), NONE);
        SlipDesk wait = b.desk(THREE, 0);
        b.still(wait, "without lines", () -> wait.claim(5), NONE);
        SlipDesk x = b.desk(THREE, 2);
        int[] bad = {0, -1, 10000, LEAST, MOST};
        for (int much : bad) {
            b.still(x, "claim " + much, () -> x.claim(much), NONE);
        }
        b.due("1", x.claim(1), 1);
        b.due("the other", x.offer(1, 5), 0);
        x.undo();
        // 9999 by 60 and 40: 5999 2/5 and 3999 3/5
        b.due("9999", x.claim(9999), 5999);
        b.due("the other", x.offer(1, 5), 4000);
        b.due("one that waits", x.offer(2, 5), 0);
        x.cancel(0);
        x.cancel(1);
        b.still(x, "no lines any more", () -> x.claim(5), NONE);
        SlipDesk y = b.ruled("slip 10;offer 5 0;offer 5 0", "take 1+offer", 2);
        b.due("the first along the slip", y.claim(3), 2);
        b.due("it", y.offer(1, 5), 2);
        b.due("the other", y.offer(0, 5), 1);
        SlipDesk z = b.desk("slip 5;offer 5 1;offer 5 0", 2);
        b.due("by what is signed", z.claim(9), 9);
        b.due("0 signed pays nothing", z.offer(1, 5), 0);
        b.says(15, "pence by the same way as SIGNED");
        b.due("1 is signed", b.desk("slip 1;offer 1 0", 1).claim(7), 7);
        SlipDesk w = b.desk("slip 11;offer 4 0;offer 5 0;offer 6 0", 3);
        // Signed 3, 4, 4: 10 by these is 2 8/11, 3 7/11, 3 7/11
        b.due("two are left", w.claim(10), 3);
        b.due("of several the first", w.offer(1, 5), 4);
        b.due("it has lost as much, behind it", w.offer(2, 5), 3);
        b.due("more than is signed", w.claim(110), 33);
        b.due("more than is signed", w.offer(2, 5), 43);
    }

    private static void paid9999() {
        b.says(15, "9999 PAID at most");
        SlipDesk x = b.desk("slip 9;offer 9 0;offer 9 0", 1);
        b.due("9998", x.claim(9998), 9998);
        b.due("9999", x.claim(1), 9999);
        b.due("no more", x.claim(1), 9999);
        b.due("an act all the same", x.count(12), 4);
        x.undo();
        x.undo();
        b.due("9998 again", x.offer(0, 5), 9998);
        b.due("two more", x.claim(2), 9999);
        b.due("many more", x.claim(9999), 9999);
        x.day();
        b.due("both, by halves", x.claim(11), 9999);
        b.due("the other has its part alone", x.offer(1, 5), 5);
    }

    // ---- promise 16

    private static void undone20() {
        b.says(16, "The last 20 can be UNDONE, the last first; how many more can be; NONE, and nothing happens: none can");
        SlipDesk none = new SlipDesk();
        b.still(none, "without a slip", none::undo, NONE);
        SlipDesk x = b.desk("slip 5", 0);
        b.still(x, "no acts", x::undo, NONE);
        x.day();
        b.due("of one", x.undo(), 0);
        b.still(x, "none", x::undo, NONE);
        int[] days = {19, 20, 21, 22};
        for (int many : days) {
            SlipDesk y = b.desk("slip 5", many);
            int can = Math.min(20, many);
            b.due("acts of " + many, y.count(12), can);
            for (int i = can - 1; i >= 0; i--) {
                b.due("undo of " + many, y.undo(), i);
                b.due("to be undone", y.count(12), i);
            }
            b.still(y, "no more of " + many, y::undo, NONE);
            b.due("day", y.count(4), many - can);
        }
    }

    private static void undoneAround() {
        b.says(16, "The last 20 can be UNDONE");
        SlipDesk x = b.desk("slip 1;offer 1 0", 1);
        for (int order = 2; order <= 58; order++) {
            x.order(order);
        }
        for (int i = 0; i < 10; i++) {
            b.due("undo", x.undo(), 19 - i);
            b.due("order", x.count(0), 57 - i);
        }
        for (int order = 100; order < 115; order++) {
            x.order(order);
        }
        b.due("acts", x.count(12), 20);
        for (int i = 0; i < 15; i++) {
            b.due("undo", x.undo(), 19 - i);
            b.due("order", x.count(0), i < 14 ? 113 - i : 48);
        }
        for (int i = 0; i < 5; i++) {
            b.due("undo", x.undo(), 4 - i);
            b.due("order", x.count(0), 47 - i);
        }
        b.still(x, "no more", x::undo, NONE);
    }

    private static void undoneAll() {
        b.says(16, "The last ACT is UNDONE");
        SlipDesk x = b.desk(THREE, 0);
        String[] seen = new String[7];
        seen[0] = Bench.seen(x);
        x.day();
        seen[1] = Bench.seen(x);
        x.day();
        seen[2] = Bench.seen(x);
        x.claim(99);
        seen[3] = Bench.seen(x);
        x.order(171);
        seen[4] = Bench.seen(x);
        x.write(0, 7);
        seen[5] = Bench.seen(x);
        x.cancel(0);
        seen[6] = Bench.seen(x);
        for (int i = 5; i >= 0; i--) {
            x.order(1000);
            x.cancel(9);
            x.write(0, 0);
            x.claim(0);
            b.due("undo", x.undo(), i);
            b.dueText("as it was", Bench.seen(x), seen[i]);
        }
    }

    // ---- promises 34 and 36

    private static void seeds() {
        b.says(34, "x becomes a number: what it was; NONE, and nothing happens, below 0");
        SlipDesk x = new SlipDesk();
        b.still(x, "-1", () -> x.seed(-1), NONE);
        b.still(x, "the least number of all", () -> x.seed(LEAST), NONE);
        b.due("0 at first", x.seed(1), 0);
        b.still(x, "-1", () -> x.seed(-1), NONE);
        b.due("the greatest", x.seed(2147483647), 1);
        b.due("0", x.seed(0), 2147483647);
        b.due("x", x.count(13), 0);
    }

    private static void counts() {
        b.says(36, "NONE for others.");
        SlipDesk none = new SlipDesk();
        SlipDesk x = b.ruled(THREE, "take 1", 2);
        int[] bad = {-1, 15, 16, LEAST, MOST};
        for (int what : bad) {
            b.due("without a slip", none.count(what), NONE);
            b.still(x, "count " + what, () -> x.count(what), NONE);
        }
        dueAll("count", new int[] {none.count(0), none.count(1), none.count(2), none.count(3), none.count(4),
            none.count(5), none.count(6), none.count(7), none.count(8), none.count(9), none.count(10), none.count(11),
            none.count(12), none.count(13), none.count(14)}, 0, 0, 0, NONE, 0, 0, 0, 0, 0, 0, 0, 0, 0, 0, 0);
        x.note(0, 0);
        x.seed(3);
        Bench.feed(x, "x");
        dueAll("count", new int[] {x.count(0), x.count(1), x.count(2), x.count(3), x.count(4), x.count(5), x.count(6),
            x.count(7), x.count(8), x.count(9), x.count(10), x.count(11), x.count(12), x.count(13), x.count(14)},
            100, 3, 1, 0, 2, 4, 3, 140, 0, 100, 0, 1, 2, 3, 1);
        b.says(36, "5: OFFERS that WAIT, as bits, 6: LINES, as bits");
        SlipDesk nine = b.desk(NINE, 0);
        b.due("all wait", nine.count(5), 511);
        Bench.pass(nine, 8);
        b.due("the ninth waits", nine.count(5), 256);
        b.due("eight lines", nine.count(6), 255);
        nine.day();
        b.due("none waits", nine.count(5), 0);
        b.due("nine lines", nine.count(6), 511);
        nine.cancel(8);
        b.due("no line and no one that waits", nine.count(5), 0);
        b.due("eight lines", nine.count(6), 255);
    }

    // ---- promises 37 and 38

    private static void images() {
        b.says(37, "An IMAGE is made: DAY; NONE without it; IMAGES 0 to 3");
        SlipDesk x = b.desk(THREE, 2);
        int[] bad = {-1, 4, LEAST, MOST};
        for (int k : bad) {
            b.still(x, "image " + k, () -> x.image(k), NONE);
        }
        b.says(38, "NONE, and nothing happens, if it was never made, or without it");
        for (int k = 0; k < 4; k++) {
            int never = k;
            b.still(x, "never made " + k, () -> x.back(never), NONE);
        }
        for (int k : bad) {
            b.still(x, "back " + k, () -> x.back(k), NONE);
        }
        b.says(37, "An IMAGE is made: DAY");
        b.still(x, "image 3", () -> x.image(3), 2);
        for (int k = 0; k < 3; k++) {
            int never = k;
            b.still(x, "never made " + k, () -> x.back(never), NONE);
        }
        x.day();
        b.still(x, "image 0", () -> x.image(0), 3);
        b.due("back to 3", x.back(3), 2);
        b.due("back to 0", x.back(0), 3);
        b.due("day", x.count(4), 3);
        x.day();
        b.due("made anew", x.image(0), 4);
        x.day();
        b.due("as it was made last", x.back(0), 4);
        b.due("made of what was gone back to", x.image(2), 4);
        b.still(x, "image 1 was never made", () -> x.back(1), NONE);
        b.due("nor is it by a slip", Bench.slip(x, "slip 7"), 0);
        b.still(x, "image 1 was never made", () -> x.back(1), NONE);
        b.due("the others stay", x.back(3), 2);
        SlipDesk none = new SlipDesk();
        b.due("of no slip", none.image(1), 0);
        Bench.slip(none, THREE);
        none.day();
        b.due("back to no slip", none.back(1), 0);
        b.due("no slip", none.day(), NONE);
        b.due("no offers", none.count(1), 0);
    }

    private static void imagesWhole() {
        b.says(38, "all but the TAPE and the RULES, as it is (the RULE IN FORCE, too); gone back to, it is as it was (these stay; nothing can be UNDONE then)");
        SlipDesk x = b.ruled(THREE, "take writes", 1);
        x.claim(70);
        x.order(90);
        x.write(1, 70);
        x.note(0, 1);
        x.seed(123);
        x.image(1);
        b.due("acts stay by an image", x.count(12), 4);
        b.due("undo goes on", x.undo(), 3);
        x.write(1, 70);
        int[] before = new int[15];
        for (int what = 0; what < 15; what++) {
            before[what] = x.count(what);
        }
        Bench.rule(x, "take 5");
        x.force(1);
        x.seed(9);
        x.note(1, 0);
        x.day();
        x.day();
        x.cancel(1);
        Bench.slip(x, NINE);
        x.day();
        Bench.feed(x, "slip 66");
        b.due("back", x.back(1), 1);
        for (int what = 0; what < 15; what++) {
            int due = what == 2 ? 2 : what == 12 ? 0 : what == 14 ? 7 : before[what];
            b.due("count " + what, x.count(what), due);
        }
        b.due("paid", x.offer(1, 5), 70);
        b.due("writes", x.offer(1, 0), 70);
        b.due("nobody is out", x.out(0), NONE);
        b.due("by its notes", x.ruled(0), 1);
        b.due("by its notes", x.ruled(1), 0);
        b.still(x, "nothing can be undone", x::undo, NONE);
        b.due("by the rule in force", x.day(), 0);
        b.due("one act since", x.undo(), 0);
        b.still(x, "no act ahead of the image", x::undo, NONE);
        b.due("the tape stays", x.slip(), 0);
        b.due("slip 66", x.count(0), 66);
        b.due("again", x.back(1), 1);
        b.due("order", x.count(0), 90);
        SlipDesk y = b.desk("slip 9;offer 1 0;offer 2 0;offer 3 0;needs 0 0 1", 3);
        y.cancel(2);
        y.cancel(0);
        y.note(0, 0);
        y.note(1, 1);
        y.image(0);
        String seen = Bench.seen(y).replaceFirst("^9 3 0 -1 3 0 2 2 7 2 2 2 5 ", "");
        Bench.slip(y, "slip 8;offer 4 1;offer 5 1;offer 6 1;offer 7 0;needs 3 1 1;needs 2 2 2");
        Bench.pass(y, 4);
        y.cancel(1);
        y.cancel(2);
        y.note(1, NONE);
        y.note(0, 2);
        y.seed(4);
        y.back(0);
        b.dueText("all as it was, but what can be undone", Bench.seen(y),
                "9 3 0 -1 3 0 2 2 7 2 2 2 0 " + seen);
        b.due("who went out first", y.out(0), 2);
        b.due("who went out then", y.out(1), 0);
        b.due("all its notes are so", y.ruled(0), 1);
    }
}
