import java.util.function.IntSupplier;

/** Both sides of every boundary of what is asked: promises 17 to 33 and 35. */
public final class BoundaryAskTest {
    private static final int NONE = SlipDesk.NONE;
    private static final int LEAST = Integer.MIN_VALUE;
    private static final int MOST = Integer.MAX_VALUE;
    private static final String NINE = "slip 9" + Bench.many(9, ";offer 1 0");
    /** Of 100, lines 0 and 1 have 60 and 40 signed; 2 waits, and would go out by what it needs. */
    private static final String THREE = "slip 100;offer 60 1;offer 80 0;offer 40 0;needs 2 2 21;needs 1 4 30";
    private static final String ONE = "slip 5;offer 5 0";
    private static final int[] NO_LINES_OF_THREE = {-1, 2, 3, 9, 31, 32, LEAST, MOST};
    private static final int[] NOT_1_TO_999 = {0, -1, 1000, LEAST, MOST};

    private static final Bench b = new Bench("BoundaryAskTest");

    public static void main(String[] args) {
        nothingChanges();
        would();
        least();
        worst();
        firm();
        half();
        agree();
        agreeSets();
        rows();
        rowsOfFour();
        rowsBest();
        ahead();
        full();
        taken();
        sizes();
        sizesAsTold();
        standing();
        rests();
        rests999();
        pence();
        notes();
        tenNotes();
        ruled();
        look();
        lookDays();
        seasons();
        seasonsDrawn();
        b.close();
    }

    /** A desk on which every question has an answer. */
    private static SlipDesk rich() {
        SlipDesk x = b.ruled(THREE + ";offer 30 0", "take writes", 0);
        Bench.rule(x, "take 1+offer");
        x.day();
        x.force(NONE);
        x.day();
        x.claim(77);
        x.order(120);
        x.write(1, 90);
        x.note(0, 1);
        x.seed(5);
        x.image(0);
        Bench.feed(x, "take");
        return x;
    }

    private static void nothingChanges() {
        b.says(17, "By what is asked nothing changes.");
        SlipDesk x = rich();
        IntSupplier[] questions = {() -> x.would(1, 9), () -> x.least(1, 30), () -> x.worst(0), () -> x.worst(1), x::firm,
            () -> x.half(1), () -> x.agree(1, 1), () -> x.rows(0), () -> x.rows(2), () -> x.ahead(60, 0), x::full,
            () -> x.taken(3), () -> x.sizes(0, 1), () -> x.standing(1), () -> x.rests(0, 1, 0), () -> x.pence(99, 1),
            () -> x.ruled(1), () -> x.look(0), () -> x.look(1), () -> x.seasons(10, 30, 50, 0), () -> x.image(0)};
        for (int i = 0; i < questions.length; i++) {
            b.still(x, "question " + i + ", again", questions[i], questions[i].getAsInt());
        }
        b.due("acts can be undone as before", x.undo(), 4);
        b.due("the last was a write", x.offer(1, 0), 80);
        b.due("back", x.back(0), 2);
        b.due("writes", x.offer(1, 0), 90);
    }

    // ---- promises 17 and 18

    private static void would() {
        b.says(17, "WOULD; NONE without these (a LINE); a number 1 to 999");
        SlipDesk none = new SlipDesk();
        b.still(none, "without a slip", () -> none.would(0, 5), NONE);
        SlipDesk x = b.desk(THREE, 2);
        for (int o : NO_LINES_OF_THREE) {
            b.still(x, "would " + o, () -> x.would(o, 5), NONE);
        }
        for (int number : NOT_1_TO_999) {
            b.still(x, "would of " + number, () -> x.would(0, number), NONE);
        }
        b.due("1", x.would(0, 1), 1);
        // 100 by 999 and 80: 92 632/1079 and 7 447/1079
        b.due("999", x.would(0, 999), 93);
        b.due("what it writes", x.would(0, 60), 60);
        b.due("all of the order", x.would(0, 100), 100);
        // 100 by 101 and 80: 55 145/181 and 44 36/181
        b.due("one more", x.would(0, 101), 56);
        b.says(17, "0, if it is OUT then");
        b.due("short by 30", x.would(1, 10), 10);
        b.due("short by 31", x.would(1, 9), 0);
        x.cancel(0);
        b.still(x, "out", () -> x.would(0, 5), NONE);
        SlipDesk y = b.desk("slip 9;offer 9 0;needs 0 5 1", 1);
        b.due("settled in day 1", y.would(0, 9), 9);
        y.day();
        b.due("settled in day 2", y.would(0, 9), 0);
        SlipDesk z = b.desk("slip 100;offer 50 0;offer 50 0;needs 0 2 50", 2);
        // 100 by 50 and 51: 49 51/101 and 50 50/101; by 50 and 52: 49 2/102 and 50 100/102
        b.due("both stay", z.would(1, 51), 50);
        b.due("the other goes out by it", z.would(1, 52), 52);
    }

    private static void least() {
        b.says(18, "the least number 1 to 999 by which WOULD is that at least; -2: there is none; NONE without these (a LINE; a number 1 to 999)");
        SlipDesk none = new SlipDesk();
        b.still(none, "without a slip", () -> none.least(0, 5), NONE);
        SlipDesk x = b.desk(THREE, 2);
        for (int o : NO_LINES_OF_THREE) {
            b.still(x, "least " + o, () -> x.least(o, 5), NONE);
        }
        for (int number : NOT_1_TO_999) {
            b.still(x, "least of " + number, () -> x.least(0, number), NONE);
        }
        b.due("1", x.least(0, 1), 1);
        b.due("all of the order", x.least(0, 100), 100);
        b.due("one more", x.least(0, 101), -2);
        b.due("999", x.least(0, 999), -2);
        b.due("below 10 it goes out", x.least(1, 1), 10);
        b.due("below 10 it goes out", x.least(1, 10), 10);
        b.due("11", x.least(1, 11), 11);
        b.due("all that is left", x.least(1, 40), 40);
        b.due("one more", x.least(1, 41), -2);
        SlipDesk y = b.desk("slip 999;offer 5 0", 1);
        b.due("1", y.least(0, 1), 1);
        b.due("998", y.least(0, 998), 998);
        b.due("999 is one of them", y.least(0, 999), 999);
        SlipDesk z = b.desk("slip 500;offer 1 0;offer 999 0", 2);
        // By 995 it has 249 994/1994 of 500, and the other lost more; by 996 it is 249 1245/1995 and the other lost less.
        b.due("signed down", z.least(0, 250), 996);
        b.due("by 999 it is 250", z.least(0, 251), -2);
        b.due("of 1 and 999 both lost half: the first", z.least(0, 1), 1);
        // By 3 it has 1 498/1002, by 4 1 997/1003.
        b.due("two", z.least(0, 2), 4);
    }

    // ---- promises 19 and 20

    private static void worst() {
        b.says(19, "0: which (-2: there are no LINES), 1: SHORT (-2, too). NONE for others, or without a SLIP.");
        SlipDesk none = new SlipDesk();
        SlipDesk wait = b.desk(THREE, 0);
        SlipDesk x = b.desk(THREE, 2);
        int[] bad = {-1, 2, LEAST, MOST};
        for (int what : bad) {
            b.still(none, "without a slip", () -> none.worst(what), NONE);
            b.still(wait, "worst " + what + " without lines", () -> wait.worst(what), NONE);
            b.still(x, "worst " + what, () -> x.worst(what), NONE);
        }
        for (int what = 0; what < 2; what++) {
            b.due("without a slip", none.worst(what), NONE);
            b.due("without lines", wait.worst(what), -2);
        }
        b.due("which", x.worst(0), 1);
        b.due("short", x.worst(1), 40);
        b.says(19, "SHORT would be most then, of several the first along the slip");
        SlipDesk y = b.ruled("slip 100;offer 30 0;offer 30 0;offer 29 0", "take 1+offer", 3);
        b.due("30 as well as 30", y.worst(0), 1);
        b.due("short", y.worst(1), 41);
        y.write(0, 31);
        b.due("31", y.worst(0), 0);
        b.due("short", y.worst(1), 41);
        SlipDesk z = b.desk("slip 30;offer 30 0;offer 31 0", 2);
        b.due("0 by each", z.worst(1), 0);
        b.due("the first", z.worst(0), 0);
        z.order(31);
        b.due("1 by 1", z.worst(0), 1);
        b.due("short", z.worst(1), 1);
        SlipDesk one = b.desk(ONE, 1);
        b.due("one line", one.worst(0), 0);
        b.due("one line", one.worst(1), 5);
        one.cancel(0);
        b.due("none any more", one.worst(0), -2);
        SlipDesk w = b.desk("slip 100;offer 10 0;offer 60 0;offer 40 0;needs 1 4 15", 3);
        b.due("settled: by 2, whom 1 follows", w.worst(0), 2);
        b.due("settled", w.worst(1), 90);
    }

    private static void firm() {
        b.says(20, "LINES that would be there yet, whichever other one was CANCELLED, as bits; NONE without a SLIP");
        SlipDesk none = new SlipDesk();
        b.still(none, "without a slip", none::firm, NONE);
        b.due("without offers", b.desk("slip 5", 0).firm(), 0);
        b.due("without lines", b.desk(NINE, 0).firm(), 0);
        b.due("one line", b.desk(NINE, 1).firm(), 1);
        b.due("nine lines", b.desk(NINE, 9).firm(), 511);
        b.due("it needs another", b.ruled("slip 9;offer 1 0;offer 1 0;needs 0 1 1", "take 1+offer", 2).firm(), 2);
        b.due("it needs itself alone", b.desk("slip 9;offer 1 0;offer 1 0;needs 0 1 0", 2).firm(), 3);
        b.due("one other is enough", b.desk("slip 9;offer 9 0;offer 9 0;offer 9 0;needs 2 0 18", 3).firm(), 7);
        b.due("one other is not enough", b.desk("slip 9;offer 9 0;offer 9 0;offer 9 0;needs 2 0 19", 3).firm(), 3);
        SlipDesk x = b.desk("slip 9;offer 9 0;offer 9 0;needs 0 5 1", 2);
        b.due("all is settled then, in day 2", x.firm(), 2);
    }

    // ---- promises 21 and 22

    private static void half() {
        b.says(21, "0: how many, 1: the set; -2: there are no LINES. NONE for others, or without a SLIP.");
        SlipDesk none = new SlipDesk();
        SlipDesk wait = b.desk(THREE, 0);
        SlipDesk x = b.desk(THREE, 2);
        int[] bad = {-1, 2, LEAST, MOST};
        for (int what : bad) {
            b.still(none, "without a slip", () -> none.half(what), NONE);
            b.still(wait, "half " + what + " without lines", () -> wait.half(what), NONE);
            b.still(x, "half " + what, () -> x.half(what), NONE);
        }
        for (int what = 0; what < 2; what++) {
            b.due("without a slip", none.half(what), NONE);
            b.due("without lines", wait.half(what), -2);
        }
        b.says(21, "the fewest LINES that have more than half of all that is SIGNED, together; of several sets the least as bits");
        halfOf("slip 100;offer 50 0;offer 50 0", 2, 2, 3);
        halfOf("slip 100;offer 51 0;offer 49 0", 2, 1, 1);
        halfOf("slip 100;offer 49 0;offer 51 0", 2, 1, 2);
        halfOf("slip 101;offer 50 0;offer 51 0", 2, 1, 2);
        halfOf("slip 999;offer 30 0;offer 30 0;offer 30 0", 3, 2, 3);
        halfOf("slip 999;offer 10 0;offer 40 0;offer 10 0;offer 40 0", 4, 2, 10);
        halfOf("slip 999;offer 10 0;offer 41 0;offer 10 0;offer 39 0", 4, 2, 3);
        halfOf(NINE, 9, 5, 31);
        halfOf(NINE, 8, 5, 31);
        halfOf(NINE, 1, 1, 1);
        halfOf("slip 5;offer 5 1;offer 99 0", 2, 1, 1);
    }

    private static void halfOf(String slip, int days, int many, int set) {
        SlipDesk x = b.desk(slip, days);
        b.due("half of " + slip, x.half(0), many);
        b.due("half of " + slip, x.half(1), set);
    }

    private static void agree() {
        b.says(22, "-2: there are no LINES. NONE for others, without a set of LINES (as bits), or without a SLIP.");
        SlipDesk none = new SlipDesk();
        SlipDesk wait = b.desk(THREE, 0);
        SlipDesk x = b.desk(THREE, 2);
        int[] bad = {-1, 2, LEAST, MOST};
        for (int what : bad) {
            b.still(none, "without a slip", () -> none.agree(0, what), NONE);
            b.still(wait, "agree 0 " + what + " without lines", () -> wait.agree(0, what), NONE);
            b.still(x, "agree 0 " + what, () -> x.agree(0, what), NONE);
        }
        int[] noSets = {4, 5, 8, 512, 1 << 30, -1, -4, LEAST, MOST};
        for (int set : noSets) {
            b.still(x, "agree " + set, () -> x.agree(set, 0), NONE);
            b.still(x, "agree " + set, () -> x.agree(set, 1), NONE);
            b.still(wait, "agree " + set + " without lines", () -> wait.agree(set, 0), NONE);
        }
        b.due("without a slip", none.agree(0, 0), NONE);
        b.due("without lines", wait.agree(0, 0), -2);
        b.due("without lines", wait.agree(0, 1), -2);
        b.due("one that waits", wait.agree(1, 0), NONE);
        x.cancel(0);
        b.due("one that is out", x.agree(1, 0), NONE);
        b.due("the first one along the slip is 1 now", x.agree(0, 1), 2);
        SlipDesk nine = b.desk(NINE, 9);
        b.due("all nine", nine.agree(511, 0), 0);
        b.due("all nine", nine.agree(511, 1), 0);
        b.due("none of nine: six", nine.agree(0, 0), 6);
        b.due("none of nine: six", nine.agree(0, 1), 63);
    }

    private static void agreeOf(SlipDesk x, int lines, int many, int set) {
        b.due("agree " + lines + ", how many", x.agree(lines, 0), many);
        b.due("agree " + lines + ", the set", x.agree(lines, 1), set);
    }

    private static void agreeSets() {
        b.says(22, "the fewest LINES more, so that the first one along the slip, and such as have two thirds at least of all that is SIGNED, together, are in it");
        SlipDesk x = b.desk("slip 90;offer 60 0;offer 30 0", 2);
        agreeOf(x, 0, 1, 1);
        agreeOf(x, 1, 0, 0);
        agreeOf(x, 2, 1, 1);
        agreeOf(x, 3, 0, 0);
        x = b.desk("slip 90;offer 59 0;offer 31 0", 2);
        agreeOf(x, 0, 2, 3);
        agreeOf(x, 1, 1, 2);
        // Two thirds, but not the first one along the slip.
        x = b.desk("slip 90;offer 30 0;offer 60 0", 2);
        agreeOf(x, 0, 2, 3);
        agreeOf(x, 2, 1, 1);
        agreeOf(x, 3, 0, 0);
        b.says(22, "of several sets the least as bits");
        x = b.desk("slip 90;offer 30 0;offer 30 0;offer 30 0", 3);
        agreeOf(x, 0, 2, 3);
        agreeOf(x, 1, 1, 2);
        agreeOf(x, 4, 1, 1);
        agreeOf(x, 6, 1, 1);
        agreeOf(x, 5, 0, 0);
        x = b.ruled("slip 90;offer 30 0;offer 30 0;offer 30 0", "take 1+offer", 3);
        agreeOf(x, 0, 2, 5);
        agreeOf(x, 4, 1, 1);
        agreeOf(x, 3, 1, 4);
        // 66 of 100 are less than two thirds, 67 are more.
        agreeOf(b.desk("slip 100;offer 66 0;offer 34 0", 2), 0, 2, 3);
        agreeOf(b.desk("slip 100;offer 67 0;offer 33 0", 2), 0, 1, 1);
    }

    // ---- promise 23

    private static void rows() {
        b.says(23, "2 to 5: which in that place (NONE: so many do not WAIT). -2 for others, or without a SLIP.");
        SlipDesk none = new SlipDesk();
        SlipDesk x = b.desk(THREE, 0);
        for (int what = 0; what < 6; what++) {
            b.due("without a slip", none.rows(what), -2);
        }
        int[] bad = {-1, 6, LEAST, MOST};
        for (int what : bad) {
            b.still(none, "without a slip", () -> none.rows(what), -2);
            b.still(x, "rows " + what, () -> x.rows(what), -2);
        }
        rowsOf(b.desk("slip 5", 0), 5, 0, NONE, NONE, NONE, NONE);
        rowsOf(b.desk(NINE, 9), 0, 9, NONE, NONE, NONE, NONE);
        rowsOf(b.desk(NINE, 8), 0, 9, 8, NONE, NONE, NONE);
        rowsOf(b.desk(NINE, 7), 0, 9, 7, 8, NONE, NONE);
        rowsOf(b.desk(NINE, 6), 0, 9, 6, 7, 8, NONE);
        rowsOf(b.desk(NINE, 5), 0, 9, 5, 6, 7, 8);
    }

    private static void rowsOf(SlipDesk x, int... due) {
        for (int what = 0; what < 6; what++) {
            b.due("rows " + what, x.rows(what), due[what]);
        }
    }

    private static void rowsOfFour() {
        b.says(23, "of the four of least numbers, if there are more");
        rowsOf(b.desk(NINE, 4), 1, 8, 4, 5, 6, 7);
        rowsOf(b.desk(NINE, 0), 5, 4, 0, 1, 2, 3);
        SlipDesk x = b.ruled("slip 99;offer 1 0;offer 2 0;offer 3 0;offer 4 0;offer 5 0;offer 6 0", "take 1 if offer=1", 1);
        // 1 is a line; of 0, 2, 3, 4, 5 that wait the last is not in the row.
        rowsOf(x, 99 - 2 - 1 - 3 - 4 - 5, 5, 0, 2, 3, 4);
    }

    private static void rowsBest() {
        b.says(23, "that by which SHORT is least at the end, of several by which most are LINES then (of all OFFERS), of several the first (least numbers first)");
        rowsOf(b.desk("slip 9;offer 1 0;offer 1 0;offer 1 0;offer 1 0", 0), 5, 4, 0, 1, 2, 3);
        // Only the last of all rows lets all four stay.
        rowsOf(b.desk("slip 9;offer 1 0;offer 1 0;offer 1 0;offer 1 0;needs 0 1 1;needs 1 1 2;needs 2 1 3", 0),
                5, 4, 3, 2, 1, 0);
        // Who comes last stays alone.
        rowsOf(b.desk("slip 9;offer 3 0;offer 1 0;needs 0 3 1;needs 1 3 1", 0), 6, 1, 1, 0, NONE, NONE);
        // 0 goes out by every row.
        rowsOf(b.desk("slip 9;offer 3 0;offer 1 0;offer 1 0;needs 0 3 1", 0), 7, 2, 0, 1, 2, NONE);
        // Not short by each row: most lines count, then.
        rowsOf(b.desk("slip 50;offer 10 0;offer 50 0;needs 0 1 1", 0), 0, 2, 1, 0, NONE, NONE);
        // 1 and 2 go, and 0 stays with 3; by 0, 3, 2, 1 there would be three lines without 0, but short by 17.
        rowsOf(b.desk("slip 20;offer 8 0;offer 1 0;offer 1 0;offer 1 0;needs 0 3 2;needs 1 1 2;needs 2 1 3", 0),
                11, 2, 0, 1, 2, 3);
        b.says(23, "all SETTLED behind each");
        rowsOf(b.desk("slip 9;offer 2 0;offer 2 0;needs 0 1 1;needs 1 1 0", 0), 9, 0, 0, 1, NONE, NONE);
        // No day passes by a row.
        rowsOf(b.ruled("slip 9;offer 1 0;offer 1 0;needs 0 5 1;needs 1 5 1", "take 0", 1), 7, 2, 0, 1, NONE, NONE);
        rowsOf(b.ruled("slip 9;offer 1 0;offer 1 0;needs 0 5 1;needs 1 5 1", "take 0", 2), 9, 0, 0, 1, NONE, NONE);
    }

    // ---- promises 24 to 26

    private static void ahead() {
        b.says(24, "AHEAD n DAYS (0 to 60); 0: PLACED, 1: LINES, 2: SHORT, 3: OUT. NONE without these, or a SLIP.");
        SlipDesk none = new SlipDesk();
        b.still(none, "without a slip", () -> none.ahead(0, 0), NONE);
        SlipDesk x = b.ruled("slip 9;offer 4 0;offer 3 0;needs 1 5 58", "take 1 if day=59 and offer=0 or day=58 and offer=1", 0);
        int[][] bad = {{-1, 0}, {61, 0}, {LEAST, 0}, {MOST, 0}, {0, -1}, {0, 4}, {60, 4}, {0, LEAST}, {0, MOST}};
        for (int[] n : bad) {
            b.still(x, "ahead " + n[0] + " " + n[1], () -> x.ahead(n[0], n[1]), NONE);
        }
        int[][] due = {{0, 0, 0, 9, 0}, {58, 0, 0, 9, 0}, {59, 3, 1, 6, 0}, {60, 4, 1, 5, 1}};
        for (int[] d : due) {
            for (int what = 0; what < 4; what++) {
                b.due("ahead " + d[0] + " " + what, x.ahead(d[0], what), d[1 + what]);
            }
        }
        SlipDesk y = b.desk("slip 9;offer 4 0;needs 0 5 1", 2);
        b.due("0 days ahead nothing is settled", y.ahead(0, 1), 1);
        b.due("a day ahead all is", y.ahead(1, 1), 0);
        b.due("out then", y.ahead(1, 3), 1);
    }

    private static void full() {
        b.says(25, "the first DAY, this one the first, of 60, behind which SHORT is 0; -2: behind none of these; NONE without a SLIP");
        SlipDesk none = new SlipDesk();
        b.still(none, "without a slip", none::full, NONE);
        b.due("this one", b.desk("slip 5;offer 5 0", 0).full(), 0);
        b.due("short by 1", b.desk("slip 6;offer 5 0", 0).full(), -2);
        b.due("the next one", b.desk("slip 6;offer 5 0;offer 1 0", 0).full(), 1);
        b.due("without offers", b.desk("slip 1", 0).full(), -2);
        b.due("the last of 60", b.ruled(ONE, "take 1 if day=59", 0).full(), 59);
        b.due("one behind them", b.ruled(ONE, "take 1 if day=60", 0).full(), -2);
        b.due("the last of 60 from day 1 on", b.ruled(ONE, "take 1 if day=60", 1).full(), 60);
        b.due("one behind them", b.ruled(ONE, "take 1 if day=61", 1).full(), -2);
        SlipDesk x = b.desk(ONE, 1);
        b.due("full as it is: this one", x.full(), 1);
        SlipDesk y = b.desk("slip 5;offer 5 0;needs 0 5 0", 1);
        b.due("full as it is, but not behind this one", y.full(), -2);
    }

    private static void taken() {
        b.says(26, "the first DAY, this one the first, of 60, in which it is; -2: in none of these; NONE without one that WAITS");
        SlipDesk none = new SlipDesk();
        b.still(none, "without a slip", () -> none.taken(0), NONE);
        SlipDesk x = b.desk(THREE, 0);
        int[] bad = {-1, 3, 9, LEAST, MOST};
        for (int o : bad) {
            b.still(x, "taken " + o, () -> x.taken(o), NONE);
        }
        for (int o = 0; o < 3; o++) {
            b.due("taken " + o, x.taken(o), o);
        }
        Bench.pass(x, 2);
        b.still(x, "a line", () -> x.taken(1), NONE);
        b.due("this one", x.taken(2), 2);
        x.day();
        b.still(x, "out", () -> x.taken(2), NONE);
        b.due("the last of 60", b.ruled(ONE, "take 1 if day=59", 0).taken(0), 59);
        b.due("one behind them", b.ruled(ONE, "take 1 if day=60", 0).taken(0), -2);
        b.due("the last of 60 from day 1 on", b.ruled(ONE, "take 1 if day=60", 1).taken(0), 60);
        b.due("one behind them", b.ruled(ONE, "take 1 if day=61", 1).taken(0), -2);
        SlipDesk nine = b.desk(NINE, 0);
        b.due("the ninth", nine.taken(8), 8);
        b.still(nine, "a tenth", () -> nine.taken(9), NONE);
    }

    // ---- promises 27 and 28

    private static void sizesBy(String rule, int many, int least) {
        SlipDesk x = b.ruled("slip 5;offer 7 0", rule, 0);
        x.note(0, 0);
        b.due("sizes by " + rule, x.sizes(0, 0), many);
        b.due("the least by " + rule, x.sizes(0, 1), least);
    }

    private static void sizes() {
        b.says(27, "0: how many, 1: the least (-2: there is none). NONE without these.");
        SlipDesk none = new SlipDesk();
        b.still(none, "without a slip", () -> none.sizes(0, 0), NONE);
        SlipDesk empty = b.desk("slip 5", 0);
        b.still(empty, "without offers", () -> empty.sizes(0, 0), NONE);
        SlipDesk x = b.desk(THREE, 2);
        int[][] bad = {{-1, 0}, {3, 0}, {9, 0}, {LEAST, 0}, {MOST, 0}, {0, -1}, {0, 2}, {0, LEAST}, {0, MOST}};
        for (int[] n : bad) {
            b.still(x, "sizes " + n[0] + " " + n[1], () -> x.sizes(n[0], n[1]), NONE);
        }
        b.due("no notes", x.sizes(2, 0), 99);
        b.due("no notes", x.sizes(2, 1), 10);
        b.due("the ninth", b.desk(NINE, 0).sizes(8, 0), 99);
        b.says(27, "tens 10 to 990 as what it WRITES, in place of what the text told");
        sizesBy("take 1 if writes<10", 0, -2);
        sizesBy("take 1 if writes<=10", 1, 10);
        sizesBy("take 1 if writes<=20", 2, 10);
        sizesBy("take 1 if writes>=980", 2, 980);
        sizesBy("take 1 if writes>=990", 1, 990);
        sizesBy("take 1 if writes>990", 0, -2);
        sizesBy("take 1 if writes=995", 0, -2);
        sizesBy("take 1 if writes%10=0", 99, 10);
        sizesBy("take 1 if writes%10>0", 0, -2);
        sizesBy("take 1 if writes>=500 and writes<700", 20, 500);
    }

    private static void sizesAsTold() {
        b.says(27, "from the begin on, by the RULE IN FORCE, all else as the text told it, all NOTES are so");
        SlipDesk x = b.ruled("slip 500;offer 100 0;offer 200 0", "take writes if order=500", 2);
        x.note(0, 0);
        b.due("as much as 200 and more", x.sizes(0, 0), 80);
        b.due("the least", x.sizes(0, 1), 200);
        x.order(499);
        x.write(1, 900);
        x.cancel(0);
        b.due("as the text told it", x.sizes(0, 1), 200);
        x.note(1, 1);
        b.due("all notes", x.sizes(0, 0), 80);
        x.note(1, NONE);
        b.due("two that are against one another", x.sizes(0, 0), 0);
        b.due("two that are against one another", x.sizes(0, 1), -2);
        x.note(NONE, 0);
        x.force(NONE);
        x.note(0, 1);
        b.due("without a rule the least is taken", x.sizes(0, 0), 0);
        SlipDesk y = b.ruled(ONE, "take 1 if day=30 and writes>=500", 0);
        y.note(30, 0);
        b.due("on the last day", y.sizes(0, 0), 50);
        b.due("on the last day", y.sizes(0, 1), 500);
        SlipDesk z = b.ruled(ONE, "take 1 if day=31", 0);
        z.note(30, NONE);
        b.due("behind the last day", z.sizes(0, 0), 99);
    }

    private static void standing() {
        b.says(28, "STANDING, as bits; NONE without that OFFER; 0 and 1 likewise");
        SlipDesk none = new SlipDesk();
        b.still(none, "without a slip", () -> none.standing(0), NONE);
        SlipDesk x = b.ruled("slip 9;offer 1 0;offer 1 0", "take 1+stands", 0);
        int[] bad = {-1, 2, 9, LEAST, MOST};
        for (int o : bad) {
            b.still(x, "standing " + o, () -> x.standing(o), NONE);
        }
        b.due("no notes: both", x.standing(0), 3);
        x.note(0, 1);
        b.due("1 has to stand", x.standing(1), 2);
        b.due("0 is taken, be it to stand or not", x.standing(0), 0);
        x.note(NONE, 0);
        x.note(0, 0);
        b.due("1 is not to stand", x.standing(1), 1);
        b.due("0 may", x.standing(0), 3);
        b.due("the ninth", b.desk(NINE, 0).standing(8), 3);
    }

    // ---- promises 29 and 30

    private static void rests() {
        b.says(29, "0: how many, 1, 2: the first (-2: there is none). NONE without these (unlike LINES).");
        SlipDesk none = new SlipDesk();
        b.still(none, "without a slip", () -> none.rests(0, 1, 0), NONE);
        SlipDesk x = b.desk(THREE, 2);
        for (int o : NO_LINES_OF_THREE) {
            b.still(x, "rests " + o + " 0", () -> x.rests(o, 0, 0), NONE);
            b.still(x, "rests 0 " + o, () -> x.rests(0, o, 0), NONE);
        }
        int[] bad = {-1, 3, LEAST, MOST};
        for (int what : bad) {
            b.still(x, "rests 0 1 " + what, () -> x.rests(0, 1, what), NONE);
        }
        b.still(x, "like lines", () -> x.rests(0, 0, 0), NONE);
        b.still(x, "like lines", () -> x.rests(1, 1, 0), NONE);
        x.cancel(0);
        b.still(x, "out", () -> x.rests(0, 1, 0), NONE);
        SlipDesk y = b.desk("slip 110;offer 60 1;offer 40 0", 2);
        restsOf(y, 0, 1, 0, -2, -2);
        // Nothing is short: each has twice what it writes.
        restsOf(b.desk("slip 999;offer 10 0;offer 20 0", 2), 0, 1, 1, 2, 2);
        b.says(29, "each has three times what it has SIGNED then (0, if it is OUT), less what it writes so");
        // Of 90 each has 75 by 60 against 60 (72 by 90, 60 by 30), and 120 by 60 against 30 (114 by 90).
        SlipDesk z = b.desk("slip 90;offer 30 0;offer 30 0", 2);
        restsOf(z, 0, 1, 1, 1, 1);
        restsOf(z, 1, 0, 1, 1, 1);
        b.says(29, "0, if it is OUT");
        // Whatever it writes it has nothing signed, so that it has least to lose by writing once.
        restsOf(b.desk("slip 999;offer 10 0;offer 10 0;needs 0 5 1", 2), 0, 1, 1, 0, 2);
        restsOf(b.desk("slip 999;offer 10 0;offer 10 0;needs 0 5 2", 2), 0, 1, 1, 2, 2);
    }

    private static void restsOf(SlipDesk x, int one, int other, int... due) {
        for (int what = 0; what < 3; what++) {
            b.due("rests " + one + " " + other + " " + what, x.rests(one, other, what), due[what]);
        }
    }

    private static void rests999() {
        b.says(29, "once, twice, or three times what it does (0, 1, 2; 999 at most)");
        // 999 can stand, so that it has 1998, and the other nothing but what it writes to lose.
        restsOf(b.desk("slip 999;offer 333 1;offer 1 0", 2), 0, 1, 1, 2, 0);
        SlipDesk x = b.desk("slip 999;offer 334 1;offer 1 0", 2);
        restsOf(x, 0, 1, 1, 2, 0);
        restsOf(x, 1, 0, 1, 0, 2);
        // Twice 499 is 998, less than 999; twice 500 is 999 as well as three times.
        restsOf(b.desk("slip 999;offer 499 1;offer 1 0", 2), 0, 1, 1, 2, 0);
        SlipDesk y = b.desk("slip 999;offer 500 1;offer 1 0", 2);
        restsOf(y, 0, 1, 2, 1, 0);
        restsOf(y, 1, 0, 2, 0, 1);
        restsOf(b.desk("slip 999;offer 999 1;offer 1 0", 2), 0, 1, 3, 0, 0);
        b.says(29, "twos of which neither would have more by another one: how many; the first (by the first one, then the second one)");
        restsOf(b.desk("slip 1;offer 999 1;offer 999 1", 2), 0, 1, 9, 0, 0);
    }

    private static void pence() {
        b.says(30, "PENCE of a LINE; NONE without these; 0 to 9999");
        SlipDesk none = new SlipDesk();
        b.still(none, "without a slip", () -> none.pence(5, 0), NONE);
        SlipDesk x = b.desk(THREE, 2);
        for (int o : NO_LINES_OF_THREE) {
            b.still(x, "pence " + o, () -> x.pence(5, o), NONE);
        }
        int[] bad = {-1, 10000, LEAST, MOST};
        for (int much : bad) {
            b.still(x, "pence of " + much, () -> x.pence(much, 0), NONE);
        }
        b.due("0", x.pence(0, 0), 0);
        b.due("0", x.pence(0, 1), 0);
        b.due("1", x.pence(1, 0), 1);
        b.due("1", x.pence(1, 1), 0);
        // 9999 by 60 and 40: 5999 2/5 and 3999 3/5
        b.due("9999", x.pence(9999, 0), 5999);
        b.due("9999", x.pence(9999, 1), 4000);
        x.claim(9999);
        b.due("whatever was paid", x.pence(9999, 0), 5999);
        SlipDesk y = b.desk("slip 5;offer 5 1;offer 5 0", 2);
        b.due("0 signed", y.pence(9999, 1), 0);
        b.due("all signed", y.pence(9999, 0), 9999);
        b.due("1 is signed", b.desk("slip 1;offer 9 0", 1).pence(9999, 0), 9999);
        SlipDesk z = b.ruled("slip 10;offer 5 0;offer 5 0", "take 1+offer", 2);
        b.due("one is left: to the first along the slip", z.pence(1, 1), 1);
        b.due("one is left: to the first along the slip", z.pence(1, 0), 0);
    }

    // ---- promise 31

    private static void notes() {
        b.says(31, "-2, and nothing happens, without these (offer NONE: none), or a SLIP; the n-th DAY of all (0 to 30)");
        SlipDesk none = new SlipDesk();
        b.still(none, "without a slip", () -> none.note(0, NONE), -2);
        b.still(none, "without a slip", () -> none.note(0, 0), -2);
        SlipDesk x = b.desk(THREE, 0);
        int[][] bad = {{31, 0}, {32, 0}, {-2, 0}, {31, NONE}, {LEAST, 0}, {MOST, 0}, {0, 3}, {0, 9}, {0, -2}, {0, LEAST},
            {0, MOST}, {30, 3}, {-2, NONE}};
        for (int[] n : bad) {
            b.still(x, "note " + n[0] + " " + n[1], () -> x.note(n[0], n[1]), -2);
        }
        b.due("day 0", x.note(0, 0), 1);
        b.due("day 30", x.note(30, NONE), 2);
        b.due("the last offer", x.note(2, 2), 3);
        b.due("none", x.note(3, NONE), 4);
        b.due("all are so", x.ruled(0), 1);
        b.due("against one of them", x.note(0, NONE), 5);
        b.due("none is so", x.ruled(0), 0);
        b.due("no act", x.count(12), 0);
        SlipDesk empty = b.desk("slip 5", 0);
        b.still(empty, "without offers", () -> empty.note(0, 0), -2);
        b.due("none without offers", empty.note(0, NONE), 1);
        SlipDesk nine = b.desk(NINE, 0);
        b.due("the ninth", nine.note(8, 8), 1);
        b.still(nine, "a tenth", () -> nine.note(8, 9), -2);
        b.due("behind days that passed", b.desk(ONE, 40).note(0, 0), 1);
    }

    private static void tenNotes() {
        b.says(31, "NOTES 0 to 9; or if there are 10");
        SlipDesk x = b.desk(THREE, 0);
        for (int i = 1; i <= 9; i++) {
            b.due("note", x.note(0, 0), i);
        }
        b.due("the tenth", x.note(1, 2), 10);
        b.due("the tenth counts", x.ruled(0), 0);
        b.still(x, "an eleventh", () -> x.note(0, 0), -2);
        b.still(x, "an eleventh", () -> x.note(0, NONE), -2);
        b.says(31, "n NONE: there are none then, 0");
        b.due("none then", x.note(NONE, 0), 0);
        b.due("notes", x.count(11), 0);
        b.due("none of them counts", x.ruled(0), 1);
        b.due("none then, whatever the offer", x.note(NONE, 99), 0);
        b.due("none then, whatever the offer", x.note(NONE, LEAST), 0);
        b.due("the first again", x.note(30, NONE), 1);
        SlipDesk none = new SlipDesk();
        b.still(none, "without a slip", () -> none.note(NONE, 0), 0);
        b.still(none, "without a slip", () -> none.note(NONE, NONE), 0);
    }

    // ---- promises 32 and 33

    private static void ruled() {
        b.says(32, "0: how many, 1: the first (NONE: none; -2: there is none such). -3 for others, or without a SLIP.");
        SlipDesk none = new SlipDesk();
        b.still(none, "without a slip", () -> none.ruled(0), -3);
        b.still(none, "without a slip", () -> none.ruled(1), -3);
        SlipDesk x = b.desk("slip 9;offer 1 0;offer 2 0", 0);
        int[] bad = {-1, 2, LEAST, MOST};
        for (int what : bad) {
            b.still(none, "without a slip", () -> none.ruled(what), -3);
            b.still(x, "ruled " + what, () -> x.ruled(what), -3);
        }
        b.due("none alone", x.ruled(0), 1);
        b.due("none alone", x.ruled(1), NONE);
        for (int i = 0; i < 6; i++) {
            Bench.rule(x, i < 5 ? "take writes" : "take 1 if day=30");
            b.due("and one rule more", x.ruled(0), i + 2);
            b.due("none ahead of 0", x.ruled(1), NONE);
        }
        x.note(0, 1);
        b.due("five", x.ruled(0), 5);
        b.due("the first is 0", x.ruled(1), 0);
        x.note(NONE, 0);
        x.note(0, NONE);
        b.due("the last", x.ruled(0), 1);
        b.due("the last", x.ruled(1), 5);
        x.note(30, 0);
        b.due("on day 30, too", x.ruled(1), 5);
        x.note(29, 0);
        b.due("not on day 29", x.ruled(0), 0);
        b.due("not on day 29", x.ruled(1), -2);
        b.says(32, "from the begin on, all as the text told it");
        SlipDesk y = b.desk("slip 9;offer 1 0;offer 2 0", 2);
        y.note(0, 0);
        y.note(1, 1);
        y.note(2, NONE);
        b.due("from the begin on", y.ruled(0), 1);
        Bench.rule(y, "take writes if order=9");
        y.order(8);
        y.write(1, 900);
        y.note(NONE, 0);
        y.note(0, 1);
        b.due("as the text told it", y.ruled(1), 0);
        y.force(0);
        b.due("whichever is in force", y.ruled(0), 1);
    }

    private static void look() {
        b.says(33, "0: the DAY, 1: how many; -2: no RULE is so. NONE for others, or without a SLIP.");
        SlipDesk none = new SlipDesk();
        b.still(none, "without a slip", () -> none.look(0), NONE);
        b.still(none, "without a slip", () -> none.look(1), NONE);
        SlipDesk x = b.desk("slip 9;offer 1 0;offer 2 0", 0);
        int[] bad = {-1, 2, LEAST, MOST};
        for (int what : bad) {
            b.still(none, "without a slip", () -> none.look(what), NONE);
            b.still(x, "look " + what, () -> x.look(what), NONE);
        }
        lookOf(x, 0, 1);
        x.note(0, 1);
        lookOf(x, -2, -2);
        Bench.rule(x, "take writes");
        lookOf(x, 0, 1);
        x.note(1, 1);
        lookOf(x, -2, -2);
        lookOf(b.desk("slip 5", 0), 0, 1);
    }

    private static void lookOf(SlipDesk x, int day, int many) {
        b.due("the day", x.look(0), day);
        b.due("how many", x.look(1), many);
    }

    private static void lookDays() {
        b.says(33, "the DAY (0 to 30) by which OFFER is taken on which these part best: the most alike are fewest, of several the least");
        SlipDesk x = b.desk(ONE, 0);
        Bench.rule(x, "take 0");
        Bench.rule(x, "take 1 if day=31");
        x.note(0, NONE);
        lookOf(x, 0, 2);
        Bench.rule(x, "take 1 if day=30");
        lookOf(x, 30, 2);
        Bench.rule(x, "take 1 if day=29");
        lookOf(x, 29, 3);
        Bench.rule(x, "take 1 if day>=29");
        lookOf(x, 29, 3);
        SlipDesk y = b.desk("slip 9;offer 1 0;offer 2 0;offer 3 0", 0);
        for (int i = 0; i < 6; i++) {
            Bench.rule(y, i < 3 ? "take writes" : i < 5 ? "take 1 if offer=1;take offer/2" : "take 1 if day=5");
        }
        // On day 0 three take 2, two take 1, and none takes 0; on day 1 four take 1.
        lookOf(y, 0, 3);
        y.note(0, 2);
        lookOf(y, 0, 3);
        y.note(NONE, 0);
        y.note(1, 1);
        // None, and the first three: on day 0 three take 2, and so they part; on day 1 all take 1.
        lookOf(y, 0, 3);
        SlipDesk z = b.desk("slip 9;offer 1 0;offer 2 0;offer 3 0", 0);
        Bench.rule(z, "take writes if lines=0;take 9-writes");
        Bench.rule(z, "take writes");
        // On day 0 both take 2, on day 1 none and the second take 1, on day 2 each takes another.
        lookOf(z, 2, 1);
        SlipDesk w = b.desk("slip 9;offer 1 0;offer 2 0;offer 3 0", 0);
        for (int i = 0; i < 6; i++) {
            lookOf(w, 0, Math.max(1, i));
            Bench.rule(w, "take writes if lines<2");
        }
        // All six take 2 on day 0, 1 on day 1 (as none does), and nobody on day 2.
        lookOf(w, 0, 6);
    }

    // ---- promise 35

    private static void seasons() {
        b.says(35, "SEASONS m times (1 to 10) n DAYS (1 to 30); p (0 to 100); 0: SHORT, 1: LINES. NONE without these, or a SLIP.");
        SlipDesk none = new SlipDesk();
        b.still(none, "without a slip", () -> none.seasons(1, 1, 0, 0), NONE);
        SlipDesk x = b.ruled("slip 9;offer 4 0", "take 1 if day=29", 0);
        int[][] bad = {{0, 1, 0, 0}, {11, 1, 0, 0}, {-1, 1, 0, 0}, {1, 0, 0, 0}, {1, 31, 0, 0}, {1, -1, 0, 0},
            {1, 1, -1, 0}, {1, 1, 101, 0}, {1, 1, 0, -1}, {1, 1, 0, 2}, {MOST, 1, 0, 0}, {1, MOST, 0, 0},
            {1, 1, MOST, 0}, {1, 1, 0, MOST}, {LEAST, 1, 0, 0}, {1, LEAST, 0, 0}, {1, 1, LEAST, 0}, {1, 1, 0, LEAST}};
        for (int[] s : bad) {
            b.still(x, "seasons " + s[0] + " " + s[1] + " " + s[2] + " " + s[3],
                    () -> x.seasons(s[0], s[1], s[2], s[3]), NONE);
        }
        b.due("29 days", x.seasons(1, 29, 0, 1), 0);
        b.due("30 days", x.seasons(1, 30, 0, 1), 1);
        b.due("30 days", x.seasons(1, 30, 0, 0), 5);
        b.due("ten times", x.seasons(10, 30, 0, 1), 10);
        b.due("ten times", x.seasons(10, 30, 0, 0), 50);
        b.due("ten times a day", x.seasons(10, 1, 0, 0), 90);
        SlipDesk empty = b.desk("slip 9", 0);
        b.due("without offers", empty.seasons(10, 30, 100, 0), 90);
        b.due("without offers", empty.seasons(1, 1, 100, 1), 0);
        SlipDesk most = b.desk("slip 999", 0);
        b.due("most of all", most.seasons(10, 30, 100, 0), 9990);
    }

    private static void seasonsDrawn() {
        b.says(35, "becomes x * 1103515245 + 12345, of 2147483648 the rest; a DRAW is x / 65536; a DRAW mod 100: is it below p");
        SlipDesk x = b.desk(ONE, 1);
        // The first draws of these: 0, 15929 and 22599
        int[][] draws = {{0, 0}, {2147483647, 29}, {194, 99}};
        for (int[] d : draws) {
            x.seed(d[0]);
            b.due("not below " + d[1] + " from " + d[0], x.seasons(1, 1, d[1], 1), 1);
            b.due("below " + (d[1] + 1) + " from " + d[0], x.seasons(1, 1, d[1] + 1, 1), 0);
            b.due("x as it was", x.count(13), d[0]);
        }
        b.says(35, "ahead of each a DRAW; are there OFFERS, a DRAW mod how many: is that one a LINE, it is CANCELLED: SHORT at the end; LINES then, all together");
        StringBuilder slip = new StringBuilder("slip 511");
        for (int o = 0; o < 9; o++) {
            slip.append(";offer ").append(1 << o).append(" 0");
        }
        SlipDesk y = b.desk(slip.toString(), 9);
        // From 0: 0, 21468, 9988, 22117, so that 3 goes (of 9), and then, if 88 is below p, 4.
        b.due("3 goes", y.seasons(1, 1, 1, 0), 8);
        b.due("3 goes", y.seasons(1, 1, 1, 1), 8);
        b.due("88 is not below 88", y.seasons(1, 2, 88, 0), 8);
        b.due("88 is below 89", y.seasons(1, 2, 89, 0), 24);
        b.due("88 is below 89", y.seasons(1, 2, 89, 1), 7);
        b.due("again from now on, by the next draws", y.seasons(2, 1, 89, 0), 8 + 16);
        b.due("again from now on, by the next draws", y.seasons(2, 1, 89, 1), 8 + 8);
        b.due("none by the next draw", y.seasons(2, 1, 88, 1), 8 + 9);
        y.cancel(3);
        b.due("3 is out already", y.seasons(1, 1, 1, 1), 8);
        SlipDesk z = b.desk(slip.toString(), 3);
        b.due("3 waits, and is taken behind the draw", z.seasons(1, 1, 100, 1), 4);
        SlipDesk w = b.desk(slip + ";needs 5 1 3", 9);
        b.due("none is out", w.count(10), 0);
        b.due("all is settled by it", w.seasons(1, 1, 1, 0), 8 + 32);
        b.still(w, "nothing stays", () -> w.seasons(10, 30, 100, 1), w.seasons(10, 30, 100, 1));
    }
}
