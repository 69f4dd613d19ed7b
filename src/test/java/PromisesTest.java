/** The promises one by one, with answers worked out by hand from the document. */
public final class PromisesTest {
    private static final int NONE = SlipDesk.NONE;
    /** Lines 0 and 1 come to 60 and 40 signed; 2 goes out as soon as it is taken behind them. */
    private static final String THREE = "slip 100;offer 60 1;offer 80 0;offer 40 0;needs 2 2 20;needs 1 4 30";
    private static final String EVEN = "slip 999;offer 10 0;offer 20 1;offer 30 0;needs 2 3 9";

    private static int wrong = 0;
    private static int asked = 0;

    private static void due(int promise, String call, int got, int want) {
        asked++;
        if (got != want) {
            wrong++;
            System.out.println("promise " + promise + ": " + call + " answered " + got + ", due is " + want);
        }
    }

    private static void feed(SlipDesk x, String text) {
        x.end(0);
        Bench.feed(x, text);
    }

    private static int slip(SlipDesk x, String text) {
        feed(x, text);
        return x.slip();
    }

    private static int rule(SlipDesk x, String text) {
        feed(x, text);
        return x.rule();
    }

    private static SlipDesk desk(String slip, int days) {
        SlipDesk x = new SlipDesk();
        if (slip(x, slip) < 0) {
            due(4, "slip of " + slip, -3, 0);
        }
        for (int i = 0; i < days; i++) {
            x.day();
        }
        return x;
    }

    private static SlipDesk ruledDesk(String slip, String rule, int days) {
        SlipDesk x = desk(slip, 0);
        due(5, "rule of " + rule, rule(x, rule), 0);
        x.force(0);
        for (int i = 0; i < days; i++) {
            x.day();
        }
        return x;
    }

    private static String many(int n, String text) {
        return text.repeat(n);
    }

    public static void main(String[] args) {
        newObject();
        tape();
        slips();
        slipFaults();
        rules();
        ruleFaults();
        ruleSums();
        ruleTests();
        offersAndNeeds();
        signing();
        needKinds();
        daysAndOuts();
        lateActs();
        claims();
        undoing();
        writingOtherwise();
        goingOut();
        sets();
        rows();
        goingOn();
        notes();
        ruledAndLook();
        rests();
        seasons();
        images();
        System.out.println("PromisesTest: " + asked + " answers, " + wrong + " of them wrong");
        if (wrong > 0) {
            System.exit(1);
        }
    }

    private static void newObject() {
        SlipDesk x = new SlipDesk();
        for (int what = -1; what <= 15; what++) {
            due(1, "count " + what, x.count(what), what == 3 || what < 0 || what > 14 ? NONE : 0);
        }
        due(6, "force", x.force(0), -2);
        due(6, "force none", x.force(NONE), NONE);
        due(7, "offer", x.offer(0, 0), NONE);
        due(8, "need", x.need(0, 0, 0), NONE);
        due(9, "line", x.line(0), NONE);
        due(10, "out", x.out(0), NONE);
        due(11, "day", x.day(), NONE);
        due(12, "cancel", x.cancel(0), NONE);
        due(13, "order", x.order(5), NONE);
        due(14, "write", x.write(0, 5), NONE);
        due(15, "claim", x.claim(5), NONE);
        due(16, "undo", x.undo(), NONE);
        due(17, "would", x.would(0, 5), NONE);
        due(18, "least", x.least(0, 5), NONE);
        due(19, "worst", x.worst(0), NONE);
        due(20, "firm", x.firm(), NONE);
        due(21, "half", x.half(0), NONE);
        due(22, "agree", x.agree(0, 0), NONE);
        due(23, "rows", x.rows(0), -2);
        due(24, "ahead", x.ahead(0, 0), NONE);
        due(25, "full", x.full(), NONE);
        due(26, "taken", x.taken(0), NONE);
        due(27, "sizes", x.sizes(0, 0), NONE);
        due(28, "standing", x.standing(0), NONE);
        due(29, "rests", x.rests(0, 1, 0), NONE);
        due(30, "pence", x.pence(5, 0), NONE);
        due(31, "note", x.note(0, NONE), -2);
        due(31, "of an offer", x.note(0, 0), -2);
        due(31, "none then", x.note(NONE, 0), 0);
        due(31, "none then, whatever the offer", x.note(NONE, 99), 0);
        due(31, "-2 is not NONE", x.note(-2, 0), -2);
        due(36, "notes", x.count(11), 0);
        due(32, "ruled", x.ruled(0), -3);
        due(33, "look", x.look(0), NONE);
        due(35, "seasons", x.seasons(1, 1, 0, 0), NONE);
        due(38, "back", x.back(0), NONE);
    }

    private static void tape() {
        SlipDesk x = new SlipDesk();
        for (int i = 1; i <= 20; i++) {
            due(2, "feed", x.feed(-1, 0, 7, Integer.MIN_VALUE, Integer.MAX_VALUE), 20 * i);
        }
        due(2, "feed beyond 400", x.feed(0, 0, 0, 0, 0), NONE);
        due(36, "bytes", x.count(14), 400);
        due(3, "end beyond", x.end(401), NONE);
        due(3, "end below", x.end(-1), NONE);
        due(36, "bytes", x.count(14), 400);
        due(3, "all of it", x.end(400), 400);
        due(3, "end", x.end(381), 381);
        due(2, "feed at 381", x.feed(0, 0, 0, 0, 0), NONE);
        due(3, "end", x.end(380), 380);
        due(2, "feed at 380", x.feed(0, 0, 0, 0, 0), 400);
        due(3, "end of none", x.end(0), 0);
        due(3, "end beyond 0", x.end(1), NONE);
        // "slip 7" told byte by byte: the highest byte of a number is the first
        x.feed(0x736c6970, 0x20370000, 0, 0, 0);
        x.end(6);
        due(4, "slip", x.slip(), 0);
        due(36, "order", x.count(0), 7);
        due(36, "bytes", x.count(14), 0);
    }

    private static void slips() {
        SlipDesk x = desk(THREE, 0);
        due(36, "order", x.count(0), 100);
        due(36, "offers", x.count(1), 3);
        due(36, "waiting", x.count(5), 7);
        due(4, "blanks or none", slip(x, "  slip7 ; offer5 1;needs  0 0  00012  "), 1);
        due(8, "N", x.need(0, 0, 1), 12);
        due(4, "nine offers, twelve needs",
                slip(x, "slip 999" + many(9, ";offer 1 0") + many(12, ";needs 8 1 999")), 9);
        due(7, "needs", x.offer(8, 2), 12);
        rule(x, "take writes");
        x.force(0);
        x.seed(77);
        x.day();
        x.note(0, 0);
        due(36, "notes", x.count(11), 1);
        due(4, "a fault", slip(x, "slip 1;"), -2 - (1 + 8 * 7));
        due(4, "all stays: order", x.count(0), 999);
        due(4, "all stays: notes", x.count(11), 1);
        due(4, "all stays: acts", x.count(12), 1);
        due(4, "all stays: day", x.count(4), 1);
        due(4, "the tape is empty", x.count(14), 0);
        due(4, "another", slip(x, "slip 50;offer 3 1"), 1);
        due(4, "no notes", x.count(11), 0);
        due(4, "no acts", x.count(12), 0);
        due(4, "day 0", x.count(4), 0);
        due(4, "nothing placed", x.count(7), 0);
        due(4, "the rule stays in force", x.count(3), 0);
        due(4, "x stays", x.count(13), 77);
        due(16, "undo", x.undo(), NONE);
        x = desk(THREE, 3);
        x.claim(100);
        due(4, "another", slip(x, EVEN), 3);
        for (int o = 0; o < 3; o++) {
            due(4, "needs", x.offer(o, 2), o / 2);
            for (int what = 3; what < 6; what++) {
                due(4, "all wait; nothing is signed or paid", x.offer(o, what), 0);
            }
        }
        due(4, "nobody is out", x.out(0), NONE);
    }

    private static void slipFault(String text, int place, int kind) {
        due(4, "slip of " + text, slip(new SlipDesk(), text), -2 - (1 + 8 * place + kind));
    }

    private static void slipFaults() {
        slipFault("", 0, 0);
        slipFault("   ", 3, 0);
        slipFault("slip", 4, 0);
        slipFault("slip 0", 5, 1);
        slipFault("slip 1000", 5, 1);
        slipFault("slip 000999", 5, 1);
        slipFault("slip 123456 x", 5, 1);
        slipFault("slip -1", 5, 0);
        slipFault("slips 1", 0, 0);
        slipFault("Slip 1", 0, 0);
        slipFault("take 1", 0, 0);
        slipFault("offer 1 0", 0, 4);
        slipFault(" needs 0 0 0", 1, 4);
        slipFault("slip 1;slip 1", 7, 4);
        slipFault("slip 1;slip", 7, 4);
        slipFault("slip 1;", 7, 0);
        slipFault("slip 1;;", 7, 0);
        slipFault("slip 1; ", 8, 0);
        slipFault("slip 1 1", 7, 0);
        slipFault("slip 1\t", 6, 0);
        slipFault("slip 1\0", 6, 0);
        slipFault("slip 1\u00ff", 6, 0);
        slipFault("slip 1;offers 1 0", 7, 0);
        slipFault("slip 1;offer 0 0", 13, 1);
        slipFault("slip 1;offer 1000 0", 13, 1);
        slipFault("slip 1;offer 1 2", 15, 1);
        slipFault("slip 1;offer 10", 15, 0);
        slipFault("slip 1;offer 1,0", 14, 0);
        slipFault("slip 1;needs 0 0 0", 13, 1);
        slipFault("slip 1;offer 1 0;needs 1 0 0", 23, 1);
        slipFault("slip 1;offer 1 0;needs 0 6 0", 25, 1);
        slipFault("slip 1;offer 1 0;needs 0 0 1000", 27, 1);
        slipFault("slip 1;offer 1 0;needs 0 0", 26, 0);
        slipFault("slip 1" + many(10, ";offer 1 0"), 97, 4);
        slipFault("slip 1" + many(9, ";offer 1 0") + ";offr 1 0", 97, 0);
        slipFault("slip 1;offer 1 0" + many(13, ";needs 0 0 0"), 161, 4);
    }

    private static void rules() {
        SlipDesk x = desk(THREE, 0);
        due(5, "a rule", rule(x, "take 1"), 0);
        due(5, "the tape is empty", x.count(14), 0);
        due(5, "a fault", rule(x, "take"), -2 - (1 + 8 * 4));
        due(36, "rules", x.count(2), 1);
        due(5, "the tape is empty", x.count(14), 0);
        for (int i = 0; i < 9; i++) {
            due(5, "a long fault", rule(x, "take 1" + many(40, "+1") + ";take 1 + 1 ; take"), -2 - (1 + 8 * 104));
        }
        for (int i = 1; i < 6; i++) {
            due(5, "a rule", rule(x, "take offer + " + i), i);
        }
        feed(x, "take 9");
        due(5, "a seventh", x.rule(), NONE);
        due(5, "the tape stays", x.count(14), 6);
        due(5, "a seventh with a fault", rule(x, "take"), NONE);
        due(6, "force", x.force(5), NONE);
        due(11, "by a rule told behind many faults", x.day(), 2);
        x.force(1);
        due(11, "by a rule told behind many faults", x.day(), 1);
        due(6, "force", x.force(0), 1);
        due(6, "force beyond", x.force(6), -2);
        due(6, "force below", x.force(-2), -2);
        due(36, "in force", x.count(3), 0);
        due(6, "force none", x.force(NONE), 0);
        due(36, "in force", x.count(3), NONE);
    }

    private static void ruleFault(String text, int place, int kind) {
        due(5, "rule of " + text, rule(new SlipDesk(), text), -2 - (1 + 8 * place + kind));
    }

    private static void ruleStands(String text) {
        due(5, "rule of " + text, rule(new SlipDesk(), text), 0);
    }

    private static void ruleFaults() {
        ruleFault("", 0, 0);
        ruleFault("take", 4, 0);
        ruleFault("takes 1", 0, 0);
        ruleFault("takewrites", 0, 0);
        ruleFault("take x", 5, 0);
        ruleFault("take 1;", 7, 0);
        ruleFault("take 1 if", 9, 0);
        ruleFault("take 1 if gone = 1]", 18, 0);
        ruleFault("take 5 %", 8, 0);
        ruleFault("take 123456", 5, 1);
        ruleFault("take -1", 5, 0);
        ruleFault("take [1]", 5, 0);
        ruleFault("take not", 5, 0);
        ruleFault("take slip", 5, 0);
        ruleFault("take 1 if 1 ] 2", 12, 0);
        ruleFault("take 1 if 1 ; 2", 12, 0);
        ruleFault("take 1 1", 7, 0);
        ruleFault("take 5day", 6, 0);
        ruleFault("take 1 or 1", 7, 0);
        ruleFault("take 1 if 1", 11, 0);
        ruleFault("take 1 if offer", 15, 0);
        ruleFault("take 1 if 1 < = 2", 14, 0);
        ruleFault("take 1 if 1 == 2", 13, 0);
        ruleFault("take 1 if 1 <> 2", 13, 0);
        ruleFault("take 1 if not", 13, 0);
        ruleFault("take 1 if [1=1", 14, 0);
        ruleFault("take 1 if 1=1 2", 14, 0);
        ruleFault("take 1 if 1=1=1", 13, 0);
        ruleFault("take 1 if 1=1 and", 17, 0);
        ruleFault("take 1 if 1=1 if 1=1", 14, 0);
        ruleStands("take1if1=1or2>=2and[3<4]");
        ruleStands("take 1 if " + many(10, "[") + "1=1" + many(10, "]") + " or " + many(10, "[") + "1=1"
                + many(10, "]"));
        ruleFault("take 1 if " + many(11, "[") + "1=1" + many(11, "]"), 20, 2);
        ruleStands("take 1 if " + many(10, "not ") + "1=1");
        ruleFault("take 1 if " + many(11, "not ") + "1=1", 50, 2);
        ruleFault("take 1 if " + many(5, "not ") + many(6, "["), 35, 2);
        ruleStands("take 1" + many(59, "+1"));
        ruleFault("take 1" + many(60, "+1"), 125, 3);
        ruleFault("take 1" + many(59, "+1") + "+123456", 125, 1);
        ruleFault("take 1" + many(59, "+1") + "+foo", 125, 0);
        ruleStands("take 1" + many(58, "+1") + ";take 1");
        ruleStands("take 1" + many(56, "+1") + " if 2=3");
        ruleFault("take 1" + many(57, "+1") + " if 2=3", 126, 3);
        ruleFault("take 1" + many(58, "+1") + " if 2=3", 127, 3);
        ruleFault("take 1" + many(29, "+1") + ";take 1" + many(30, "+1"), 130, 3);
        ruleStands("take 1" + many(11, ";take 1"));
        ruleFault("take 1" + many(12, ";take 1"), 84, 4);
        ruleFault("take 1" + many(11, ";take 1") + ";tak 1", 84, 0);
    }

    private static void picks(String rule, int taken) {
        due(11, "day by " + rule, ruledDesk(EVEN, rule, 0).day(), taken);
    }

    private static void ruleSums() {
        picks("take 100 - writes", 0);
        picks("take writes", 2);
        picks("take stands", 1);
        picks("take needs", 2);
        picks("take offer % 2", 1);
        picks("take 2 - offer", 0);
        picks("take 0", -2);
        picks("take 1", 0);
        picks("take 0 - writes", -2);
        picks("take 7 % 0", -2);
        picks("take 7 / 0", -2);
        picks("take 7 / 0 + 1", 0);
        picks("take 1 + offer * 2 - 3", 2);
        picks("take 12 / 2 * 3 - 17 - offer", 0);
        picks("take 3 - 2 - offer * 0 - 1 + offer", 2);
        picks("take offer * offer + offer * 3 - 9", 2);
        picks("take 0 - 7 / 2 + 4", 0);
        picks("take 50000 * 50000", 0);
        long round = 99999L * 99999L * 99999L * 99999L;
        picks("take 99999 * 99999 * 99999 * 99999", round > 0 ? 0 : -2);
        long other = 99999L * 99999L * 99999L * 77777L;
        picks("take 99999 * 99999 * 99999 * 77777", other > 0 ? 0 : -2);
    }

    private static void ruleTests() {
        picks("take 5 if writes > 15;take 1", 1);
        picks("take 5 if not writes > 15;take 1", 0);
        picks("take 1 if writes >= 20", 1);
        picks("take 1 if writes <= 10", 0);
        picks("take 1 if writes < 10", -2);
        picks("take 1 if 10 < writes", 1);
        picks("take 1 if 30 < writes", -2);
        picks("take 1 if writes > 30", -2);
        picks("take 1 if writes > 20", 2);
        picks("take 1 if offer - 1 < 0", 0);
        picks("take 1 if writes = 30", 2);
        picks("take offer + 1 if writes = 30 or writes = 10 and stands = 1", 2);
        picks("take offer + 1 if [ writes = 30 or writes = 10 ] and stands = 1", -2);
        picks("take offer + 1 if not writes = 30 and stands = 0", 0);
        picks("take offer + 1 if not [ writes = 30 and stands = 0 ]", 1);
        picks("take 1 if not not stands = 1", 1);
        picks("take 9 if stands = 1;take 8;take 100", 1);
        SlipDesk x = ruledDesk(EVEN, "take 1 if day = 0 and writes = 20;take 1 if placed = 20 and lines = 1 and "
                + "short = 979 and waiting = 2 and gone = 0 and day = 1 and order = 999", 0);
        due(11, "day", x.day(), 1);
        due(11, "day", x.day(), 0);
        due(11, "day", x.day(), -2);
        due(36, "day", x.count(4), 3);
    }

    private static void offersAndNeeds() {
        SlipDesk x = desk(THREE, 3);
        int[][] due = {{60, 1, 0, 1, 60, 0}, {80, 0, 1, 1, 40, 0}, {40, 0, 1, 2, 0, 0}};
        for (int o = 0; o < 3; o++) {
            for (int what = 0; what < 6; what++) {
                due(7, "offer " + o + " " + what, x.offer(o, what), due[o][what]);
            }
        }
        due(7, "offer 3", x.offer(3, 0), NONE);
        due(7, "offer -1", x.offer(-1, 0), NONE);
        due(7, "what 6", x.offer(0, 6), NONE);
        due(7, "what -1", x.offer(0, -1), NONE);
        due(8, "kind", x.need(1, 0, 0), 4);
        due(8, "N", x.need(1, 0, 1), 30);
        due(8, "holds", x.need(1, 0, 2), 1);
        due(8, "no line", x.need(2, 0, 2), 0);
        due(8, "none", x.need(0, 0, 0), NONE);
        due(8, "none", x.need(1, 1, 0), NONE);
        due(8, "none", x.need(1, -1, 0), NONE);
        due(8, "what 3", x.need(1, 0, 3), NONE);
        SlipDesk y = desk("slip 9;offer 9 0;offer 9 0;needs 1 0 5;needs 0 1 6;needs 1 2 7;needs 0 3 8;needs 1 4 9", 0);
        int[][] needs = {{1, 0, 0, 5}, {1, 1, 2, 7}, {1, 2, 4, 9}, {0, 0, 1, 6}, {0, 1, 3, 8}};
        for (int[] n : needs) {
            due(8, "kind, of several", y.need(n[0], n[1], 0), n[2]);
            due(8, "N, of several", y.need(n[0], n[1], 1), n[3]);
        }
        due(8, "no fourth", y.need(1, 3, 0), NONE);
        due(8, "offer 3", x.need(3, 0, 0), NONE);
        due(9, "line", x.line(0), 0);
        due(9, "line", x.line(1), 1);
        due(9, "line", x.line(2), NONE);
        due(9, "line", x.line(-1), NONE);
        due(10, "out", x.out(0), 2);
        due(10, "out", x.out(1), NONE);
        due(10, "out", x.out(-1), NONE);
        int[] counts = {100, 3, 0, NONE, 3, 0, 3, 140, 0, 100, 1, 0, 3, 0, 0};
        for (int what = 0; what < counts.length; what++) {
            due(36, "count " + what, x.count(what), counts[what]);
        }
    }

    private static void signing() {
        SlipDesk x = desk("slip 100;offer 120 1;offer 30 1;offer 90 0", 3);
        due(7, "too large to stand", x.offer(0, 4), 40);
        due(7, "stands", x.offer(1, 4), 30);
        due(7, "another", x.offer(2, 4), 30);
        x = desk("slip 10;offer 5 0;offer 5 0;offer 5 0", 3);
        due(7, "first along the slip", x.offer(0, 4), 4);
        due(7, "second", x.offer(1, 4), 3);
        due(7, "third", x.offer(2, 4), 3);
        x = ruledDesk("slip 10;offer 5 0;offer 5 0;offer 5 0", "take offer + 1", 3);
        due(7, "first along the slip", x.offer(2, 4), 4);
        due(7, "last along it", x.offer(0, 4), 3);
        x = desk("slip 100;offer 60 1;offer 60 1;offer 40 1", 3);
        due(7, "stands", x.offer(0, 4), 60);
        due(7, "too large for what is left", x.offer(1, 4), 0);
        due(7, "stands with what is left", x.offer(2, 4), 40);
        x = desk("slip 100;offer 30 0;offer 70 0", 2);
        due(7, "as much as it writes", x.offer(1, 4), 70);
        due(36, "signed", x.count(9), 100);
    }

    private static void needKinds() {
        due(11, "placed", desk("slip 9;offer 10 0;needs 0 0 10", 1).count(6), 1);
        due(11, "placed", desk("slip 9;offer 10 0;needs 0 0 11", 1).count(6), 0);
        due(11, "itself", desk("slip 9;offer 10 0;needs 0 1 0", 1).count(6), 1);
        due(11, "no offer", desk("slip 9;offer 10 0;needs 0 1 999", 1).count(6), 0);
        due(11, "signed", desk("slip 9;offer 10 0;needs 0 2 9", 1).count(6), 1);
        due(11, "signed", desk("slip 9;offer 10 0;needs 0 2 10", 1).count(6), 0);
        SlipDesk x = desk("slip 100;offer 10 0;offer 10 0;needs 0 3 1", 2);
        due(11, "lines", x.count(6), 2);
        due(10, "out", x.out(0), 0);
        due(11, "lines", desk("slip 100;offer 10 0;offer 10 0;needs 0 3 2", 2).count(6), 3);
        due(11, "short", desk("slip 30;offer 10 0;needs 0 4 20", 1).count(6), 1);
        due(11, "short", desk("slip 30;offer 10 0;needs 0 4 19", 1).count(6), 0);
        x = desk("slip 10;offer 5 0;needs 0 5 0", 1);
        due(8, "held on that day, no more", x.need(0, 0, 2), 0);
        due(9, "a line yet", x.line(0), 0);
        due(17, "settled first", x.would(0, 5), 0);
        due(20, "firm", x.firm(), 1);
        due(11, "none waits", x.day(), -2);
        due(10, "out by the day", x.out(0), 0);
        due(36, "waiting", x.count(5), 0);
    }

    private static void daysAndOuts() {
        SlipDesk x = desk(THREE, 0);
        due(11, "day", x.day(), 0);
        due(11, "day", x.day(), 1);
        due(11, "taken, and out at once", x.day(), 2);
        due(11, "day", x.day(), -2);
        x = ruledDesk(THREE, "take writes", 0);
        due(11, "day", x.day(), 1);
        due(11, "day", x.day(), 0);
        due(9, "first along the slip", x.line(0), 1);
        x = desk("slip 5", 0);
        due(11, "no offers", x.day(), -2);
        for (int i = 1; i < 999; i++) {
            x.day();
        }
        due(36, "day", x.count(4), 999);
        due(11, "in day 999", x.day(), NONE);
        due(36, "day", x.count(4), 999);
        // All go out, each as it is the first along the slip of those whose needs do not hold.
        x = ruledDesk("slip 100;offer 50 0;offer 30 0;offer 20 0;needs 0 1 1;needs 1 1 2", "take offer + 1", 3);
        due(20, "firm", x.firm(), 4);
        due(19, "worst", x.worst(0), 2);
        due(19, "worst", x.worst(1), 100);
        due(12, "cancel", x.cancel(2), 3);
        due(10, "out", x.out(0), 2);
        due(10, "out", x.out(1), 1);
        due(10, "out", x.out(2), 0);
        due(16, "undo", x.undo(), 3);
        due(36, "lines", x.count(6), 7);
        due(36, "outs", x.count(10), 0);
        x = desk("slip 100;offer 10 0;offer 20 0;offer 70 0;needs 0 4 0;needs 0 0 1;needs 1 4 0", 0);
        rule(x, "take writes");
        x.force(0);
        x.day();
        x.day();
        due(10, "short 10", x.out(0), 1);
        x.day();
        due(10, "short 20", x.out(1), 0);
    }

    private static void lateActs() {
        SlipDesk x = desk(THREE, 2);
        due(12, "waits", x.cancel(2), NONE);
        due(12, "no offer", x.cancel(3), NONE);
        due(12, "no offer", x.cancel(-1), NONE);
        due(13, "0", x.order(0), NONE);
        due(13, "1000", x.order(1000), NONE);
        due(13, "the same", x.order(100), NONE);
        due(36, "acts", x.count(12), 2);
        due(13, "another", x.order(170), 0);
        due(36, "short", x.count(8), 30);
        due(13, "one goes out", x.order(171), 1);
        due(36, "lines", x.count(6), 1);
        due(13, "999", x.order(999), 0);
        x = desk(THREE, 2);
        due(14, "0", x.write(1, 0), NONE);
        due(14, "1000", x.write(1, 1000), NONE);
        due(14, "the same", x.write(1, 80), NONE);
        due(14, "waits", x.write(2, 50), NONE);
        due(14, "no offer", x.write(9, 50), NONE);
        due(36, "acts", x.count(12), 2);
        due(14, "more", x.write(1, 999), 40);
        due(7, "writes", x.offer(1, 0), 999);
        due(14, "less", x.write(1, 10), 10);
        due(14, "too little", x.write(1, 9), -2);
        due(7, "out", x.offer(1, 3), 2);
        due(14, "out", x.write(1, 50), NONE);
        due(7, "writes yet", x.offer(1, 0), 9);
        due(12, "cancel", x.cancel(0), 1);
        due(15, "no lines", x.claim(5), NONE);
    }

    private static void claims() {
        SlipDesk x = desk(THREE, 2);
        due(15, "0", x.claim(0), NONE);
        due(15, "10000", x.claim(10000), NONE);
        due(30, "pence", x.pence(101, 0), 61);
        due(30, "pence", x.pence(101, 1), 40);
        due(30, "pence of 0", x.pence(0, 1), 0);
        due(30, "pence of 1", x.pence(1, 0), 1);
        due(30, "pence of 1", x.pence(1, 1), 0);
        due(30, "below 0", x.pence(-1, 0), NONE);
        due(30, "beyond", x.pence(10000, 0), NONE);
        due(30, "9999", x.pence(9999, 1), 4000);
        due(30, "waits", x.pence(5, 2), NONE);
        due(15, "claim", x.claim(101), 61);
        due(7, "paid", x.offer(1, 5), 40);
        due(7, "paid", x.offer(2, 5), 0);
        due(15, "claim", x.claim(9999), 6060);
        due(15, "9999 at most", x.claim(9999), 9999);
        due(7, "paid", x.offer(1, 5), 8040);
        due(12, "cancel", x.cancel(0), 1);
        due(7, "paid yet", x.offer(0, 5), 9999);
        due(15, "the first along the slip now", x.claim(1), 8041);
        due(16, "undo", x.undo(), 6);
        due(7, "paid", x.offer(1, 5), 8040);
        x = desk("slip 3;offer 1 0;offer 1 0;offer 1 0", 3);
        due(15, "first along the slip", x.claim(2), 1);
        due(7, "second", x.offer(1, 5), 1);
        due(7, "third", x.offer(2, 5), 0);
    }

    private static void undoing() {
        SlipDesk x = desk("slip 5", 25);
        due(36, "acts", x.count(12), 20);
        for (int i = 19; i >= 0; i--) {
            due(16, "undo", x.undo(), i);
        }
        due(16, "no more", x.undo(), NONE);
        due(36, "day", x.count(4), 5);
        x = desk(THREE, 2);
        rule(x, "take 1");
        x.order(50);
        x.write(0, 20);
        x.claim(100);
        x.cancel(0);
        x.force(0);
        x.seed(5);
        x.note(3, 1);
        due(16, "cancel", x.undo(), 5);
        due(7, "a line again", x.offer(0, 3), 1);
        due(9, "at its place", x.line(0), 0);
        due(7, "paid", x.offer(0, 5), 40);
        due(16, "claim", x.undo(), 4);
        due(7, "paid", x.offer(0, 5), 0);
        due(16, "write", x.undo(), 3);
        due(7, "writes", x.offer(0, 0), 60);
        due(7, "signed", x.offer(0, 4), 21);
        due(16, "order", x.undo(), 2);
        due(7, "signed", x.offer(0, 4), 60);
        due(16, "day", x.undo(), 1);
        due(36, "day", x.count(4), 1);
        due(36, "waiting", x.count(5), 6);
        due(16, "no act: force", x.count(3), 0);
        due(16, "no act: seed", x.count(13), 5);
        due(16, "no act: note", x.count(11), 1);
    }

    private static void writingOtherwise() {
        SlipDesk x = desk(THREE, 2);
        due(17, "as it is", x.would(1, 80), 40);
        due(17, "out", x.would(1, 9), 0);
        due(17, "short 30", x.would(1, 10), 10);
        due(17, "all of it", x.would(0, 100), 100);
        due(17, "too large to stand", x.would(0, 101), 56);
        due(17, "waits", x.would(2, 10), NONE);
        due(17, "no offer", x.would(5, 10), NONE);
        due(17, "0", x.would(0, 0), NONE);
        due(17, "1000", x.would(0, 1000), NONE);
        due(18, "least", x.least(1, 40), 40);
        due(18, "none below 10 stays", x.least(1, 1), 10);
        due(18, "never", x.least(1, 41), -2);
        due(18, "least", x.least(0, 100), 100);
        due(18, "beyond the order", x.least(0, 101), -2);
        due(18, "0", x.least(0, 0), NONE);
        due(18, "1000", x.least(0, 1000), NONE);
        due(18, "waits", x.least(2, 5), NONE);
        due(17, "nothing changes", x.offer(1, 0), 80);
        due(17, "nothing changes", x.count(12), 2);
        due(18, "999", desk("slip 999;offer 5 0", 1).least(0, 999), 999);
    }

    private static void goingOut() {
        SlipDesk x = desk(THREE, 0);
        due(19, "no lines", x.worst(0), -2);
        due(19, "no lines", x.worst(1), -2);
        due(19, "others", x.worst(2), NONE);
        due(20, "no lines", x.firm(), 0);
        x = desk(THREE, 2);
        due(19, "which", x.worst(0), 1);
        due(19, "short", x.worst(1), 40);
        due(19, "others", x.worst(-1), NONE);
        due(20, "both", x.firm(), 3);
        x = desk("slip 100;offer 30 0;offer 30 0", 2);
        due(19, "of several the first", x.worst(0), 0);
        x = desk("slip 10;offer 30 0;offer 30 0", 2);
        due(19, "short 0", x.worst(1), 0);
        due(19, "short 0", x.worst(0), 0);
    }

    private static void sets() {
        SlipDesk x = desk(THREE, 0);
        due(21, "no lines", x.half(0), -2);
        due(22, "no lines", x.agree(0, 0), -2);
        due(22, "no set", x.agree(1, 0), NONE);
        due(21, "others", x.half(2), NONE);
        x = desk(THREE, 2);
        due(21, "how many", x.half(0), 1);
        due(21, "the set", x.half(1), 1);
        int[][] agree = {{0, 2, 3}, {1, 1, 2}, {2, 1, 1}, {3, 0, 0}};
        for (int[] a : agree) {
            due(22, "how many for " + a[0], x.agree(a[0], 0), a[1]);
            due(22, "the set for " + a[0], x.agree(a[0], 1), a[2]);
        }
        due(22, "no line", x.agree(4, 0), NONE);
        due(22, "no set", x.agree(-1, 0), NONE);
        due(22, "no set", x.agree(1 << 30, 0), NONE);
        due(22, "others", x.agree(0, 2), NONE);
        due(22, "others", x.agree(0, -1), NONE);
        x = desk("slip 100;offer 25 0;offer 25 0;offer 25 0;offer 25 0", 4);
        due(21, "more than half", x.half(0), 3);
        due(21, "least as bits", x.half(1), 7);
        x = ruledDesk("slip 90;offer 30 0;offer 30 0;offer 30 0", "take offer + 1", 3);
        due(22, "two thirds are enough", x.agree(0, 0), 2);
        due(22, "with the first along the slip", x.agree(0, 1), 5);
        due(22, "yet", x.agree(3, 1), 4);
        due(21, "least as bits", x.half(1), 3);
        due(22, "enough, though others are left", x.agree(5, 0), 0);
        due(22, "enough, though others are left", x.agree(5, 1), 0);
        x = desk("slip 5;offer 5 0", 1);
        due(21, "one line", x.half(0), 1);
        due(21, "one line", x.half(1), 1);
        due(22, "one line", x.agree(0, 1), 1);
        due(22, "one line", x.agree(1, 0), 0);
    }

    private static void rows() {
        SlipDesk x = desk(THREE, 0);
        int[] due = {0, 2, 0, 1, 2, NONE};
        for (int what = 0; what < 6; what++) {
            due(23, "rows " + what, x.rows(what), due[what]);
        }
        due(23, "others", x.rows(6), -2);
        due(23, "others", x.rows(-1), -2);
        x = desk("slip 100;offer 50 0;offer 50 0;needs 0 1 1", 0);
        due(23, "short", x.rows(0), 0);
        due(23, "lines", x.rows(1), 2);
        due(23, "first", x.rows(2), 1);
        due(23, "second", x.rows(3), 0);
        due(23, "third", x.rows(4), NONE);
        x = desk("slip 50;offer 10 0;offer 50 0;needs 0 1 1", 0);
        due(23, "most lines", x.rows(2), 1);
        x = desk("slip 100" + many(4, ";offer 1 0") + ";offer 96 0", 0);
        due(23, "four of five", x.rows(0), 96);
        due(23, "four of five", x.rows(1), 4);
        due(23, "the fourth", x.rows(5), 3);
        x.day();
        due(23, "others", x.rows(5), 4);
        due(23, "lines of all", x.rows(1), 5);
        x = desk(THREE, 3);
        due(23, "none waits", x.rows(0), 0);
        due(23, "none waits", x.rows(1), 2);
        due(23, "none waits", x.rows(2), NONE);
        due(23, "nothing changes", x.count(12), 3);
    }

    private static void goingOn() {
        SlipDesk x = desk(THREE, 0);
        int[][] ahead = {{0, 0, 100, 0}, {60, 1, 40, 0}, {140, 2, 0, 0}, {140, 2, 0, 1}};
        for (int n = 0; n < 4; n++) {
            for (int what = 0; what < 4; what++) {
                due(24, "ahead " + n + " " + what, x.ahead(n, what), ahead[n][what]);
            }
        }
        due(24, "60", x.ahead(60, 0), 140);
        due(24, "61", x.ahead(61, 0), NONE);
        due(24, "-1", x.ahead(-1, 0), NONE);
        due(24, "others", x.ahead(1, 4), NONE);
        due(24, "others", x.ahead(1, -1), NONE);
        due(25, "full", x.full(), 1);
        due(26, "taken", x.taken(0), 0);
        due(26, "taken", x.taken(2), 2);
        due(26, "no offer", x.taken(3), NONE);
        x.day();
        due(25, "full", x.full(), 1);
        due(26, "a line", x.taken(0), NONE);
        due(26, "taken", x.taken(2), 2);
        x.day();
        x.day();
        due(25, "full yet", x.full(), 3);
        due(26, "out", x.taken(2), NONE);
        due(24, "nothing changes", x.count(4), 3);
        x = ruledDesk(THREE, "take stands", 0);
        due(25, "never", x.full(), -2);
        due(26, "never", x.taken(1), -2);
        due(26, "taken", ruledDesk("slip 5;offer 5 0", "take 1 if day = 59", 0).taken(0), 59);
        due(26, "not of these", ruledDesk("slip 5;offer 5 0", "take 1 if day = 60", 0).taken(0), -2);
        due(25, "not of these", ruledDesk("slip 5;offer 5 0", "take 1 if day = 60", 0).full(), -2);
        x = ruledDesk("slip 5;offer 5 0", "take 1 if day = 60", 1);
        due(26, "the last of these", x.taken(0), 60);
        due(25, "the last of these", x.full(), 60);
    }

    private static void notes() {
        SlipDesk x = ruledDesk("slip 500;offer 100 0;offer 200 0", "take writes", 2);
        due(27, "no notes", x.sizes(0, 0), 99);
        due(27, "no notes", x.sizes(0, 1), 10);
        due(28, "no notes", x.standing(0), 3);
        due(31, "note", x.note(0, 0), 1);
        due(27, "how many", x.sizes(0, 0), 80);
        due(27, "the least", x.sizes(0, 1), 200);
        due(27, "how many", x.sizes(1, 0), 10);
        due(27, "the least", x.sizes(1, 1), 10);
        due(28, "neither", x.standing(0), 0);
        due(27, "others", x.sizes(0, 2), NONE);
        due(27, "no offer", x.sizes(2, 0), NONE);
        due(28, "no offer", x.standing(2), NONE);
        due(28, "no offer", x.standing(-1), NONE);
        x.order(1);
        x.write(0, 900);
        due(27, "as the text told it", x.sizes(1, 0), 10);
        due(31, "another", x.note(2, NONE), 2);
        due(27, "none on day 2", x.sizes(1, 0), 10);
        due(31, "against the first", x.note(0, 1), 3);
        due(27, "none", x.sizes(0, 0), 0);
        due(27, "none", x.sizes(0, 1), -2);
        due(31, "31", x.note(31, 0), -2);
        due(31, "-2", x.note(-2, 0), -2);
        due(31, "no offer", x.note(0, 2), -2);
        due(31, "no offer", x.note(0, -2), -2);
        due(36, "notes", x.count(11), 3);
        due(31, "none", x.note(NONE, 0), 0);
        for (int i = 1; i <= 10; i++) {
            due(31, "note", x.note(30, NONE), i);
        }
        due(31, "an eleventh", x.note(30, NONE), -2);
        due(31, "none, though there are ten", x.note(NONE, 2), 0);
        due(36, "notes", x.count(11), 0);
        // 0 goes out on day 1, unless its line stands; whom the rule takes on day 2 tells whether it went.
        x = ruledDesk("slip 100;offer 60 0;offer 60 0;offer 10 0;offer 10 0;needs 0 2 51",
                "take 1 if gone = 0;take offer", 0);
        x.note(2, 2);
        due(28, "stands", x.standing(0), 2);
        x.note(NONE, 0);
        x.note(2, 3);
        due(28, "does not", x.standing(0), 1);
        x.force(NONE);
        due(28, "by the rule in force", x.standing(0), 0);
    }

    private static void ruledAndLook() {
        SlipDesk x = desk("slip 500;offer 100 0;offer 200 0;offer 150 0", 0);
        due(32, "none alone", x.ruled(0), 1);
        due(32, "none alone", x.ruled(1), NONE);
        due(33, "none alone", x.look(0), 0);
        due(33, "none alone", x.look(1), 1);
        rule(x, "take writes");
        rule(x, "take 1000 - writes");
        due(32, "how many", x.ruled(0), 3);
        due(32, "the first", x.ruled(1), NONE);
        due(33, "the day", x.look(0), 2);
        due(33, "how many", x.look(1), 1);
        x.note(1, 2);
        due(32, "how many", x.ruled(0), 2);
        due(32, "the first", x.ruled(1), 0);
        due(33, "the day", x.look(0), 0);
        due(33, "how many", x.look(1), 1);
        x.note(0, 0);
        due(32, "the first", x.ruled(1), 1);
        x.note(30, NONE);
        due(32, "how many", x.ruled(0), 1);
        x.note(2, NONE);
        due(32, "how many", x.ruled(0), 0);
        due(32, "the first", x.ruled(1), -2);
        due(33, "the day", x.look(0), -2);
        due(33, "how many", x.look(1), -2);
        due(32, "others", x.ruled(2), -3);
        due(32, "others", x.ruled(-1), -3);
        due(33, "others", x.look(2), NONE);
        due(33, "others", x.look(-1), NONE);
        x = desk("slip 5;offer 5 0", 0);
        rule(x, "take 1");
        rule(x, "take 2");
        rule(x, "take 1 if day = 3");
        due(33, "of several the least", x.look(0), 0);
        due(33, "the most alike", x.look(1), 3);
        rule(x, "take 3");
        rule(x, "take 1 if day = 30");
        rule(x, "take 0");
        due(32, "all six, and none", x.ruled(0), 7);
        due(33, "the day", x.look(0), 0);
        due(33, "the most alike", x.look(1), 4);
        x.note(0, NONE);
        due(33, "on the day that parts two from one", x.look(0), 3);
        due(33, "the most alike", x.look(1), 2);
        x.note(30, 0);
        due(32, "the last day is noted", x.ruled(0), 1);
        due(32, "the last day is noted", x.ruled(1), 4);
        x = desk("slip 99;offer 1 0;offer 2 0;offer 3 0", 0);
        for (int i = 0; i < 6; i++) {
            rule(x, "take offer");
        }
        due(33, "six alike, and none", x.look(0), 0);
        due(33, "the most alike", x.look(1), 6);
    }

    private static void rests() {
        SlipDesk x = desk("slip 90;offer 30 0;offer 30 0;offer 5 0", 2);
        due(29, "how many", x.rests(0, 1, 0), 1);
        due(29, "the first", x.rests(0, 1, 1), 1);
        due(29, "the first", x.rests(0, 1, 2), 1);
        due(29, "unlike", x.rests(0, 0, 0), NONE);
        due(29, "waits", x.rests(0, 2, 0), NONE);
        due(29, "waits", x.rests(2, 0, 0), NONE);
        due(29, "others", x.rests(0, 1, 3), NONE);
        due(29, "others", x.rests(0, 1, -1), NONE);
        // Nothing is short: each has twice what it writes by each more.
        x = desk("slip 999;offer 10 0;offer 20 0", 2);
        due(29, "three times each", x.rests(0, 1, 1), 2);
        due(29, "three times each", x.rests(0, 1, 2), 2);
        // 999 at most, so that to write twice and three times is alike.
        x = desk("slip 1;offer 999 1;offer 999 1", 2);
        due(29, "all alike", x.rests(0, 1, 0), 9);
        due(29, "the first", x.rests(0, 1, 1), 0);
        // 0 has all by writing twice; 1 is out then, and has less the more it writes.
        x = desk("slip 20;offer 10 1;offer 10 1;needs 0 2 10;needs 1 2 10", 2);
        due(29, "out", x.rests(0, 1, 0), 1);
        due(29, "out", x.rests(0, 1, 1), 1);
        due(29, "out", x.rests(0, 1, 2), 0);
        // It is day 2, so that 0 goes out whenever all is settled: it has least to lose by what it writes now.
        x = desk("slip 100;offer 10 0;offer 10 0;needs 0 5 1", 2);
        due(29, "settled", x.rests(0, 1, 0), 1);
        due(29, "settled", x.rests(0, 1, 1), 0);
        due(29, "settled", x.rests(0, 1, 2), 2);
        // 0 stands at once what it writes, else both are signed down: whatever they write, one of them had better not.
        x = desk("slip 110;offer 60 1;offer 40 0", 2);
        due(29, "none", x.rests(0, 1, 0), 0);
        due(29, "none", x.rests(0, 1, 1), -2);
        due(29, "none", x.rests(0, 1, 2), -2);
        // Each order of the two tells the same rests the other way round.
        x = desk("slip 90;offer 30 1;offer 80 0", 2);
        due(29, "0 stands thrice", x.rests(0, 1, 1), 2);
        due(29, "1 as little as it can", x.rests(0, 1, 2), 0);
        due(29, "turned", x.rests(1, 0, 1), 0);
        due(29, "turned", x.rests(1, 0, 2), 2);
    }

    private static void seasons() {
        SlipDesk x = desk("slip 10;offer 10 0", 0);
        due(34, "seed", x.seed(5), 0);
        due(34, "below 0", x.seed(-1), NONE);
        due(34, "seed", x.seed(Integer.MAX_VALUE), 5);
        due(34, "seed", x.seed(0), Integer.MAX_VALUE);
        due(35, "no line on the first day", x.seasons(1, 1, 100, 1), 1);
        due(35, "cancelled", x.seasons(1, 2, 100, 1), 0);
        due(35, "ten times", x.seasons(10, 2, 100, 0), 100);
        due(35, "never", x.seasons(10, 30, 0, 1), 10);
        // From 0: 0, 21468, 9988, 22117, 3498, 16927, ..
        due(35, "88 is not below 88", x.seasons(1, 2, 88, 1), 1);
        due(35, "88 is below 89", x.seasons(1, 2, 89, 1), 0);
        due(35, "the draws go on", x.seasons(2, 2, 50, 1), 1);
        due(35, "x as it was", x.count(13), 0);
        // From 1: 16838, 5758, 10113, ..
        x.seed(1);
        due(35, "38 is not below 38", x.seasons(1, 2, 38, 1), 1);
        due(35, "38 is below 39", x.seasons(1, 2, 39, 1), 0);
        due(35, "nothing stays", x.count(4), 0);
        int[][] bad = {{0, 1, 0, 0}, {11, 1, 0, 0}, {1, 0, 0, 0}, {1, 31, 0, 0}, {1, 1, -1, 0}, {1, 1, 101, 0},
            {1, 1, 0, 2}, {1, 1, 0, -1}};
        for (int[] b : bad) {
            due(35, "others", x.seasons(b[0], b[1], b[2], b[3]), NONE);
        }
        x = desk("slip 10", 0);
        due(35, "no offers", x.seasons(10, 30, 100, 0), 100);
        x = desk(THREE, 1);
        due(35, "from now on", x.seasons(3, 1, 0, 1), 6);
    }

    private static void images() {
        SlipDesk x = new SlipDesk();
        due(37, "no slip", x.image(3), 0);
        due(37, "4", x.image(4), NONE);
        due(37, "-1", x.image(-1), NONE);
        slip(x, THREE);
        rule(x, "take 1");
        x.day();
        x.day();
        x.claim(10);
        x.note(0, 1);
        x.seed(9);
        due(37, "image", x.image(0), 2);
        due(37, "acts stay", x.count(12), 3);
        x.force(0);
        x.seed(8);
        x.note(NONE, 0);
        rule(x, "take 2");
        slip(x, EVEN);
        due(38, "never made", x.back(1), NONE);
        due(38, "4", x.back(4), NONE);
        due(38, "-1", x.back(-1), NONE);
        feed(x, "take");
        due(38, "back", x.back(0), 2);
        int[] counts = {100, 3, 2, NONE, 2, 4, 3, 140, 0, 100, 0, 1, 0, 9, 4};
        for (int what = 0; what < counts.length; what++) {
            due(38, "count " + what, x.count(what), counts[what]);
        }
        due(38, "paid", x.offer(0, 5), 6);
        due(38, "needs", x.need(2, 0, 1), 20);
        due(38, "nothing to undo", x.undo(), NONE);
        due(38, "by its note", x.ruled(0), 0);
        x.day();
        x.cancel(1);
        due(38, "acts", x.count(12), 2);
        x.back(0);
        due(38, "no acts", x.count(12), 0);
        due(38, "nothing to undo", x.undo(), NONE);
        x.day();
        x.image(1);
        due(38, "again", x.back(0), 2);
        due(38, "the other", x.back(1), 3);
        due(38, "no slip", x.back(3), 0);
        due(38, "no slip", x.day(), NONE);
        due(38, "no slip", x.count(1), 0);
        due(31, "no slip", x.note(0, NONE), -2);
        due(31, "none then, without a slip", x.note(NONE, 0), 0);
        due(38, "the rules stay", x.count(2), 2);
        x = desk(EVEN, 3);
        x.cancel(2);
        x.cancel(0);
        x.note(2, 2);
        x.note(0, 0);
        x.image(2);
        slip(x, EVEN);
        x.day();
        x.day();
        x.cancel(1);
        x.cancel(0);
        x.note(1, NONE);
        x.note(1, 2);
        due(32, "by other notes", x.ruled(0), 0);
        due(38, "back", x.back(2), 3);
        due(38, "who went out", x.out(0), 2);
        due(38, "who went out", x.out(1), 0);
        due(38, "the notes", x.ruled(0), 1);
        due(38, "the line", x.line(0), 1);
    }
}
