/** Both sides of every boundary that the document names for the tape, slips and rules: the terms, promises 1 to 6. */
public final class BoundaryTextTest {
    private static final int NONE = SlipDesk.NONE;
    private static final int CANNOT_STAND = 0;
    private static final int BAD_NUMBER = 1;
    private static final int TOO_DEEP = 2;
    private static final int TOO_MANY_PARTS = 3;
    private static final int TOO_MANY_CLAUSES = 4;
    private static final String NINE = "slip 1" + Bench.many(9, ";offer 1 0");
    private static final String PAIR = "slip 100;offer 10 0;offer 20 1";
    /** So many bytes in front of what follows "take 1". */
    private static final int TAKE_1 = 6;

    private static final Bench b = new Bench("BoundaryTextTest");

    public static void main(String[] args) {
        newObject();
        calls512();
        feed();
        feedOrder();
        end();
        slipBytes();
        slipClauses();
        slipOrder();
        slipFirst();
        slipOffers();
        slipNeeds();
        slipBegin();
        slipRefused();
        slipInPlace();
        ruleNumbers();
        rulesAnew();
        ruleClauses();
        ruleGrammar();
        numbers();
        words();
        blanks();
        depth();
        parts();
        places();
        force();
        reckoning();
        rounds();
        signs();
        andsAndOrs();
        b.close();
    }

    // ---- promise 1

    private static void newObject() {
        b.says(1, "No SLIP, no RULES, none IN FORCE.");
        SlipDesk x = new SlipDesk();
        b.due("rules", x.count(2), 0);
        b.due("in force", x.count(3), NONE);
        b.due("no slip to pass a day", x.day(), NONE);
        b.due("no rule to force", x.force(0), -2);
        b.due("none was in force", x.force(NONE), NONE);
        b.due("x", x.count(13), 0);
        b.due("an empty tape is no slip", x.slip(), Bench.fault(0, CANNOT_STAND));
        SlipDesk y = b.ruled(PAIR, "take writes", 2);
        b.due("another object has a slip", y.count(1), 2);
        b.due("this one has none yet", x.count(1), 0);
        b.due("nor rules", x.count(2), 0);
    }

    private static void calls512() {
        b.says(1, "An object is used for at most 512 calls after it has been made");
        SlipDesk x = new SlipDesk();
        x.feed(0x736c6970, 0x20353b6f, 0x66666572, 0x20352030, 0);
        b.due("end", x.end(16), 16);
        b.due("slip", x.slip(), 1);
        for (int call = 4; call < 512; call++) {
            x.day();
        }
        b.due("the 512th call", x.count(4), 508);
    }

    // ---- promises 2 and 3

    private static void feed() {
        b.says(2, "how many it has; NONE, and none comes, if it would have more than 400");
        SlipDesk x = new SlipDesk();
        for (int bytes = 20; bytes <= 400; bytes += 20) {
            b.due("feed", x.feed(0x20202020, 0x20202020, 0x20202020, 0x20202020, 0x20202020), bytes);
        }
        b.still(x, "feed at 400", () -> x.feed(0, 0, 0, 0, 0), NONE);
        x.end(399);
        b.still(x, "feed at 399", () -> x.feed(0, 0, 0, 0, 0), NONE);
        x.end(381);
        b.still(x, "feed at 381", () -> x.feed(0, 0, 0, 0, 0), NONE);
        b.due("none came: the blanks go on up to the end", x.slip(), Bench.fault(381, CANNOT_STAND));
        b.due("an empty tape takes bytes again", x.feed(1, 2, 3, 4, 5), 20);
        for (int bytes = 40; bytes <= 400; bytes += 20) {
            x.feed(0, 0, 0, 0, 0);
        }
        x.end(380);
        b.due("feed at 380", x.feed(0, 0, 0, 0, 0), 400);
        x.end(361);
        b.due("feed at 361", x.feed(0, 0, 0, 0, 0), 381);
    }

    private static void feedOrder() {
        b.says(2, "of each number the highest first");
        SlipDesk x = new SlipDesk();
        x.feed(0x736c6970, 0x20312020, 0x3b6f6666, 0x65722032, 0x33342030);
        b.due("slip 1  ;offer 234 0", x.slip(), 1);
        b.due("writes", x.offer(0, 0), 234);
        x.feed(0x736c6970, 0x203780ff, 0, 0, 0);
        b.due("a byte of 128", x.slip(), Bench.fault(6, CANNOT_STAND));
        x.feed(0x736c6970, 0x2037ff80, 0, 0, 0);
        b.due("a byte of 255", x.slip(), Bench.fault(6, CANNOT_STAND));
        x.feed(0xff6c6970, 0x20370000, 0, 0, 0);
        b.due("a number below 0", x.slip(), Bench.fault(0, CANNOT_STAND));
        x.feed(0x736c6970, 0x2037a020, 0, 0, 0);
        b.due("160 is no blank", x.slip(), Bench.fault(6, CANNOT_STAND));
    }

    private static void end() {
        b.says(3, "The TAPE has its first n bytes alone: n; NONE, and nothing happens, if it has not so many, or n is below 0");
        SlipDesk x = new SlipDesk();
        b.due("0 of none", x.end(0), 0);
        b.still(x, "1 of none", () -> x.end(1), NONE);
        Bench.feed(x, "slip 765");
        b.still(x, "9 of 8", () -> x.end(9), NONE);
        b.still(x, "-1", () -> x.end(-1), NONE);
        b.still(x, "the least number of all", () -> x.end(Integer.MIN_VALUE), NONE);
        b.still(x, "the greatest number of all", () -> x.end(Integer.MAX_VALUE), NONE);
        b.due("8 of 8", x.end(8), 8);
        b.due("7 of 8", x.end(7), 7);
        b.still(x, "8 of 7", () -> x.end(8), NONE);
        b.due("the first 7 bytes", x.slip(), 0);
        b.due("slip 76", x.count(0), 76);
        Bench.feed(x, "slip 1;offer 9");
        x.end(6);
        Bench.feed(x, "23");
        b.due("bytes come behind the first 6", x.slip(), 0);
        b.due("slip 123", x.count(0), 123);
        Bench.feed(x, Bench.many(400, " "));
        b.still(x, "401 of 400", () -> x.end(401), NONE);
        b.due("400 of 400", x.end(400), 400);
        b.due("0 of 400", x.end(0), 0);
        b.due("none are left", x.slip(), Bench.fault(0, CANNOT_STAND));
    }

    // ---- promise 4 and the slips of the terms

    private static void slipBytes() {
        b.says(4, "A SLIP is a text of at most 400 bytes");
        b.slipStands("slip 7" + Bench.many(394, " "), 0);
        SlipDesk x = new SlipDesk();
        b.due("slip in the last bytes", Bench.slip(x, Bench.many(393, " ") + "slip 72"), 0);
        b.due("the 400th byte counts", x.count(0), 72);
        b.slipFault(Bench.many(399, " ") + "x", 399, CANNOT_STAND);
        b.slipFault("slip 1;" + Bench.many(393, " "), 400, CANNOT_STAND);
    }

    private static void slipClauses() {
        b.says(4, "CLAUSE { ; CLAUSE }, 40 at most");
        // Its other limits let no slip have more than 22; beyond that each clause is one too many by one of these.
        String most = NINE + Bench.many(12, ";needs 0 0 0");
        b.slipStands(most, 9);
        b.slipFault(most + ";slip 1", 241, TOO_MANY_CLAUSES);
        b.slipFault(most + ";offer 1 0", 241, TOO_MANY_CLAUSES);
        b.slipFault(most + ";needs 0 0 0", 241, TOO_MANY_CLAUSES);
        b.slipFault(most + ";", 241, CANNOT_STAND);
        b.slipFault(most + ";x", 241, CANNOT_STAND);
        b.slipFault("", 0, CANNOT_STAND);
        b.slipFault(";", 0, CANNOT_STAND);
        b.slipFault("slip 1;;offer 1 0", 7, CANNOT_STAND);
        b.slipFault("slip 1:offer 1 0", 6, CANNOT_STAND);
        b.slipFault("slip 1 offer 1 0", 7, CANNOT_STAND);
    }

    private static void slipOrder() {
        b.says(4, "slip NUMBER (ORDER 1 to 999");
        b.slipFault("slip 0", 5, BAD_NUMBER);
        b.slipStands("slip 1", 0);
        b.due("order", b.desk("slip 1", 0).count(0), 1);
        b.slipStands("slip 999", 0);
        b.due("order", b.desk("slip 999", 0).count(0), 999);
        b.slipFault("slip 1000", 5, BAD_NUMBER);
        b.slipFault("slip 99999", 5, BAD_NUMBER);
        b.slipFault("slip", 4, CANNOT_STAND);
        b.slipFault("slip 1 2", 7, CANNOT_STAND);
        b.slipFault("slip offer", 5, CANNOT_STAND);
    }

    private static void slipFirst() {
        b.says(4, "once, the first CLAUSE");
        b.slipStands("slip 1;offer 1 0", 1);
        b.slipFault("offer 1 0;slip 1", 0, TOO_MANY_CLAUSES);
        b.slipFault("  needs 0 0 0;slip 1", 2, TOO_MANY_CLAUSES);
        b.slipFault("slip 1;slip 1", 7, TOO_MANY_CLAUSES);
        b.slipFault("slip 1;offer 1 0; slip 1", 18, TOO_MANY_CLAUSES);
        b.slipFault("take 1", 0, CANNOT_STAND);
    }

    private static void slipOffers() {
        b.says(4, "offer NUMBER NUMBER (WRITES 1 to 999; 1: its LINE is to STAND, 0: not)");
        b.slipFault("slip 1;offer 0 0", 13, BAD_NUMBER);
        b.slipFault("slip 1;offer 1000 0", 13, BAD_NUMBER);
        b.slipFault("slip 1;offer 1 2", 15, BAD_NUMBER);
        b.slipFault("slip 1;offer 999 2", 17, BAD_NUMBER);
        b.slipFault("slip 1;offer", 12, CANNOT_STAND);
        b.slipFault("slip 1;offer 1", 14, CANNOT_STAND);
        b.slipFault("slip 1;offer 1 0 0", 17, CANNOT_STAND);
        SlipDesk x = b.desk("slip 1;offer 1 0;offer 999 1", 0);
        int[][] told = {{1, 0}, {999, 1}};
        for (int o = 0; o < 2; o++) {
            b.due("writes of " + o, x.offer(o, 0), told[o][0]);
            b.due("stands of " + o, x.offer(o, 1), told[o][1]);
        }
        b.says(4, "OFFERS 0 to 8; a tenth OFFER");
        b.slipStands("slip 1", 0);
        b.slipStands(NINE, 9);
        b.slipFault(NINE + ";offer 1 0", 97, TOO_MANY_CLAUSES);
        b.slipFault(NINE + " ;  offer", 100, TOO_MANY_CLAUSES);
        b.due("the ninth is there", b.desk(NINE, 0).offer(8, 0), 1);
        b.due("no tenth is", b.desk(NINE, 0).offer(9, 0), NONE);
    }

    private static void slipNeeds() {
        b.says(4, "needs NUMBER NUMBER NUMBER (an OFFER that was told; KIND 0 to 5; N 0 to 999)");
        b.slipFault("slip 1;needs 0 0 0", 13, BAD_NUMBER);
        b.slipFault("slip 1;needs 0 0 0;offer 1 0", 13, BAD_NUMBER);
        b.slipStands("slip 1;offer 1 0;needs 0 0 0", 1);
        b.slipFault("slip 1;offer 1 0;needs 1 0 0", 23, BAD_NUMBER);
        b.slipFault("slip 1;offer 1 0;needs 1 0 0;offer 1 0", 23, BAD_NUMBER);
        b.slipStands("slip 1;offer 1 0;offer 1 0;needs 1 0 0", 2);
        b.slipStands(NINE + ";needs 8 0 0", 9);
        b.slipFault(NINE + ";needs 9 0 0", 103, BAD_NUMBER);
        for (int kind = 0; kind <= 5; kind++) {
            b.due("kind " + kind, b.desk("slip 1;offer 1 0;needs 0 " + kind + " 0", 0).need(0, 0, 0), kind);
        }
        b.slipFault("slip 1;offer 1 0;needs 0 6 0", 25, BAD_NUMBER);
        b.due("N 0", b.desk("slip 1;offer 1 0;needs 0 0 0", 0).need(0, 0, 1), 0);
        b.due("N 999", b.desk("slip 1;offer 1 0;needs 0 1 999", 0).need(0, 0, 1), 999);
        b.slipFault("slip 1;offer 1 0;needs 0 0 1000", 27, BAD_NUMBER);
        b.slipFault("slip 1;offer 1 0;needs 0 1", 26, CANNOT_STAND);
        b.slipFault("slip 1;offer 1 0;needs 0", 24, CANNOT_STAND);
        b.slipFault("slip 1;offer 1 0;needs", 22, CANNOT_STAND);
        b.slipFault("slip 1;offer 1 0;needs 0 1 2 3", 29, CANNOT_STAND);
        b.says(4, "NEEDS 12 at most; a 13th of needs (at its first byte)");
        b.slipStands("slip 1;offer 1 0" + Bench.many(12, ";needs 0 0 0"), 1);
        b.slipFault("slip 1;offer 1 0" + Bench.many(12, ";needs 0 0 0") + "; needs", 162, TOO_MANY_CLAUSES);
        b.slipFault(NINE + Bench.many(6, ";needs 0 0 0;needs 8 0 0") + ";needs 4 0 0", 241, TOO_MANY_CLAUSES);
        b.says(4, "in the order told");
        SlipDesk x = b.desk("slip 1;offer 1 0;offer 2 0;needs 1 0 7;needs 0 2 8;needs 1 5 6", 0);
        b.due("first told", x.need(1, 0, 1), 7);
        b.due("told behind it", x.need(1, 1, 1), 6);
        b.due("of the other", x.need(0, 0, 1), 8);
    }

    private static void slipBegin() {
        b.says(4, "It is DAY 0; all OFFERS WAIT; nothing is PAID.");
        SlipDesk x = b.desk(NINE, 9);
        x.claim(9999);
        x.cancel(0);
        Bench.slip(x, NINE);
        b.due("day", x.count(4), 0);
        b.due("waiting", x.count(5), 511);
        b.due("lines", x.count(6), 0);
        b.due("out", x.count(10), 0);
        b.due("placed", x.count(7), 0);
        b.due("short", x.count(8), 1);
        b.due("signed", x.count(9), 0);
        for (int o = 0; o < 9; o++) {
            b.due("paid by " + o, x.offer(o, 5), 0);
            b.due("signed by " + o, x.offer(o, 4), 0);
        }
    }

    private static void slipRefused() {
        b.says(4, "-2 - its FAULT, and all stays");
        SlipDesk x = b.ruled("slip 30;offer 10 0;offer 20 1;needs 1 0 5", "take writes", 2);
        x.note(0, 1);
        x.seed(5);
        x.claim(9);
        x.cancel(0);
        String before = Bench.seen(x);
        String[] faults = {"", "slip 0", "slip 5;offer 7 0;offer 8 0;offer 9 1;needs 2 3 4;", NINE + ";offer 1 0"};
        int[] due = {Bench.fault(0, 0), Bench.fault(5, 1), Bench.fault(49, 0), Bench.fault(97, 4)};
        for (int i = 0; i < faults.length; i++) {
            b.due("slip of " + faults[i], Bench.slip(x, faults[i]), due[i]);
            b.dueText("what is seen", Bench.seen(x), before);
        }
        b.due("undo goes on", x.undo(), 3);
        b.due("it is a line again", x.offer(0, 3), 1);
        b.says(4, "The TAPE, which is empty then");
        Bench.feed(x, "slip 1");
        b.due("slip", x.slip(), 0);
        b.due("bytes behind a slip", x.count(14), 0);
        Bench.feed(x, "slip 1;");
        b.due("fault", x.slip(), Bench.fault(7, 0));
        b.due("bytes behind a fault", x.count(14), 0);
        Bench.feed(x, "slip 2");
        b.due("nothing is left of it", x.slip(), 0);
    }

    private static void slipInPlace() {
        b.says(4, "in place of the one there was (no NOTES, nothing to be UNDONE; the RULE IN FORCE and x stay)");
        SlipDesk x = b.ruled(PAIR, "take writes", 2);
        x.note(0, 0);
        x.seed(2147483647);
        x.image(2);
        b.due("how many offers", Bench.slip(x, "slip 5;offer 6 0"), 1);
        b.due("order", x.count(0), 5);
        b.due("notes", x.count(11), 0);
        b.due("to be undone", x.count(12), 0);
        b.still(x, "undo", x::undo, NONE);
        b.due("in force", x.count(3), 0);
        b.due("x", x.count(13), 2147483647);
        b.due("no offer 1 any more", x.offer(1, 0), NONE);
        b.due("the image stays", x.back(2), 2);
        b.due("its offers", x.count(1), 2);
        b.says(4, "OFFERS 0 to 8, NEEDS 12 at most, in the order told");
        String most = NINE + Bench.many(12, ";needs 0 3 7");
        for (int i = 0; i < 3; i++) {
            b.due("nine offers, twelve needs", Bench.slip(x, most), 9);
            b.due("needs", x.offer(0, 2), 12);
            b.due("one need too many", Bench.slip(x, most + ";needs 0 0 0"), Bench.fault(241, TOO_MANY_CLAUSES));
        }
        b.due("one offer", Bench.slip(x, "slip 1;offer 1 0"), 1);
        b.due("no needs", x.offer(0, 2), 0);
        b.due("no needs", x.need(0, 0, 0), NONE);
        b.due("one need", Bench.slip(x, "slip 1;offer 1 0;needs 0 4 6"), 1);
        b.due("one need", x.offer(0, 2), 1);
        b.due("its N", x.need(0, 0, 1), 6);
    }

    // ---- promise 5 and the rules of the terms

    private static void ruleNumbers() {
        b.says(5, "its number; NONE, and nothing happens: there are 6");
        SlipDesk x = b.desk("slip 9;offer 1 0;offer 2 0;offer 3 0", 0);
        for (int i = 0; i < 6; i++) {
            b.due("rule", Bench.rule(x, "take " + i + "+offer"), i);
            b.due("rules", x.count(2), i + 1);
        }
        Bench.feed(x, "slip 8;offer 4 1");
        b.still(x, "a seventh", x::rule, NONE);
        b.due("the tape is as it was", x.slip(), 1);
        b.due("order", x.count(0), 8);
        b.still(x, "a seventh of an empty tape", x::rule, NONE);
        b.says(5, "The TAPE, which is empty then, is a RULE: its number; -2 - its FAULT");
        SlipDesk y = b.desk(PAIR, 0);
        Bench.feed(y, "take");
        b.due("fault", y.rule(), Bench.fault(4, 0));
        b.due("bytes behind a fault", y.count(14), 0);
        b.due("no rule by it", y.count(2), 0);
        b.due("nor can it be in force", y.force(0), -2);
        Bench.feed(y, "take offer");
        b.due("rule", y.rule(), 0);
        b.due("bytes behind a rule", y.count(14), 0);
        b.due("none is in force by being told", y.count(3), NONE);
        y.force(0);
        b.due("it is the second one that rules", y.day(), 1);
    }

    private static void rulesAnew() {
        b.says(5, "texts likewise, 12 CLAUSES at most; at most 60 VALUES (of SUMS) and FACTS made of a SIGN, together");
        SlipDesk x = b.desk("slip 99;offer 1 0;offer 2 0;offer 3 0;offer 4 0", 0);
        String sixty = "take 0" + Bench.many(58, "+0") + "+";
        String twelve = Bench.many(11, "take 9 if 1=0;");
        b.due("sixty values", Bench.rule(x, sixty + "writes"), 0);
        b.due("61", Bench.rule(x, sixty + "writes+1"), Bench.fault(130, TOO_MANY_PARTS));
        b.due("sixty values", Bench.rule(x, sixty + "offer"), 1);
        b.due("13 clauses", Bench.rule(x, twelve + "take 9;take 9"), Bench.fault(161, TOO_MANY_CLAUSES));
        b.due("twelve clauses", Bench.rule(x, twelve + "take 9-writes"), 2);
        b.due("thirteen clauses", Bench.rule(x, "take 3;" + twelve + "take 9"), Bench.fault(161, TOO_MANY_CLAUSES));
        b.due("twelve clauses", Bench.rule(x, twelve + "take 1 if offer=1"), 3);
        int[] taken = {3, 2, 0, 1};
        for (int i = 0; i < 4; i++) {
            x.force(i);
            b.due("day by rule " + i, x.day(), taken[i]);
        }
        b.says(5, "-2 - its FAULT");
        SlipDesk y = b.desk(PAIR, 0);
        for (int i = 0; i < 9; i++) {
            b.due("a long fault", Bench.rule(y, sixty + "1;take"), Bench.fault(129, CANNOT_STAND));
        }
        b.due("a fault behind a clause", Bench.rule(y, "take 0*0 if 1=1;x"), Bench.fault(16, CANNOT_STAND));
        b.due("a rule", Bench.rule(y, "take writes"), 0);
        y.force(0);
        b.due("nothing is left of what had faults", y.day(), 1);
        b.due("a fault behind two clauses", Bench.rule(y, "take 0;take 5;x"), Bench.fault(14, CANNOT_STAND));
        b.due("a rule", Bench.rule(y, "take 5 if 1=0"), 1);
        y.force(1);
        b.due("nothing is left of what had faults", y.day(), -2);
    }

    private static void ruleClauses() {
        b.says(5, "12 CLAUSES at most; one CLAUSE too many");
        String eleven = Bench.many(11, "take 1 if 1=0;");
        b.due("the twelfth counts", b.ruled(PAIR, eleven + "take 1", 0).day(), 0);
        b.due("none of eleven holds", b.ruled(PAIR, eleven.substring(0, 153), 0).day(), -2);
        b.due("none of twelve holds", b.ruled(PAIR, eleven + "take 1 if 1=0", 0).day(), -2);
        b.ruleStands("take 1" + Bench.many(11, ";take 1"));
        b.ruleFault("take 1" + Bench.many(12, ";take 1"), 84, TOO_MANY_CLAUSES);
        b.ruleFault("take 1" + Bench.many(11, ";take 1") + ";  take", 86, TOO_MANY_CLAUSES);
        b.ruleFault("take 1" + Bench.many(11, ";take 1") + ";", 84, CANNOT_STAND);
        b.ruleFault("take 1" + Bench.many(11, ";take 1") + ";tak", 84, CANNOT_STAND);
        b.ruleFault("", 0, CANNOT_STAND);
        b.says(5, "texts likewise");
        b.ruleStands("take 1" + Bench.many(394, " "));
        b.due("the 400th byte counts", b.ruled(PAIR, Bench.many(388, " ") + "take 1+offer", 0).day(), 1);
        b.ruleFault("take 1 +" + Bench.many(392, " "), 400, CANNOT_STAND);
        b.ruleFault("take 1" + Bench.many(393, " ") + "+", 400, CANNOT_STAND);
    }

    private static void ruleGrammar() {
        b.says(5, "take SUM [ if TEST ]");
        b.ruleFault("take", 4, CANNOT_STAND);
        b.ruleFault("take if 1=1", 5, CANNOT_STAND);
        b.ruleFault("take 1 if", 9, CANNOT_STAND);
        b.ruleFault("take 1 if ;", 10, CANNOT_STAND);
        b.ruleFault("take 1 if 1=1 if 1=1", 14, CANNOT_STAND);
        b.ruleFault("slip 1", 0, CANNOT_STAND);
        b.says(5, "[ TEST ] (these brackets are signs)");
        b.ruleStands("take 1 if [1=1]");
        b.ruleFault("take 1 if []", 11, CANNOT_STAND);
        b.ruleFault("take 1 if [1=1", 14, CANNOT_STAND);
        b.ruleFault("take 1 if 1=1]", 13, CANNOT_STAND);
        b.ruleFault("take 1 if [1=1]]", 15, CANNOT_STAND);
        b.ruleFault("take 1 if [1]=1", 12, CANNOT_STAND);
        b.ruleFault("take 1 if [1=1]=1", 15, CANNOT_STAND);
        b.ruleFault("take [1]", 5, CANNOT_STAND);
        b.says(5, "SIGN one of < <= = >= >");
        String[] signs = {"<", "<=", "=", ">=", ">"};
        for (String sign : signs) {
            b.ruleStands("take 1 if 1" + sign + "1");
        }
        b.ruleFault("take 1 if 1=<1", 12, CANNOT_STAND);
        b.ruleFault("take 1 if 1=>1", 12, CANNOT_STAND);
        b.ruleFault("take 1 if 1< =1", 13, CANNOT_STAND);
        b.ruleFault("take 1 if 1<==1", 13, CANNOT_STAND);
        b.ruleFault("take 1 if 1!1", 11, CANNOT_STAND);
        b.ruleFault("take 1 if 1", 11, CANNOT_STAND);
        b.ruleFault("take 1 if 1=", 12, CANNOT_STAND);
        b.ruleFault("take 1 if =1", 10, CANNOT_STAND);
        b.ruleFault("take 1 if 1=1=1", 13, CANNOT_STAND);
    }

    private static void numbers() {
        b.says(5, "NUMBER (1 to 5 digits, as far as digits go on)");
        b.ruleStands("take 7");
        b.ruleStands("take 99999");
        b.ruleStands("take 00000");
        b.ruleFault("take ", 5, CANNOT_STAND);
        b.ruleFault("take 100000", 5, BAD_NUMBER);
        b.ruleFault("take 000000", 5, BAD_NUMBER);
        b.ruleFault("take 1 if 1=000001", 12, BAD_NUMBER);
        b.ruleFault("take " + Bench.many(395, "9"), 5, BAD_NUMBER);
        b.ruleFault("take 123 45", 9, CANNOT_STAND);
        b.ruleFault("take 12345 6", 11, CANNOT_STAND);
        b.ruleFault("take -1", 5, CANNOT_STAND);
        b.ruleFault("take 1.5", 6, CANNOT_STAND);
        b.ruleFault("take /", 5, CANNOT_STAND);
        b.ruleFault("take :", 5, CANNOT_STAND);
        b.slipStands("slip 00001", 0);
        b.slipStands("slip 00999", 0);
        b.slipFault("slip 000001", 5, BAD_NUMBER);
        b.slipFault("slip 01000", 5, BAD_NUMBER);
        b.slipFault("slip 1;offer 00001 000000", 19, BAD_NUMBER);
        b.slipStands("slip 1;offer 00001 00000;needs 00000 00005 00999", 1);
        b.slipFault("slip 1;offer 000001 0", 13, BAD_NUMBER);
        b.slipFault("slip 1;offer 1 0;needs 000000 0 0", 23, BAD_NUMBER);
        b.slipFault("slip 1;offer 1 0;needs 0 000000 0", 25, BAD_NUMBER);
        b.slipFault("slip 1;offer 1 0;needs 0 0 000000", 27, BAD_NUMBER);
        b.slipFault("slip 4294967297", 5, BAD_NUMBER);
        b.due("five digits count", b.ruled(PAIR, "take 12345 - 12344", 0).day(), 0);
        b.due("99999", b.ruled(PAIR, "take 99999 - 99998", 0).day(), 0);
        b.due("the first digit counts", b.ruled(PAIR, "take 20000 - 10001 - 9999", 0).day(), -2);
    }

    private static void words() {
        b.says(5, "WORDS (small letters, as far as these go on)");
        String[] words = {"offer", "writes", "stands", "needs", "lines", "placed", "order", "short", "waiting", "gone",
            "day"};
        for (String word : words) {
            b.ruleStands("take " + word);
            b.ruleFault("take " + word + "s", 5, CANNOT_STAND);
            b.ruleFault("take " + word.substring(0, word.length() - 1), 5, CANNOT_STAND);
            b.ruleFault("take " + Character.toUpperCase(word.charAt(0)) + word.substring(1), 5, CANNOT_STAND);
        }
        String[] others = {"slip", "take", "if", "and", "or", "not", "a", "z"};
        for (String word : others) {
            b.ruleFault("take " + word, 5, CANNOT_STAND);
        }
        b.ruleFault("takewrites", 0, CANNOT_STAND);
        b.ruleStands("take1");
        b.ruleFault("take writes2", 11, CANNOT_STAND);
        b.ruleFault("take 2writes", 6, CANNOT_STAND);
        b.ruleFault("take 1 iff 1=1", 7, CANNOT_STAND);
        b.ruleFault("take 1 if 1=1 andnot 1=1", 14, CANNOT_STAND);
        b.ruleFault("take 1 if nott 1=1", 10, CANNOT_STAND);
        b.ruleFault("take `", 5, CANNOT_STAND);
        b.ruleFault("take {", 5, CANNOT_STAND);
        b.slipFault("slipp 1", 0, CANNOT_STAND);
        b.slipFault("sli 1", 0, CANNOT_STAND);
        b.slipFault("slip 1;offers 1 0", 7, CANNOT_STAND);
        b.slipFault("slip 1;writes 1 0", 7, CANNOT_STAND);
        b.slipFault("slip 1;offer 1 0;need 0 0 0", 17, CANNOT_STAND);
    }

    private static void blanks() {
        b.says(5, "Blanks (32) stand between as one likes.");
        b.ruleStands("take1if1=1or[not2<3and4>=5];take2");
        b.ruleStands("   take   1   if   1   =   1   or   [   not   2   <=   3   ]   ;   take   2   ");
        b.slipStands("slip1;offer2 0;needs0 0 0", 1);
        b.slipStands("   slip   1   ;   offer   2   0   ;   needs   0   0   0   ", 1);
        b.slipFault("slip\t1", 4, CANNOT_STAND);
        b.slipFault("slip 1\n", 6, CANNOT_STAND);
        b.slipFault("slip 1\0", 6, CANNOT_STAND);
        b.slipFault("slip\u001f1", 4, CANNOT_STAND);
        b.slipFault("slip!1", 4, CANNOT_STAND);
        b.ruleFault("ta ke 1", 0, CANNOT_STAND);
        b.ruleFault("take 1 2", 7, CANNOT_STAND);
        b.ruleFault("take 1 if 1 > = 1", 14, CANNOT_STAND);
    }

    private static void depth() {
        b.says(5, "[ and not lie within one another 10 deep at most; too deep (at the sign that opens, or the word not)");
        b.ruleStands("take 1 if " + Bench.many(10, "[") + "1=1" + Bench.many(10, "]"));
        b.ruleFault("take 1 if " + Bench.many(11, "[") + "1=1" + Bench.many(11, "]"), 20, TOO_DEEP);
        b.ruleStands("take 1 if " + Bench.many(10, "not ") + "1=1");
        b.ruleFault("take 1 if " + Bench.many(11, "not ") + "1=1", 50, TOO_DEEP);
        b.ruleStands("take 1 if " + Bench.many(5, "not[") + "1=1" + Bench.many(5, "]"));
        b.ruleFault("take 1 if " + Bench.many(5, "not[") + "not 1=1", 30, TOO_DEEP);
        b.ruleFault("take 1 if " + Bench.many(5, "not[") + "[1=1", 30, TOO_DEEP);
        b.ruleFault("take 1 if " + Bench.many(10, "[") + "1=1 and  not 1=1", 29, TOO_DEEP);
        b.ruleFault("take 1 if " + Bench.many(10, "[") + "1=1 or [1=1", 27, TOO_DEEP);
        b.ruleFault("take 1 if " + Bench.many(10, "["), 20, CANNOT_STAND);
        String deep = Bench.many(10, "[") + "1=1" + Bench.many(10, "]");
        b.ruleStands("take 1 if " + deep + " and " + deep + " or not 1=1;take 1 if " + deep);
        b.ruleStands("take 1 if not 1=1" + Bench.many(12, " and not 1=1"));
        b.ruleStands("take 1 if [1=1]" + Bench.many(12, " or [1=1]"));
        b.ruleFault("take 1 if not [" + Bench.many(8, "[") + "1=1" + Bench.many(8, "]") + "and " + Bench.many(8, "[")
                + "not 1=1", 46, TOO_DEEP);
        b.due("ten times not", b.ruled(PAIR, "take 1 if " + Bench.many(10, "not ") + "stands=1", 0).day(), 1);
        b.due("nine times not", b.ruled(PAIR, "take 1 if " + Bench.many(9, "not ") + "stands=1", 0).day(), 0);
    }

    private static void parts() {
        b.says(5, "at most 60 VALUES (of SUMS) and FACTS made of a SIGN, together");
        b.ruleStands("take 1" + Bench.many(59, "+1"));
        b.ruleStands("take 1" + Bench.many(56, "*1") + " if 1=1");
        b.ruleStands("take 1 if 1=1" + Bench.many(18, " and 1=1") + ";take 1;take 1");
        b.ruleStands("take 1" + Bench.many(56, "-1") + " if not [not 1=1]");
        b.ruleStands("take 1" + Bench.many(56, "/1") + ";take day % 1+1");
        b.due("sixty values count", b.ruled(PAIR, "take 0" + Bench.many(58, "+0") + "+offer", 0).day(), 1);
        b.says(5, "one VALUE or FACT too many (at its first byte; of a FACT at its SIGN)");
        b.ruleFault("take 1" + Bench.many(60, "+1"), TAKE_1 + 119, TOO_MANY_PARTS);
        b.ruleFault("take 1" + Bench.many(59, "+1") + " +  writes", TAKE_1 + 122, TOO_MANY_PARTS);
        b.ruleFault("take 1" + Bench.many(57, "+1") + " if 1=writes", TAKE_1 + 120, TOO_MANY_PARTS);
        b.ruleFault("take 1" + Bench.many(58, "+1") + " if 1  <= 1", TAKE_1 + 123, TOO_MANY_PARTS);
        b.ruleFault("take 1" + Bench.many(59, "+1") + " if not [1=1", TAKE_1 + 127, TOO_MANY_PARTS);
        b.ruleFault("take 1" + Bench.many(59, "+1") + ";take 1", TAKE_1 + 124, TOO_MANY_PARTS);
        b.ruleFault("take 1 if 1=1" + Bench.many(18, " and 1=1") + " and 22>3", 165, TOO_MANY_PARTS);
        b.says(5, "Of one place the least.");
        b.ruleFault("take 1" + Bench.many(59, "+1") + "+123456", TAKE_1 + 119, BAD_NUMBER);
        b.ruleFault("take 1" + Bench.many(59, "+1") + "+write", TAKE_1 + 119, CANNOT_STAND);
        b.ruleFault("take 1" + Bench.many(59, "+1") + "+", TAKE_1 + 119, CANNOT_STAND);
        b.ruleFault("take 1" + Bench.many(58, "+1") + " if 1;", TAKE_1 + 121, CANNOT_STAND);
        b.slipFault(NINE + ";offe 1 0", 97, CANNOT_STAND);
        b.slipFault("x;slip 1", 0, CANNOT_STAND);
    }

    private static void places() {
        b.says(5, "FAULTS, the first along the text, 1 + 8 * its place");
        b.slipFault("slip 0;offer 0 0;slip", 5, BAD_NUMBER);
        b.slipFault("slip 1;offer 0 7;x", 13, BAD_NUMBER);
        b.slipFault("slip 1;offer 1 7;x", 15, BAD_NUMBER);
        b.slipFault("slip 1;slip 0", 7, TOO_MANY_CLAUSES);
        b.slipFault("offer 0 0", 0, TOO_MANY_CLAUSES);
        b.ruleFault("take 123456 if x", 5, BAD_NUMBER);
        b.ruleFault("take 1 if 1=x and 123456=1", 12, CANNOT_STAND);
        b.ruleFault("x", 0, CANNOT_STAND);
        b.says(5, "or the end (behind the last byte)");
        b.slipFault("", 0, CANNOT_STAND);
        b.slipFault(" ", 1, CANNOT_STAND);
        b.slipFault("slip", 4, CANNOT_STAND);
        b.slipFault("slip   ", 7, CANNOT_STAND);
        b.slipFault("slip 1;", 7, CANNOT_STAND);
        b.ruleFault("take 1 +", 8, CANNOT_STAND);
        b.ruleFault("take 1 if not ", 14, CANNOT_STAND);
    }

    // ---- promise 6

    private static void force() {
        b.says(6, "A RULE is IN FORCE (NONE: none): which was; -2, and nothing happens, if there is none such");
        SlipDesk x = b.desk(PAIR, 0);
        b.still(x, "0 of none", () -> x.force(0), -2);
        b.due("none", x.force(NONE), NONE);
        Bench.rule(x, "take 1");
        b.still(x, "1 of one", () -> x.force(1), -2);
        b.due("0 of one", x.force(0), NONE);
        b.due("0 again", x.force(0), 0);
        b.still(x, "1 of one", () -> x.force(1), -2);
        b.still(x, "-2", () -> x.force(-2), -2);
        for (int i = 1; i < 6; i++) {
            Bench.rule(x, "take 1");
        }
        b.due("5 of six", x.force(5), 0);
        b.still(x, "6 of six", () -> x.force(6), -2);
        b.still(x, "the greatest number of all", () -> x.force(Integer.MAX_VALUE), -2);
        b.still(x, "the least number of all", () -> x.force(Integer.MIN_VALUE), -2);
        b.due("none", x.force(NONE), 5);
        b.due("in force", x.count(3), NONE);
        SlipDesk y = new SlipDesk();
        Bench.rule(y, "take 1");
        b.due("without a slip", y.force(0), NONE);
        b.due("in force", y.count(3), 0);
    }

    // ---- how rules reckon

    private static void takes(String rule, int offer) {
        b.due("day by " + rule, b.ruled(PAIR, rule, 0).day(), offer);
    }

    private static void reckoning() {
        // 2 to the 64th less 49, so that it goes round to -49.
        String less49 = "1221*37241*1039*6323*61751";
        b.says(11, "/ is towards 0");
        takes("take 7/2-2", 0);
        takes("take 7/2-3", -2);
        takes("take " + less49 + "/2+25", 0);
        takes("take " + less49 + "/2+24", -2);
        b.says(11, "% its rest");
        takes("take 7%2", 0);
        takes("take 8%2", -2);
        takes("take " + less49 + "%10+10", 0);
        takes("take " + less49 + "%10+9", -2);
        b.says(11, "both 0 by 0");
        takes("take 7/0", -2);
        takes("take 7/0+1", 0);
        takes("take 7/1", 0);
        takes("take 7%0", -2);
        takes("take 7%0+1", 0);
        takes("take 7%2", 0);
        takes("take 7/lines+stands", 1);
        takes("take 7%lines+stands", 1);
        b.says(11, "TERM: VALUE { (* or / or %) VALUE }; SUM: TERM { (+ or -) TERM }");
        takes("take 9-4-4", 0);
        takes("take 9-4-5", -2);
        takes("take 100/10/10", 0);
        takes("take 100/10/11", -2);
        takes("take 2*3%4-1", 0);
        takes("take 2+3*4-13", 0);
        takes("take 2+3*4-14", -2);
    }

    private static void rounds() {
        b.says(11, "all goes round in 64 bits");
        String half = "65536*65536*65536*32768";
        takes("take " + half, -2);
        takes("take " + half + "-1", 0);
        takes("take " + half + "/65536", -2);
        takes("take 65536*65536*65536*65536", -2);
        takes("take 65536*65536*65536*65536+1", 0);
        takes("take 65536*65536*32767*65536", 0);
        takes("take 0-" + half, -2);
        takes("take 0-" + half + "-1", 0);
        takes("take 1 if " + half + "<0", 0);
        takes("take 1 if " + half + "-1>0", 0);
        takes("take 65536*65536+offer", 1);
        takes("take 65536*65536-offer", 0);
        takes("take 65536*32768", 0);
        takes("take 1 if 65536*65536=0", -2);
    }

    private static void signs() {
        b.says(11, "SUM SIGN SUM, SIGN one of < <= = >= >");
        String[] signs = {"<", "<=", "=", ">=", ">"};
        boolean[][] holds = {{true, false, false}, {true, true, false}, {false, true, false}, {false, true, true},
            {false, false, true}};
        for (int s = 0; s < signs.length; s++) {
            for (int n = 4; n <= 6; n++) {
                takes("take 1 if " + n + signs[s] + "5", holds[s][n - 4] ? 0 : -2);
            }
        }
        takes("take 1 if 0-1<0", 0);
        takes("take 1 if 0-1>0", -2);
    }

    private static void andsAndOrs() {
        b.says(11, "TEST: PART { or PART }. PART: FACT { and FACT }. FACT: not FACT | [ TEST ]");
        String[] facts = {"1=0", "1=1"};
        for (int i = 0; i < 8; i++) {
            String p = facts[i & 1];
            String q = facts[i >> 1 & 1];
            String r = facts[i >> 2];
            boolean a = (i & 1) == 1;
            boolean c = (i >> 1 & 1) == 1;
            boolean d = i >> 2 == 1;
            takes("take 1 if " + p + " or " + q + " and " + r, a || c && d ? 0 : -2);
            takes("take 1 if " + p + " and " + q + " or " + r, a && c || d ? 0 : -2);
            takes("take 1 if [" + p + " or " + q + "] and " + r, (a || c) && d ? 0 : -2);
            takes("take 1 if not " + p + " and " + q + " or not " + r, !a && c || !d ? 0 : -2);
            takes("take 1 if not [" + p + " or " + q + "] or " + r, !(a || c) || d ? 0 : -2);
        }
        b.says(11, "the SUM of the RULE IN FORCE's first CLAUSE without a TEST, or whose TEST holds (0 without)");
        takes("take 5-offer;take 5+offer", 0);
        takes("take 5-offer if 1=0;take 5+offer", 1);
        takes("take 5-offer if 1=1;take 5+offer", 0);
        takes("take 5 if 1=0;take 5 if 1=0", -2);
        takes("take 0;take 5", -2);
        takes("take 0 if stands=1;take 5", 0);
        takes("take 0 if stands=0;take 5", 1);
    }
}
