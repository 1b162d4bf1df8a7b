/** The edges of BEHIND, ORDER, HELPLESS and WORDS (promises 14 to 17), a sentence of the document each. */
public final class ComingEdgesTest {
    private static final int BAD = Checks.BAD, NO = Checks.NO, NONE = Checks.NONE;
    private static final String SIX = Checks.SIX;

    public static void main(String[] args) {
        behindSoManyDays();
        behindNone();
        behindForOneAway();
        behindFromNowOn();
        behindTheStoneOrWhom();
        orderOfThoseThere();
        orderOfOne();
        brownAtLeast();
        finest();
        firstOfSeveral();
        firstAndLastOrder();
        theKth();
        noOrder();
        orderToday();
        helplessHaveBran();
        helplessInAllOrders();
        helplessNobody();
        breadsByWords();
        fewestWords();
        lowestOfSeveral();
        wordsOfOthers();
        wordsSaidInPlace();
        noWords();
        wordsToday();
        Checks.end();
    }

    private static void due(String what, long got, long want) {
        Checks.due(what, got, want);
    }

    private static GroundByHearsay mill(String text) {
        return Checks.mill(text);
    }

    private static void behindSoManyDays() {
        Checks.sentence("BEHIND n DAYS (0 to 60) as all stand");
        // each day 1 less by the one who says 2 less of 0
        GroundByHearsay x = mill("c0;c0;o1,0,1;s9;");
        for (int n = 0; n <= 60; n++) {
            due("stone behind " + n, x.behind(n, -1), Math.max(0, 9 - n));
        }
        for (int n = 1; n <= 60; n++) {
            due("first behind " + n, x.behind(n, 0), Math.max(0, 8 - n));
            due("second behind " + n, x.behind(n, 1), Math.max(0, 9 - n));
        }
        for (int n : new int[] {-1, -60, 61, 62, Integer.MIN_VALUE, Integer.MAX_VALUE}) {
            due("stone behind " + n, x.behind(n, -1), BAD);
            due("first behind " + n, x.behind(n, 0), BAD);
        }
    }

    private static void behindNone() {
        Checks.sentence("how FINE a CUSTOMER had it on the last one (none: n 0, AWAY)");
        GroundByHearsay x = mill("c0;c0;a1;s7;");
        due("the stone as it is", x.behind(0, -1), 7);
        due("no last one", x.behind(0, 0), NONE);
        due("nor for one away", x.behind(0, 1), NONE);
        due("BAD ahead of NONE", x.behind(0, 2), BAD);
        due("-2 is nobody", x.behind(0, -2), BAD);
        due("one", x.behind(1, 0), 7);
        x.day();
        due("a day gone by is none of these", x.behind(0, 0), NONE);
    }

    private static void behindForOneAway() {
        Checks.sentence("(none: .. AWAY)");
        GroundByHearsay x = mill("c0;c0;a1;s7;");
        due("away", x.behind(1, 1), NONE);
        due("for long", x.behind(60, 1), NONE);
        x.away(1);
        due("come", x.behind(1, 1), 7);
        x.away(0);
        due("the other one", x.behind(1, 0), NONE);
        x.away(1);
        due("nobody there", x.behind(60, -1), 7);
    }

    private static void behindFromNowOn() {
        Checks.sentence("BEHIND n DAYS .. as all stand");
        GroundByHearsay x = mill("c0;c0;o1,0,1;s9;");
        for (int d = 1; d <= 9; d++) {
            int stone = x.behind(1, -1);
            int first = x.behind(1, 0);
            due("one is today", x.fine(0, 0), first);
            due("asked, no day goes by", x.count(3), d - 1);
            x.day();
            due("so it is then", x.count(2), stone);
        }
        x.change(0, 1);
        due("by the line as it is", x.behind(60, -1), 0);
        x.say(0, 1, 4);
        due("by the words as they are", x.behind(60, -1), 9);
        due("nine days", x.behind(9, -1), 9);
        due("eight", x.behind(8, -1), 8);
    }

    private static void behindTheStoneOrWhom() {
        Checks.sentence("BEHIND: the STONE (c = -1), how FINE CUSTOMER c had it on the last one (NONE). BAD.");
        for (int many = 1; many <= 6; many++) {
            GroundByHearsay x = mill(SIX.substring(0, 3 * many));
            due("the stone", x.behind(3, -1), 4);
            due("the last of " + many, x.behind(3, many - 1), 4);
            due("no " + many, x.behind(3, many), BAD);
            due("no -2", x.behind(3, -2), BAD);
        }
    }

    private static void orderIs(GroundByHearsay x, int c, int fine, int... row) {
        due("order(" + c + ", 0)", x.order(c, 0), fine);
        for (int k = 1; k <= 6; k++) {
            due("order(" + c + ", " + k + ")", x.order(c, k), k <= row.length ? row[k - 1] : NONE);
        }
    }

    private static void orderOfThoseThere() {
        Checks.sentence("of all orders in which those who are not AWAY can stand today");
        orderIs(mill(SIX + "a0;a2;a4;s4;"), 3, 4, 1, 3, 5);
        orderIs(mill(SIX + "a5;s4;"), 3, 4, 0, 1, 2, 3, 4);
        orderIs(mill("c0;c0;c0;o2,0,6;a2;s4;"), 0, 4, 0, 1);
        orderIs(mill("c0;c0;c0;o2,0,6;a1;s4;"), 0, 7, 0, 2);
    }

    private static void orderOfOne() {
        Checks.sentence("of all orders (of one alone)");
        orderIs(mill("c0;s2;"), 0, 2, 0);
        orderIs(mill("c0;s9;"), 0, 9, 0);
        orderIs(mill("c0;s1;"), 0, NONE);
        orderIs(mill("c0;c0;c0;a0;a2;"), 1, 4, 1);
    }

    private static void brownAtLeast() {
        Checks.sentence("by which each has BROWN at least");
        orderIs(mill("c0;c0;s2;"), 0, 2, 0, 1);
        orderIs(mill("c0;c0;s1;"), 0, NONE);
        // he would have 3 himself, but the other one 1
        orderIs(mill("c0;c0;o1,0,6;s0;"), 0, NONE);
        // and here the other one 2, for the stone is worn ahead of him
        orderIs(mill("c0;c0;o1,0,6;s1;"), 0, 4, 0, 1);
        orderIs(mill("c0;c0;o1,0,6;s1;"), 1, 2, 0, 1);
        // 0 1 2 leaves 1 with 1
        orderIs(mill("c0;c0;c0;o2,0,6;o0,1,0;o2,1,0;s3;"), 0, 6, 0, 2, 1);
        // 7 by 0 1 2 and 0 2 1, but then the second one has 1; 2 0 1 and 2 1 0 leave 2 with 0; 1 2 0 is not as fine
        orderIs(mill("c0;c0;c0;o1,0,6;o2,0,4;o1,2,0;o2,1,0;o0,1,6;s3;"), 0, 4, 1, 0, 2);
    }

    private static void finest() {
        Checks.sentence("that one by which he has it FINEST");
        GroundByHearsay x = mill("c0;c0;c0;o2,0,4;o1,0,5;o0,1,6;s4;");
        orderIs(x, 0, 7, 0, 1, 2);
        // he must stand ahead of 0, the stone as it is
        orderIs(x, 1, 7, 1, 0, 2);
        // worn to 5 and 6 ahead of him
        orderIs(x, 2, 6, 1, 0, 2);
        // 9 at most: nobody has it finer than the first who has 9
        orderIs(mill("c0;c1;c0;o1,0,6;o2,0,6;s4;"), 0, 9, 0, 1, 2);
    }

    private static void firstOfSeveral() {
        Checks.sentence("of several the first (by the first one, then the second, ..)");
        orderIs(mill(SIX), 5, 4, 0, 1, 2, 3, 4, 5);
        orderIs(mill("c0;c0;c0;o0,2,6;s4;"), 2, 7, 1, 2, 0);
        GroundByHearsay x = mill("c0;c0;c0;c0;o1,3,6;s4;");
        orderIs(x, 3, 7, 0, 2, 3, 1);
        x.change(0, 3);
        x.change(1, 2);
        orderIs(x, 3, 7, 0, 2, 3, 1);
    }

    private static void firstAndLastOrder() {
        Checks.sentence("of all orders (the very first, the very last)");
        GroundByHearsay last = mill(SIX + "s2;o0,1,6;o1,2,6;o2,3,6;o3,4,6;o4,5,6;");
        orderIs(last, 0, 7, 5, 4, 3, 2, 1, 0);
        GroundByHearsay first = mill(SIX + "s2;o5,4,6;o4,3,6;o3,2,6;o2,1,6;o1,0,6;");
        orderIs(first, 5, 7, 0, 1, 2, 3, 4, 5);
        due("the last of two", mill("c0;c0;o0,1,6;s1;").order(0, 1), 1);
    }

    private static void theKth() {
        Checks.sentence("the k-th (1 to 6; NONE: there are not so many)");
        for (int many = 1; many <= 6; many++) {
            GroundByHearsay x = mill(SIX.substring(0, 3 * many));
            for (int k = 1; k <= 6; k++) {
                due("k " + k + " of " + many, x.order(0, k), k <= many ? k - 1 : NONE);
            }
            due("k 0", x.order(0, 0), 4);
            due("k 7", x.order(0, 7), BAD);
            due("k -1", x.order(0, -1), BAD);
        }
        GroundByHearsay x = mill(SIX + "a0;a1;");
        due("four there, 4", x.order(2, 4), 5);
        due("four there, 5", x.order(2, 5), NONE);
        due("four there, 7", x.order(2, 7), BAD);
        due("away, 5: NO ahead of NONE", x.order(0, 5), NO);
        due("away, 7: BAD ahead of NO", x.order(0, 7), BAD);
    }

    private static void noOrder() {
        Checks.sentence("ORDER: how FINE .. NONE; BAD; NO: AWAY.");
        GroundByHearsay x = mill("c0;c0;c0;s1;a2;");
        for (int k = 0; k <= 6; k++) {
            due("none, k " + k, x.order(0, k), NONE);
            due("away, k " + k, x.order(2, k), NO);
        }
        due("BAD ahead of NONE", x.order(0, 7), BAD);
        due("BAD ahead of NONE", x.order(3, 0), BAD);
        due("nobody is moved", x.customer(1, 1), 1);
    }

    private static void orderToday() {
        Checks.sentence("in which those who are not AWAY can stand today");
        GroundByHearsay x = mill("c0;c0;o1,0,1;s4;");
        orderIs(x, 0, 4, 1, 0);
        orderIs(x, 1, 4, 1, 0);
        x.day();
        due("stone", x.count(2), 3);
        orderIs(x, 0, 3, 1, 0);
        x.day();
        orderIs(x, 0, 2, 1, 0);
        x.day();
        due("stone", x.count(2), 1);
        orderIs(x, 0, NONE);
    }

    private static void helplessHaveBran() {
        Checks.sentence("HELPLESS: those not AWAY (bits) that have BRAN");
        for (int s = 0; s <= 9; s++) {
            due("all six by " + s, mill(SIX + "s" + s + ";").helpless(), s <= 1 ? 63 : 0);
        }
        due("not those away", mill(SIX + "s1;a0;a5;").helpless(), 30);
        due("one alone", mill("c0;c0;s1;a0;").helpless(), 2);
        due("one alone, brown", mill("c0;c0;s2;a0;").helpless(), 0);
        // 1 ahead of 0: 0 and 1 by stones of 0, 0; 0 ahead of 1: 2 and then 1, or 1 and then 1
        due("brown by 2", mill("c0;c0;o1,0,5;s0;").helpless(), 2);
        due("bran by 1", mill("c0;c0;o1,0,4;s0;").helpless(), 3);
    }

    private static void helplessInAllOrders() {
        Checks.sentence("in all orders in which these can stand");
        // 0 has 2 in the very last order, 5 4 3 2 1 0, and in no other one
        due("helped by the last order", mill("c2;c0;c0;c4;c0;c0;o0,1,2;o0,3,1;o0,4,1;o0,5,0;o1,0,0;o1,2,6;o2,4,1;o3,4,1;"
            + "o3,5,0;o5,4,1;s1;").helpless(), 0);
        // 3 has 2 in the very first order, 0 1 2 3 4 5, and in no other one
        due("helped by the first order", mill(SIX + "o0,3,0;o2,0,0;o2,1,4;o5,0,2;o5,1,0;o5,2,6;o5,4,2;s0;").helpless(),
            1 + 2 + 16 + 32);
        // by none of which all have BROWN
        due("not only those by which each has brown", mill("c0;c0;c0;o1,0,6;s0;").helpless(), 6);
        due("as they don't stand", mill("c0;c0;o0,1,6;s0;").helpless(), 1);
    }

    private static void helplessNobody() {
        Checks.sentence("HELPLESS, as bits. (nobody)");
        due("nobody helpless", new GroundByHearsay().helpless(), 0);
        due("nobody there", mill(SIX + "s0;a0;a1;a2;a3;a4;a5;").helpless(), 0);
        GroundByHearsay x = mill("c0;c0;o1,0,1;s2;");
        due("0 can stand behind 1", x.helpless(), 0);
        x.day();
        due("today", x.helpless(), 3);
    }

    private static void breadsByWords() {
        Checks.sentence("WORDS for a CUSTOMER and a BREAD b (0 to 3) .. that BREAD or a better one today");
        int[] least = {0, 2, 5, 8};
        for (int s = 0; s <= 9; s++) {
            GroundByHearsay x = mill("c0;c0;s" + s + ";");
            for (int b = 0; b <= 3; b++) {
                int fewest = s >= least[b] ? 0 : s + 3 >= least[b] ? 2 : NONE;
                due("bread " + b + " by a stone of " + s, x.words(0, b), fewest);
            }
            due("bread 4", x.words(0, 4), BAD);
            due("bread -1", x.words(0, -1), BAD);
        }
        due("a better one", mill("c0;c1;s0;").words(0, 1), 2);
        due("a better one without", mill("c0;c1;s9;").words(0, 1), 0);
    }

    private static void fewestWords() {
        Checks.sentence("the fewest others");
        GroundByHearsay x = mill("c0;c2;c2;c2;c0;c0;s0;");
        due("none", x.words(0, 0), 0);
        due("one", x.words(0, 1), 2);
        due("two", x.words(0, 2), 2 + 4);
        due("three", x.words(0, 3), 2 + 4 + 8);
        due("one, not the two ahead of it", mill("c0;c2;c2;c1;s0;").words(0, 2), 8);
        due("two, not three", mill("c0;c2;c2;c2;c1;a1;s0;").words(0, 3), 4 + 16);
    }

    private static void lowestOfSeveral() {
        Checks.sentence("of several sets the lowest, as bits");
        due("of three ones", mill("c0;c2;c2;c2;s2;").words(0, 2), 2);
        due("of three twos", mill("c0;c2;c2;c2;s2;").words(0, 3), 2 + 4);
        due("by himself 2", mill("c2;c2;c0;c2;c2;c2;s2;").words(2, 3), 8 + 16);
        GroundByHearsay x = mill("c2;c2;c2;c0;s2;");
        due("none behind him", x.words(3, 2), NONE);
        x.change(0, 3);
        due("0 stands last", x.words(3, 2), 1);
        due("two of 0, 1 and 2", x.words(3, 3), 1 + 2);
        GroundByHearsay six = mill("c0;c0;c0;c0;c0;c1;s0;");
        due("the sixth is not heard", six.words(0, 2), NONE);
        six.change(1, 5);
        due("he is", six.words(0, 2), 32);
    }

    private static void wordsOfOthers() {
        Checks.sentence("the fewest others (not himself, who are HEARD)");
        for (int c = 0; c < 6; c++) {
            int set = mill("c2;c2;c2;c2;c2;c2;s0;").words(c, 1);
            due("of " + c, set, c == 5 ? NONE : 1 << c + 1);
        }
        due("who is away is not heard", mill("c0;c1;c0;s0;a1;").words(0, 1), 4);
        due("nor who is deaf", mill("c0;c3;s0;").words(0, 1), NONE);
        due("nor the fourth", mill("c0;c3;c3;c3;c1;s0;").words(0, 1), NONE);
    }

    private static void wordsSaidInPlace() {
        Checks.sentence("SAID each of these 3 of him");
        due("in place of 3 less", mill("c0;c0;o1,0,0;s4;").words(0, 1), 2);
        due("in place of 3 less, white", mill("c0;c0;o1,0,0;s4;").words(0, 2), 2);
        due("in place of a wit's 3", mill("c0;c4;o1,0,6;s4;").words(0, 1), NONE);
        due("the wit's 0 alone", mill("c0;c4;s4;").words(0, 1), 0);
        // said as much as the nearer wit says, the plain one is silenced; said by both, too
        due("silenced", mill("c0;c4;c0;o1,0,6;o2,0,3;s5;").words(0, 1), 0);
        due("silenced, white", mill("c0;c4;c0;o1,0,6;o2,0,3;s5;").words(0, 2), NONE);
        GroundByHearsay x = mill("c0;c0;o1,0,0;s4;");
        x.words(0, 2);
        due("only asked", x.says(1, 0), 0);
        due("nothing to undo", x.count(6), 0);
    }

    private static void noWords() {
        Checks.sentence("WORDS, as bits. NONE; BAD; NO: AWAY.");
        GroundByHearsay x = mill("c0;c0;s0;a1;");
        due("none", x.words(0, 1), NONE);
        due("bran all the same", x.words(0, 0), 0);
        for (int b = 0; b <= 3; b++) {
            due("away", x.words(1, b), NO);
        }
        due("BAD ahead of NO", x.words(1, 4), BAD);
        due("BAD ahead of NO", x.words(1, -1), BAD);
        due("BAD ahead of NONE", x.words(0, 4), BAD);
        due("no such one", x.words(2, 1), BAD);
    }

    private static void wordsToday() {
        Checks.sentence("that BREAD or a better one today");
        GroundByHearsay x = mill("c0;c0;c0;o1,0,6;o2,1,6;s3;");
        due("7 by a stone of 4", x.fine(1, 0), 7);
        due("he has it", x.words(1, 2), 0);
        due("none for the last one, 5", x.words(2, 3), NONE);
        due("white", x.words(2, 2), 0);
        for (int d = 0; d < 2; d++) {
            x.day();
        }
        due("stone of 7", x.count(2), 7);
        due("wafers then, by 9", x.words(2, 3), 0);
    }
}
