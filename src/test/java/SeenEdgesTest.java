/** The edges of what is SEEN, CHANCE, YEARS, KEPT and counts (promises 18 to 27), a sentence of the document each. */
public final class SeenEdgesTest {
    private static final int BAD = Checks.BAD, NO = Checks.NO, FULL = Checks.FULL, NONE = Checks.NONE;
    private static final String SIX = Checks.SIX, CHILDREN = "c2;c2;c2;c2;c2;c2;";

    public static void main(String[] args) {
        sixSeen();
        eachOfSixCounts();
        zeroToNineSeen();
        seenToday();
        seenOfOneAway();
        forgotten();
        zeroToAllAhead();
        stoodWithoutCorn();
        stoodFirst();
        stoodAsItIs();
        stoodNone();
        saidZeroToSix();
        saidInPlace();
        mouthsOfAll();
        tenths();
        lowestTerms();
        breadsByChance();
        chanceOfThoseThere();
        chanceParts();
        yearBounds();
        yearDraws();
        yearComesRound();
        yearOfSomeAway();
        yearFromNowOn();
        twoKept();
        keptComesRound();
        keptAsItStands();
        keptNotSeenNorText();
        notUndoneBehindBack();
        counts();
        Checks.end();
    }

    private static void due(String what, long got, long want) {
        Checks.due(what, got, want);
    }

    private static GroundByHearsay mill(String text) {
        return Checks.mill(text);
    }

    private static void sixSeen() {
        Checks.sentence("SEEN (6 at most) .. FULL.");
        GroundByHearsay x = mill("c0;c0;c0;a2;");
        for (int i = 1; i <= 6; i++) {
            due("seen", x.see(0, 4), i);
        }
        due("no seventh", x.see(0, 4), FULL);
        due("nor of another one", x.see(1, 4), FULL);
        due("NO ahead of FULL", x.see(2, 4), NO);
        due("BAD ahead of FULL", x.see(0, 10), BAD);
        due("BAD ahead of FULL", x.see(3, 4), BAD);
        due("BAD ahead of NO", x.see(2, -1), BAD);
        due("six", x.count(5), 6);
        due("all so", x.stood(0), 256 + 3);
        due("forgotten", x.forget(), 6);
        for (int i = 1; i <= 6; i++) {
            due("seen again", x.see(1, 4), i);
        }
        due("full again", x.see(1, 4), FULL);
    }

    private static void eachOfSixCounts() {
        Checks.sentence("all that is SEEN would be so (of six)");
        for (int other = 0; other < 6; other++) {
            GroundByHearsay x = mill(SIX);
            for (int c = 0; c < 6; c++) {
                due("seen", x.see(c, c == other ? 3 : 4), c + 1);
                due("so", x.stood(0), c < other ? 256 : 0);
            }
        }
    }

    private static void zeroToNineSeen() {
        Checks.sentence("that a CUSTOMER has it v (0 to 9) FINE today");
        for (int v = 0; v <= 9; v++) {
            GroundByHearsay x = mill("c0;s" + v + ";");
            due("see " + v, x.see(0, v), 1);
            due("so", x.stood(0), 256);
            x.see(0, v == 0 ? 1 : v - 1);
            due("not so", x.stood(0), 0);
            due("see -1", x.see(0, -1), BAD);
            due("see 10", x.see(0, 10), BAD);
            due("two", x.count(5), 2);
        }
    }

    private static void seenToday() {
        Checks.sentence("has it v FINE today");
        GroundByHearsay x = mill("c0;c0;o1,0,6;s4;");
        x.see(0, 8);
        due("not yet", x.stood(0), 0);
        x.day();
        due("so by a stone of 5", x.stood(0), 256);
        x.change(0, 1);
        due("not in this line", x.stood(0), 0);
        due("by no word", x.said(1, 0), 0);
        due("by the other one's", x.said(0, 1), 0);
        x.undo();
        due("so again", x.said(1, 0), 64);
    }

    private static void seenOfOneAway() {
        Checks.sentence("(What is SEEN of one who is AWAY is not so.)");
        GroundByHearsay x = mill("c0;c0;c0;a2;s4;");
        x.see(1, 4);
        due("so", x.stood(0), 256 + 3);
        x.away(1);
        due("not as it is, nor with him, nor with another one", x.stood(0), 0);
        due("no first", x.stood(1), NONE);
        due("by no word of his", x.said(1, 0), 0);
        due("nor of him", x.said(0, 1), 0);
        due("it is seen all the same", x.count(5), 1);
        due("no more of him", x.see(1, 4), NO);
        x.away(1);
        due("so again", x.stood(0), 256 + 3);
        x.see(0, 4);
        x.away(0);
        due("one of two not so", x.stood(0), 0);
    }

    private static void forgotten() {
        Checks.sentence("Nothing is SEEN: how many were.");
        GroundByHearsay x = mill("c0;c0;a1;");
        due("none", x.forget(), 0);
        for (int many = 1; many <= 6; many++) {
            for (int i = 0; i < many; i++) {
                x.see(0, 9);
            }
            due("not so", x.stood(0), 0);
            due("how many", x.forget(), many);
            due("none left", x.count(5), 0);
            due("all so of nothing", x.stood(0), 256 + 2);
        }
        due("none", x.forget(), 0);
    }

    private static void zeroToAllAhead() {
        Checks.sentence("how many of those who are not stand ahead of him (0 to all)");
        String text = SIX;
        for (int away = 0; away <= 6; away++) {
            due("of " + away + " away", mill(text).stood(0), 256 + away * (7 - away));
            text += away < 6 ? "a" + (5 - away) + ";" : "";
        }
        GroundByHearsay last = mill(SIX + "a5;o5,4,6;s4;");
        last.see(4, 7);
        due("all ahead alone", last.stood(0), 1);
        due("all five ahead", last.stood(1), 55);
        GroundByHearsay first = mill(SIX + "a5;o5,0,6;s4;");
        first.see(0, 4);
        due("none ahead, or more than three", first.stood(0), 256 + 3);
        due("none ahead", first.stood(1), 50);
        first.forget();
        first.see(0, 7);
        due("one, two or three ahead", first.stood(0), 3);
        due("one ahead", first.stood(1), 51);
        due("those away don't count", mill("c0;c0;c0;c0;a0;a1;a2;").stood(0), 256 + 6);
    }

    private static void stoodWithoutCorn() {
        Checks.sentence("without corn (he is HEARD, but nothing is ground for him)");
        GroundByHearsay x = mill("c0;c0;c0;o1,0,6;o2,1,6;a1;s4;");
        x.see(0, 7);
        x.see(2, 5);
        due("heard, and the stone goes by 0 alone", x.stood(0), 2);
        due("ahead of 2 or behind", x.stood(1), 11);
        GroundByHearsay y = mill("c0;c0;c0;o0,1,6;a1;s4;");
        y.see(0, 4);
        y.see(2, 4);
        due("what is said of him is none of it", y.stood(0), 256 + 3);
        GroundByHearsay z = mill("c0;c0;c0;c0;c0;o4,0,6;a1;s4;");
        z.see(0, 4);
        due("one of the three who are heard, so that 4 is not", z.stood(0), 3);
        due("right behind 0", z.stood(1), 11);
        z.forget();
        z.see(0, 7);
        due("ahead of 0, or behind 4", z.stood(0), 256 + 2);
        GroundByHearsay bran = mill("c0;c0;c0;s0;a2;");
        bran.see(1, 0);
        due("those behind one who has bran have theirs, too", bran.stood(0), 256 + 3);
        GroundByHearsay first = mill(SIX + "o0,5,6;a4;s4;");
        first.see(0, 4);
        due("nothing is ground ahead of the first one", first.stood(0), 256 + 6);
    }

    private static void stoodFirst() {
        Checks.sentence("the first (by him), as 10 times him and how many; none");
        due("0 and 0 is none of those below", mill("c0;c0;a0;").stood(1), 0);
        due("the first one away", mill(SIX + "a5;a3;").stood(1), 30);
        GroundByHearsay x = mill("c0;c0;c0;c1;o1,0,4;o3,0,5;a1;a3;s4;");
        x.see(0, 8);
        due("only the second one away", x.stood(0), 2);
        due("behind 0", x.stood(1), 31);
        x.forget();
        x.see(0, 5);
        due("only the first one away", x.stood(1), 11);
        x.change(1, 3);
        due("by his number, wherever he stands", x.stood(1), 11);
        GroundByHearsay y = mill(SIX + "o0,1,6;a0;s4;");
        y.see(1, 7);
        due("0 behind one, two or three", y.stood(0), 3);
        due("0 and 1", y.stood(1), 1);
    }

    private static void stoodAsItIs() {
        Checks.sentence("how many (256 more, if all is so as it is)");
        due("none away, nothing seen", mill("c0;").stood(0), 256);
        GroundByHearsay x = mill("c0;c0;o1,0,6;a1;s4;");
        due("nothing seen", x.stood(0), 256 + 2);
        x.see(0, 4);
        due("as it is, or he ahead", x.stood(0), 256 + 1);
        x.forget();
        x.see(0, 7);
        due("not as it is, but he behind", x.stood(0), 1);
        x.see(0, 4);
        due("neither", x.stood(0), 0);
        due("nobody there, nothing seen", mill("c0;c0;a0;a1;").stood(0), 256 + 2);
    }

    private static void stoodNone() {
        Checks.sentence("the first (1; NONE). BAD.");
        due("nobody away", mill("c0;").stood(1), NONE);
        GroundByHearsay x = mill("c0;c0;a1;");
        x.see(0, 9);
        due("nothing so", x.stood(1), NONE);
        due("none of them", x.stood(0), 0);
        due("2", x.stood(2), BAD);
        due("-1", x.stood(-1), BAD);
        due("2, nobody away: BAD ahead of NONE", mill("c0;").stood(2), BAD);
        due("he stays away", x.customer(1, 2), 1);
    }

    private static void saidZeroToSix() {
        Checks.sentence("SAID by one of another: those V (bits, 0 to 6)");
        GroundByHearsay x = mill("c0;c0;s4;");
        due("nothing seen, all", x.said(1, 0), 127);
        for (int fine = 0; fine <= 9; fine++) {
            x.forget();
            x.see(0, fine);
            due("by " + fine, x.said(1, 0), fine >= 1 && fine <= 7 ? 1 << fine - 1 : 0);
        }
        GroundByHearsay top = mill("c0;c1;s4;");
        top.see(0, 9);
        due("9 at most", top.said(1, 0), 64);
        GroundByHearsay high = mill("c0;c1;s7;");
        high.see(0, 9);
        due("9 by 9, 11 and 13", high.said(1, 0), 16 + 32 + 64);
        GroundByHearsay low = mill("c0;c1;s2;");
        low.see(0, 0);
        due("0 by 0, -2 and -4", low.said(1, 0), 1 + 2 + 4);
        GroundByHearsay wit = mill("c0;c4;s4;");
        wit.see(0, 7);
        due("a wit's 3 less", wit.said(1, 0), 1);
    }

    private static void saidInPlace() {
        Checks.sentence("SAID in place of what is, would have all that is SEEN so");
        GroundByHearsay x = mill("c0;c0;c0;o1,0,6;o2,0,5;a2;s4;");
        x.see(0, 7);
        due("as it is", x.said(1, 0), 64);
        x.see(1, 5);
        due("all that is seen", x.said(1, 0), 64);
        x.see(1, 4);
        due("of which one is not so", x.said(1, 0), 0);
        x.forget();
        due("nothing seen, by one away", x.said(2, 0), 127);
        x.see(0, 7);
        due("by one away, what is so is", x.said(2, 0), 127);
        x.see(0, 8);
        due("by one away, what is not isn't", x.said(2, 0), 0);
        due("what is said stays", x.says(1, 0), 6);
        due("alike", x.said(0, 0), BAD);
        due("alike, away", x.said(2, 2), BAD);
        due("nothing to undo", x.count(6), 0);
    }

    private static void mouthsOfAll() {
        Checks.sentence("MOUTHS: whose words count for one today (bits; 0, too).");
        int[] mouths = {14, 28, 56, 48, 32, 0};
        GroundByHearsay x = mill(CHILDREN);
        for (int c = 0; c < 6; c++) {
            due("of " + c, x.mouths(c), mouths[c]);
        }
        x.change(0, 5);
        due("of the first one then", x.mouths(5), 14);
        due("of the last one then", x.mouths(0), 0);
        due("of the last but one", x.mouths(4), 1);
        due("only deaf ones behind", mill("c0;c3;c3;c3;").mouths(0), 0);
        x.away(0);
        due("away", x.mouths(0), NO);
        due("no such one", x.mouths(6), BAD);
        due("-1", x.mouths(-1), BAD);
    }

    private static void chanceIs(String text, int b, int x, int above, int below) {
        GroundByHearsay mill = mill(text);
        String call = "of " + text + " " + b + " by " + x;
        due(call + ", above", mill.chance(0, b, x, 0), above);
        due(call + ", below", mill.chance(0, b, x, 1), below);
    }

    private static void tenths() {
        Checks.sentence("all but one CUSTOMER who are not AWAY stay away today by x (0 to 10) of ten");
        int[] above = {1, 9, 4, 7, 3, 1, 2, 3, 1, 1, 0};
        int[] below = {1, 10, 5, 10, 5, 2, 5, 10, 5, 10, 1};
        for (int x = 0; x <= 10; x++) {
            chanceIs("c0;c0;o1,0,6;s4;", 2, x, above[x], below[x]);
        }
        GroundByHearsay mill = mill("c0;c0;o1,0,6;s4;");
        for (int x : new int[] {-1, 11, 100, Integer.MIN_VALUE, Integer.MAX_VALUE}) {
            due("by " + x, mill.chance(0, 2, x, 0), BAD);
            due("by " + x, mill.chance(0, 2, x, 1), BAD);
        }
    }

    private static void lowestTerms() {
        Checks.sentence("each for himself: the chance .. in lowest terms");
        String three = "c0;c2;c2;c2;o1,0,6;o2,0,6;o3,0,6;s0;";
        chanceIs(three, 3, 0, 1, 1);
        chanceIs(three, 3, 1, 729, 1000);
        chanceIs(three, 3, 2, 64, 125);
        chanceIs(three, 3, 9, 1, 1000);
        chanceIs(three, 3, 10, 0, 1);
        // white by two at least of three, brown by one
        chanceIs(three, 2, 5, 1, 2);
        chanceIs(three, 1, 1, 999, 1000);
        String five = "c0;c2;c2;c2;c2;c2;o1,0,6;o2,0,6;o3,0,6;o4,0,6;o5,0,6;s0;";
        // wafers by three at least of five
        chanceIs(five, 3, 1, 12393, 12500);
        chanceIs(five, 3, 9, 107, 12500);
        chanceIs(five, 3, 5, 1, 2);
        chanceIs(five, 1, 9, 40951, 100000);
        chanceIs(five, 1, 1, 99999, 100000);
    }

    private static void breadsByChance() {
        Checks.sentence("the chance that he has BREAD b (0 to 3) or a better one");
        for (int b = 0; b <= 3; b++) {
            chanceIs("c0;s9;", b, 5, 1, 1);
            chanceIs("c0;s0;", b, 5, b == 0 ? 1 : 0, 1);
            chanceIs("c0;s4;", b, 5, b <= 1 ? 1 : 0, 1);
            chanceIs("c0;c0;o1,0,5;s0;", b, 5, b <= 1 ? 1 : 0, b == 1 ? 2 : 1);
        }
        GroundByHearsay x = mill("c0;");
        due("bread 4", x.chance(0, 4, 5, 0), BAD);
        due("bread -1", x.chance(0, -1, 5, 0), BAD);
    }

    private static void chanceOfThoseThere() {
        Checks.sentence("all but one CUSTOMER who are not AWAY stay away today");
        chanceIs("c0;c0;o1,0,6;a1;s4;", 2, 5, 0, 1);
        chanceIs("c0;c0;o1,0,6;a1;s4;", 1, 5, 1, 1);
        chanceIs("c0;c2;c2;c2;c2;c2;o1,0,6;o2,0,6;o3,0,6;o4,0,6;o5,0,6;a3;s0;", 3, 5, 5, 16);
        // he himself comes, by whatever x
        chanceIs("c0;c0;s4;", 1, 10, 1, 1);
        GroundByHearsay x = mill("c0;c0;o1,0,6;a0;s4;");
        due("away", x.chance(0, 0, 5, 0), NO);
        due("BAD ahead of NO", x.chance(0, 4, 5, 0), BAD);
        due("BAD ahead of NO", x.chance(0, 0, 11, 0), BAD);
        due("BAD ahead of NO", x.chance(0, 0, 5, 2), BAD);
        due("the other one alone", x.chance(1, 1, 10, 0), 1);
        due("only asked", x.count(1), 1);
    }

    private static void chanceParts() {
        Checks.sentence("CHANCE: above (part = 0), below (1). BAD");
        GroundByHearsay x = mill("c0;c0;o1,0,6;s4;");
        due("above", x.chance(0, 2, 3, 0), 7);
        due("below", x.chance(0, 2, 3, 1), 10);
        due("2", x.chance(0, 2, 3, 2), BAD);
        due("-1", x.chance(0, 2, 3, -1), BAD);
        due("no such one", x.chance(2, 2, 3, 0), BAD);
        due("no such one", x.chance(-1, 2, 3, 0), BAD);
    }

    private static void yearBounds() {
        Checks.sentence("A YEAR by z (0 to 9999) of n (1 to 60) DAYS");
        GroundByHearsay x = mill("c0;s1;");
        for (int z : new int[] {0, 1, 9998, 9999}) {
            due("bran by " + z, x.year(z, 1, 1), 1);
            due("bran by " + z, x.year(z, 60, 1), 60);
            due("stone by " + z, x.year(z, 60, 0), 1);
        }
        for (int z : new int[] {-1, 10000, Integer.MIN_VALUE, Integer.MAX_VALUE}) {
            due("by " + z, x.year(z, 1, 0), BAD);
        }
        for (int n = 1; n <= 60; n++) {
            due("bran of " + n, x.year(7, n, 1), n);
        }
        for (int n : new int[] {0, -1, 61, Integer.MIN_VALUE, Integer.MAX_VALUE}) {
            due("of " + n, x.year(7, n, 0), BAD);
        }
        due("what 2", x.year(7, 1, 2), BAD);
        due("what -1", x.year(7, 1, -1), BAD);
    }

    private static void yearIs(GroundByHearsay x, int z, int n, int stone, int bran) {
        due("stone by " + z + " of " + n, x.year(z, n, 0), stone);
        due("bran by " + z + " of " + n, x.year(z, n, 1), bran);
    }

    private static void yearDraws() {
        Checks.sentence("ahead of the k-th (0 first) CUSTOMERS DRAW modulo as many as there are and .. if they are unlike");
        // 3 has 3 by a stone of 0, as long as 4 stands behind him
        GroundByHearsay x = mill(SIX + "o4,3,6;s0;");
        // DRAW is 0 by z 0: 0 and 0
        yearIs(x, 0, 1, 1, 5);
        // 6412 by z 9999: 4 and 801 modulo 6, 3; 4076 then: 2 and 509 modulo 6, 5
        yearIs(x, 9999, 1, 0, 6);
        yearIs(x, 9999, 2, 0, 12);
        due("the line is as it was", x.customer(3, 1), 3);
        due("no day", x.count(3), 0);
    }

    /** Reckoned by another program, in another language, whose numbers have no bound. */
    private static void yearComesRound() {
        Checks.sentence("DRAW being ((x times x) modulo 65521) by 8, cut, x 7919 z, 6151 k and 1 together");
        GroundByHearsay x = mill("c4;c1;c0;c0;c4;c1;o0,1,0;o0,4,1;o3,4,0;o0,3,6;o0,1,5;o2,1,6;o0,4,5;o3,0,5;s2;");
        int[][] years = {{0, 1, 4, 0}, {0, 2, 6, 0}, {0, 3, 7, 0}, {0, 59, 0, 199}, {0, 60, 0, 205}, {1, 1, 2, 1},
            {1, 2, 0, 4}, {1, 3, 0, 10}, {1, 59, 5, 178}, {1, 60, 7, 178}, {777, 1, 2, 1}, {777, 2, 1, 7},
            {777, 3, 1, 12}, {777, 59, 0, 258}, {777, 60, 1, 264}, {9998, 1, 1, 4}, {9998, 2, 0, 10}, {9998, 3, 0, 16},
            {9998, 59, 2, 189}, {9998, 60, 0, 193}, {9999, 1, 2, 1}, {9999, 2, 1, 4}, {9999, 3, 0, 10},
            {9999, 59, 8, 226}, {9999, 60, 6, 226}};
        for (int[] year : years) {
            yearIs(x, year[0], year[1], year[2], year[3]);
        }
    }

    private static void yearOfSomeAway() {
        Checks.sentence("modulo as many as there are (AWAY ones, too)");
        GroundByHearsay x = mill("c0;c0;c0;c0;c0;o1,0,6;o3,2,0;o4,1,5;o0,3,1;a4;s1;");
        yearIs(x, 0, 1, 1, 2);
        yearIs(x, 0, 2, 0, 6);
        yearIs(x, 0, 60, 0, 195);
        yearIs(x, 9999, 1, 1, 3);
        yearIs(x, 9999, 2, 1, 6);
        yearIs(x, 9999, 60, 0, 197);
        GroundByHearsay nobody = mill("c0;c0;a0;a1;s1;");
        yearIs(nobody, 9999, 60, 1, 0);
    }

    private static void yearFromNowOn() {
        Checks.sentence("of n DAYS from now on");
        GroundByHearsay x = mill(SIX + "o4,3,6;s0;");
        yearIs(x, 0, 1, 1, 5);
        x.day();
        due("k is 0 first, whatever days have gone by", x.year(0, 1, 1), 3);
        due("by the stone as it is", x.year(0, 1, 0), 2);
        x.day();
        due("by 2 all have brown", x.year(0, 1, 1), 0);
        x.change(3, 4);
        due("by the line as it is", x.year(0, 1, 0), 2);
        x.away(3);
        due("as all stand", x.year(0, 60, 1), 0);
    }

    private static void twoKept() {
        Checks.sentence("KEPT is all as it stands .. 2 at most. FULL.");
        GroundByHearsay x = mill("c0;");
        due("none", x.count(7), 0);
        due("none to come back", x.back(), NO);
        due("one", x.keep(), 1);
        x.day();
        due("two", x.keep(), 2);
        x.day();
        due("no third", x.keep(), FULL);
        due("nor later", x.keep(), FULL);
        due("two", x.count(7), 2);
        due("the second one first", x.back(), 1);
        due("a day", x.count(3), 1);
        due("then the first one", x.back(), 0);
        due("no day", x.count(3), 0);
        due("no more", x.back(), NO);
        due("none", x.count(7), 0);
    }

    private static void keptComesRound() {
        Checks.sentence("As KEPT last (it is KEPT no more then): how many are left .. NO.");
        GroundByHearsay x = mill("c0;");
        x.keep();
        for (int round = 1; round <= 30; round++) {
            due("a day", x.day(), round);
            due("the second", x.keep(), 2);
            x.day();
            due("no third", x.keep(), FULL);
            due("back", x.back(), 1);
            due("as kept last", x.count(3), round);
        }
        due("the first one of all", x.back(), 0);
        due("no day", x.count(3), 0);
        due("no more", x.back(), NO);
        due("nothing changes then", x.count(3), 0);
        due("one again", x.keep(), 1);
    }

    private static void keptAsItStands() {
        Checks.sentence("KEPT is all as it stands");
        GroundByHearsay x = mill("c1;c2;c3;o1,0,6;o0,2,5;a2;s4;");
        x.day();
        x.change(0, 1);
        x.keep();
        x.day();
        x.change(0, 2);
        x.say(1, 0, 0);
        x.say(2, 1, 0);
        x.away(0);
        x.away(2);
        due("back", x.back(), 0);
        due("the day", x.count(3), 1);
        due("the stone", x.count(2), 5);
        due("the line", x.customer(0, 1), 1);
        due("the line", x.customer(1, 1), 0);
        due("the line", x.customer(2, 1), 2);
        due("a word", x.says(1, 0), 6);
        due("another word", x.says(2, 1), 3);
        due("who was there", x.customer(0, 2), 0);
        due("who was away", x.customer(2, 2), 1);
        due("the kinds", x.customer(1, 0), 2);
        due("how many", x.count(0), 3);
    }

    private static void keptNotSeenNorText() {
        Checks.sentence("but what is SEEN and THE TEXT (these stay by back() ..)");
        GroundByHearsay x = mill("c0;c0;s4;");
        x.see(0, 4);
        x.keep();
        x.see(0, 5);
        x.see(1, 5);
        x.write('q');
        due("back", x.back(), 0);
        due("seen since", x.count(5), 3);
        due("written since", x.count(8), 10);
        due("its fault", x.fault(), 9);
        x.keep();
        x.forget();
        x.wipe();
        due("back", x.back(), 0);
        due("forgotten since", x.count(5), 0);
        due("all so", x.stood(0), 256);
        due("wiped since", x.count(8), 0);
    }

    private static void notUndoneBehindBack() {
        Checks.sentence("(.. back(), behind which nothing can be UNDONE)");
        GroundByHearsay x = mill("c0;c0;");
        x.day();
        x.day();
        x.keep();
        due("two can be behind keep()", x.count(6), 2);
        for (int d = 0; d < 9; d++) {
            x.day();
        }
        due("undone ahead of it", x.undo(), 7);
        due("back", x.back(), 0);
        due("none", x.count(6), 0);
        due("nothing", x.undo(), NO);
        due("days stay", x.count(3), 2);
        x.away(1);
        due("what comes then can be", x.undo(), 0);
        x.away(1);
        due("no more kept", x.back(), NO);
        due("refused, it takes nothing away", x.count(6), 1);
        due("which can be undone", x.undo(), 0);
    }

    private static void counts() {
        Checks.sentence("How many: 0 CUSTOMERS, 1 AWAY, .. 8 letters of THE TEXT. BAD.");
        GroundByHearsay x = mill("c0;c0;c0;c0;c1;o4,3,6;a1;a2;s1;");
        x.day();
        x.day();
        x.say(0, 1, 3);
        x.see(0, 1);
        x.see(3, 1);
        x.see(3, 2);
        x.see(4, 2);
        x.keep();
        // 1, 7, 2 on the first day, then 2, 8, 3: a stone of 3, and nobody has bran by it
        int[] counts = {5, 2, 3, 2, 0, 4, 3, 1, 31};
        for (int what = 0; what < 9; what++) {
            due("count(" + what + ")", x.count(what), counts[what]);
        }
        for (int what : new int[] {-1, 9, 10, Integer.MIN_VALUE, Integer.MAX_VALUE}) {
            due("count(" + what + ")", x.count(what), BAD);
        }
        for (int s = 0; s <= 9; s++) {
            due("bran by a stone of " + s, mill(SIX + "a3;s" + s + ";").count(4), s <= 1 ? 5 : 0);
        }
    }
}
