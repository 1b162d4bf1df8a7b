/** The edges of the LINE, what is HEARD, FINE, BREAD, DAYS and what is UNDONE (promises 6 to 13), a sentence each. */
public final class LineEdgesTest {
    private static final int BAD = Checks.BAD, NO = Checks.NO, FULL = Checks.FULL;
    private static final String SIX = Checks.SIX, CHILDREN = "c2;c2;c2;c2;c2;c2;";
    private static final int PLAIN = 0, WIDOW = 1, CHILD = 2, DEAF = 3, WIT = 4;

    public static void main(String[] args) {
        lineAtFirst();
        awayIsNotThere();
        awayKeepsHisPlace();
        allAway();
        firstOneFirst();
        nextThree();
        fewerThanThree();
        nextThreeBehindWhoIsAway();
        kindsHeard();
        silencedByWho();
        silencedWhoseWordIsUnlike();
        silencedByWhoCounted();
        silencedOnlyByThoseBehind();
        zeroIsSaidToo();
        threeIsThreeLess();
        atLeastZeroAtMostNine();
        stoneGoesOne();
        stoneStaysWithinItsBounds();
        breads();
        stoneBehindTheLastOne();
        aheadAwayOnesToo();
        saysAndThree();
        placesChanged();
        placesOfOneAway();
        goesAndComes();
        wordsSaid();
        daysGoneBy();
        lastEight();
        eightComeRoundAgain();
        eachKindUndone();
        notUndone();
        Checks.end();
    }

    private static void due(String what, long got, long want) {
        Checks.due(what, got, want);
    }

    private static GroundByHearsay mill(String text) {
        return Checks.mill(text);
    }

    private static void fineIs(String text, int fine) {
        due("fine of " + text, mill(text).fine(0, 0), fine);
    }

    private static void placesAre(String when, GroundByHearsay x, int... places) {
        for (int c = 0; c < places.length; c++) {
            due(when + ", place of " + c, x.customer(c, 1), places[c]);
        }
    }

    private static void lineAtFirst() {
        Checks.sentence("CUSTOMERS stand in a LINE (0, 1, .. at first)");
        placesAre("at first", new GroundByHearsay(), 0, 1, 2, 3, 4, 5);
        placesAre("alone", mill("c3;"), 0);
        placesAre("six, some away", mill(SIX + "a0;a3;"), 0, 1, 2, 3, 4, 5);
    }

    private static void awayIsNotThere() {
        Checks.sentence("who is AWAY keeps his place in it, but is as if not there");
        GroundByHearsay x = mill("c0;c1;c0;o1,0,6;o0,1,5;s4;");
        due("heard", x.fine(0, 0), 9);
        due("away", x.away(1), 1);
        due("not heard", x.fine(0, 0), 4);
        due("no mouth", x.mouths(0), 4);
        due("nothing is ground for him", x.fine(1, 0), NO);
        due("no bread", x.fine(1, 1), NO);
        x.away(0);
        due("who is alone hears nobody", x.mouths(2), 0);
        GroundByHearsay y = mill("c0;c0;c0;o1,0,6;a0;s4;");
        y.day();
        due("he wears no stone", y.count(2), 4);
        due("bran of those there alone", mill("c0;c0;c0;s1;a1;").count(4), 2);
    }

    private static void awayKeepsHisPlace() {
        Checks.sentence("who is AWAY keeps his place in it");
        GroundByHearsay x = mill("c0;c0;c0;o1,0,6;s4;");
        x.away(1);
        placesAre("away", x, 0, 1, 2);
        x.day();
        x.away(1);
        placesAre("come again", x, 0, 1, 2);
        due("heard where he was", x.fine(0, 0), 7);
        due("not by who stands behind him", x.fine(2, 0), 5);
    }

    private static void allAway() {
        Checks.sentence("who is AWAY .. is as if not there (all of them)");
        GroundByHearsay x = mill("c0;c0;a0;a1;s1;");
        due("a day", x.day(), 1);
        due("nothing wears", x.count(2), 1);
        due("no bran", x.count(4), 0);
        due("both", x.count(1), 2);
        due("stone", x.behind(60, -1), 1);
        for (int c = 0; c < 2; c++) {
            due("fine", x.fine(c, 0), NO);
            due("mouths", x.mouths(c), NO);
        }
        due("one comes", x.away(0), 0);
        due("and has it", x.fine(0, 0), 1);
    }

    private static void firstOneFirst() {
        Checks.sentence("The miller grinds for those in the LINE, the first one first.");
        // 2 raises the stone for those behind him alone
        GroundByHearsay x = mill("c0;c0;c0;o1,2,6;s4;");
        x.change(0, 2);
        due("first", x.fine(2, 0), 7);
        due("second", x.fine(1, 0), 5);
        due("last", x.fine(0, 0), 5);
        x.change(2, 0);
        due("first", x.fine(0, 0), 4);
        due("last", x.fine(2, 0), 4);
    }

    private static void nextThree() {
        Checks.sentence("HEARD for one are the next three behind him");
        for (int teller = 1; teller <= 5; teller++) {
            fineIs(SIX + "o" + teller + ",0,6;", teller <= 3 ? 7 : 4);
            fineIs(CHILDREN + "o" + teller + ",0,6;", teller <= 3 ? 7 : 4);
        }
        due("three mouths", mill(CHILDREN).mouths(0), 2 + 4 + 8);
        due("three mouths", mill(CHILDREN).mouths(1), 4 + 8 + 16);
        due("three mouths", mill(CHILDREN).mouths(2), 8 + 16 + 32);
        // a DEAF one is one of the three all the same
        fineIs("c0;c3;c3;c0;c0;o3,0,6;", 7);
        fineIs("c0;c3;c3;c3;c0;o4,0,6;", 4);
    }

    private static void fewerThanThree() {
        Checks.sentence("(fewer, if there are no more)");
        due("two", mill(CHILDREN).mouths(3), 16 + 32);
        due("one", mill(CHILDREN).mouths(4), 32);
        due("none", mill(CHILDREN).mouths(5), 0);
        due("alone", mill("c2;").mouths(0), 0);
        due("alone, the stone", mill("c2;").fine(0, 0), 4);
        due("none heard, the stone", mill("c0;c0;o0,1,6;").fine(1, 0), 4);
    }

    private static void nextThreeBehindWhoIsAway() {
        Checks.sentence("HEARD for one are the next three behind him (of those in the LINE)");
        fineIs(SIX + "o4,0,6;a1;", 7);
        fineIs(SIX + "o5,0,6;a1;", 4);
        fineIs(SIX + "o5,0,6;a1;a3;", 7);
        due("three of five", mill(CHILDREN + "a2;").mouths(0), 2 + 8 + 16);
        due("three of four", mill(CHILDREN + "a2;a1;").mouths(0), 8 + 16 + 32);
        due("two are left", mill(CHILDREN + "a2;a1;a4;").mouths(0), 8 + 32);
    }

    private static void kindsHeard() {
        Checks.sentence("not a DEAF one's .. a WIDOW's counts twice, a WIT's as much the other way");
        int[][] fines = {{1, 2, 3, 4, 5, 6, 7}, {0, 0, 2, 4, 6, 8, 9}, {1, 2, 3, 4, 5, 6, 7}, {4, 4, 4, 4, 4, 4, 4},
            {7, 6, 5, 4, 3, 2, 1}};
        for (int kind = PLAIN; kind <= WIT; kind++) {
            for (int v = 0; v <= 6; v++) {
                fineIs("c0;c" + kind + ";o1,0," + v + ";s4;", fines[kind][v]);
            }
        }
        for (int kind = PLAIN; kind <= WIT; kind++) {
            fineIs("c" + kind + ";c0;o1,0,6;s4;", 7);
        }
    }

    private static void silencedByWho() {
        Checks.sentence("nor what one SAYS who is no CHILD, if a nearer one who is no CHILD, not DEAF, SAYS as much");
        // both SAY 2: by the kind of the nearer one, then of the other
        int[][] fines = {{6, 6, 8, 6, 6}, {8, 8, 9, 8, 8}, {8, 9, 8, 6, 4}, {6, 8, 6, 4, 2}, {2, 2, 4, 2, 2}};
        for (int nearer = PLAIN; nearer <= WIT; nearer++) {
            for (int other = PLAIN; other <= WIT; other++) {
                fineIs("c0;c" + nearer + ";c" + other + ";o1,0,5;o2,0,5;s4;", fines[nearer][other]);
            }
        }
        // and with one between them who SAYS nothing of it
        for (int nearer = PLAIN; nearer <= WIT; nearer++) {
            for (int other = PLAIN; other <= WIT; other++) {
                fineIs("c0;c" + nearer + ";c3;c" + other + ";o1,0,5;o3,0,5;s4;", fines[nearer][other]);
            }
        }
    }

    private static void silencedWhoseWordIsUnlike() {
        Checks.sentence("SAYS as much");
        fineIs("c0;c0;c0;o1,0,5;o2,0,6;s3;", 8);
        fineIs("c0;c0;c0;o1,0,6;o2,0,5;s3;", 8);
        fineIs("c0;c0;c0;o1,0,4;o2,0,2;s3;", 3);
        fineIs("c0;c0;c4;o1,0,6;o2,0,0;s3;", 9);
        fineIs("c0;c4;c0;o1,0,0;o2,0,6;s3;", 9);
        // as much of another one is not as much of him
        fineIs("c0;c0;c0;o1,2,5;o2,0,5;s3;", 5);
        fineIs("c0;c0;c0;c0;o1,0,5;o2,0,4;o3,0,5;s3;", 6);
        fineIs("c0;c0;c0;c0;o1,0,4;o2,0,5;o3,0,5;s3;", 6);
    }

    private static void silencedByWhoCounted() {
        Checks.sentence("(whatever counts of it)");
        // a WIDOW's 1 counts as 2, which is not as much as 2 that is SAID, but as 1
        fineIs("c0;c1;c0;o1,0,4;o2,0,5;s3;", 7);
        fineIs("c0;c1;c0;o1,0,4;o2,0,4;s3;", 5);
        fineIs("c0;c4;c0;o1,0,2;o2,0,4;s3;", 5);
        fineIs("c0;c4;c0;o1,0,4;o2,0,4;s3;", 2);
        // the second one is silenced, and silences with the first one
        fineIs("c0;c0;c1;c1;o1,0,4;o2,0,4;o3,0,4;s3;", 4);
        fineIs("c0;c0;c4;c1;o1,0,4;o2,0,4;o3,0,4;s3;", 4);
    }

    private static void silencedOnlyByThoseBehind() {
        Checks.sentence("a nearer one (of those HEARD)");
        // who stands ahead of him, or is AWAY, is not HEARD
        due("ahead", mill("c0;c0;c0;o0,1,5;o2,1,5;s3;").fine(1, 0), 5);
        fineIs("c0;c0;c1;o1,0,5;o2,0,5;a1;s3;", 7);
        GroundByHearsay x = mill("c0;c0;c1;o1,0,5;o2,0,5;s3;");
        due("the plain one is nearer", x.fine(0, 0), 5);
        x.change(1, 2);
        due("the widow is nearer", x.fine(0, 0), 7);
        x.change(1, 0);
        due("the plain one stands ahead", x.fine(0, 0), 3);
    }

    private static void zeroIsSaidToo() {
        Checks.sentence("whose words count for one today (bits; 0, too)");
        due("a 0 silences a 0", mill("c0;c0;c0;c0;").mouths(0), 2);
        due("not a child's", mill("c0;c0;c2;c0;").mouths(0), 2 + 4);
        due("nor does a child's", mill("c0;c2;c0;c0;").mouths(0), 2 + 4);
        due("nor does a deaf one's", mill("c0;c3;c0;c0;").mouths(0), 4);
        due("a wit's", mill("c0;c4;c0;c1;").mouths(0), 2);
        due("one who says 1, then 0", mill("c0;c0;c0;c0;o1,0,4;").mouths(0), 2 + 4);
        due("of the last one, nobody's", mill("c0;c0;c0;c0;").mouths(3), 0);
    }

    private static void threeIsThreeLess() {
        Checks.sentence("(3 is 3 less)");
        fineIs("c0;c4;o1,0,6;s3;", 0);
        fineIs("c0;c4;o1,0,6;s9;", 6);
        fineIs("c0;c4;o1,0,0;s3;", 6);
        fineIs("c0;c4;o1,0,3;s3;", 3);
    }

    private static void atLeastZeroAtMostNine() {
        Checks.sentence("FINE is the STONE and all that counts, 0 at least, 9 at most.");
        for (int s = 0; s <= 9; s++) {
            fineIs("c0;c1;o1,0,6;s" + s + ";", s <= 3 ? s + 6 : 9);
            fineIs("c0;c1;o1,0,0;s" + s + ";", s >= 6 ? s - 6 : 0);
            fineIs("c0;s" + s + ";", s);
        }
        // only the sum of all is held to it: 9 and 6, less 6 and 3
        fineIs("c0;c1;c4;c1;o1,0,6;o2,0,5;o3,0,0;s9;", 7);
        fineIs("c0;c1;c1;c0;o1,0,0;o2,0,6;o3,0,4;s0;", 1);
        fineIs("c0;c1;c1;c1;o1,0,6;o2,0,5;o3,0,4;s9;", 9);
        fineIs("c0;c1;c1;c1;o1,0,0;o2,0,1;o3,0,2;s9;", 0);
    }

    private static void stoneGoesOne() {
        Checks.sentence("Behind each grinding the STONE goes 1 toward how FINE it was.");
        int[] stones = {3, 3, 3, 4, 5, 5, 5};
        for (int v = 0; v <= 6; v++) {
            GroundByHearsay x = mill("c0;c0;o1,0," + v + ";s4;");
            due("for the second one behind " + v, x.fine(1, 0), stones[v]);
            x.day();
            due("behind the day by " + v, x.count(2), stones[v]);
        }
        GroundByHearsay each = mill("c0;c1;c1;c1;o1,0,6;o2,1,6;o3,2,6;s0;");
        due("6 by a stone of 0", each.fine(0, 0), 6);
        due("7 by a stone of 1", each.fine(1, 0), 7);
        due("8 by a stone of 2", each.fine(2, 0), 8);
        due("3 by a stone of 3", each.fine(3, 0), 3);
        each.day();
        due("the stone", each.count(2), 3);
    }

    private static void stoneStaysWithinItsBounds() {
        Checks.sentence("the STONE goes 1 toward how FINE it was (0 at least, 9 at most)");
        for (String text : new String[] {"c0;c1;o1,0,6;s9;", "c0;s9;", "c0;c1;o1,0,6;s8;"}) {
            GroundByHearsay x = mill(text);
            x.day();
            due("9 by " + text, x.count(2), 9);
            x.day();
            due("9 still by " + text, x.count(2), 9);
        }
        for (String text : new String[] {"c0;c1;o1,0,0;s0;", "c0;s0;", "c0;c1;o1,0,0;s1;"}) {
            GroundByHearsay x = mill(text);
            x.day();
            due("0 by " + text, x.count(2), 0);
            x.day();
            due("0 still by " + text, x.count(2), 0);
        }
    }

    private static void breads() {
        Checks.sentence("BREAD is by FINE: 0, 1 BRAN (0), 2 to 4 BROWN (1), 5 to 7 WHITE (2), 8, 9 WAFERS (3).");
        int[] breads = {0, 0, 1, 1, 1, 2, 2, 2, 3, 3};
        for (int s = 0; s <= 9; s++) {
            GroundByHearsay x = mill("c0;s" + s + ";");
            due("bread of " + s, x.fine(0, 1), breads[s]);
            due("bran of " + s, x.count(4), s <= 1 ? 1 : 0);
        }
    }

    private static void stoneBehindTheLastOne() {
        Checks.sentence("A DAY: all in the LINE have theirs; the STONE stays as it is behind the last one.");
        GroundByHearsay x = mill("c0;c0;c0;o1,0,6;o2,1,6;s4;");
        x.day();
        due("behind 7, 8 and 6", x.count(2), 6);
        due("the first one's, then", x.fine(0, 0), 9);
        x.day();
        due("behind 9, 9 and 8", x.count(2), 8);
        GroundByHearsay last = mill("c0;c0;c1;o1,0,6;o2,1,0;s4;");
        last.day();
        due("behind 7, 0 and 4", last.count(2), 4);
    }

    private static void aheadAwayOnesToo() {
        Checks.sentence("how many stand ahead of him, AWAY ones, too (1), 1 if he is AWAY (2)");
        GroundByHearsay x = mill(SIX + "a0;a1;a2;a3;a4;");
        due("five away ahead", x.customer(5, 1), 5);
        due("he is not", x.customer(5, 2), 0);
        due("one of those", x.customer(3, 1), 3);
        due("who is", x.customer(3, 2), 1);
    }

    private static void saysAndThree() {
        Checks.sentence("What I SAYS of J, and 3.");
        GroundByHearsay x = mill("c3;c2;c4;o0,1,0;o1,2,6;o2,0,3;a0;");
        due("3 less, by a deaf one who is away", x.says(0, 1), 0);
        due("3, by a child", x.says(1, 2), 6);
        due("0, by a wit, of one away", x.says(2, 0), 3);
        due("without", x.says(1, 0), 3);
    }

    private static void placesChanged() {
        Checks.sentence("Two change PLACES: how many stand ahead of the first one then. BAD (alike, too).");
        for (int a = 0; a < 6; a++) {
            for (int b = 0; b < 6; b++) {
                GroundByHearsay x = new GroundByHearsay();
                due("change(" + a + ", " + b + ")", x.change(a, b), a == b ? BAD : b);
                for (int c = 0; c < 6; c++) {
                    due("then place of " + c, x.customer(c, 1), c == a ? b : c == b ? a : c);
                }
                due("to be undone", x.count(6), a == b ? 0 : 1);
            }
        }
        GroundByHearsay x = mill(SIX);
        due("first", x.change(0, 5), 5);
        due("not the number, the place", x.change(0, 1), 1);
        due("and on", x.change(5, 0), 1);
        due("back", x.change(0, 5), 1);
        placesAre("then", x, 1, 5, 2, 3, 4, 0);
    }

    private static void placesOfOneAway() {
        Checks.sentence("Two can change PLACES in the LINE (one or both AWAY)");
        GroundByHearsay x = mill("c0;c0;c0;c0;o1,0,6;a0;a3;s4;");
        due("one away, behind one away", x.change(1, 0), 0);
        due("both away", x.change(3, 0), 1);
        due("ahead of him, the one away, too", x.change(2, 0), 3);
        placesAre("then", x, 2, 0, 3, 1);
        due("he stays away", x.customer(0, 2), 1);
        x.away(0);
        due("who praises him stands ahead now", x.fine(0, 0), 4);
    }

    private static void goesAndComes() {
        Checks.sentence("One goes AWAY, comes again: 1 if AWAY then, 0. BAD.");
        GroundByHearsay x = mill(SIX);
        for (int c = 0; c < 6; c++) {
            due("goes " + c, x.away(c), 1);
            due("gone", x.count(1), c + 1);
        }
        for (int c = 0; c < 6; c++) {
            due("comes " + c, x.away(c), 0);
            due("gone", x.count(1), 5 - c);
        }
        due("goes once more", x.away(5), 1);
        due("none but those there are", x.away(6), BAD);
        due("-1", x.away(-1), BAD);
        due("31 and more are no bits", x.away(32), BAD);
        due("one is gone", x.count(1), 1);
    }

    private static void wordsSaid() {
        Checks.sentence("V (0 to 6) less 3 is SAID by I of J: what was, and 3. BAD (alike, too).");
        GroundByHearsay x = mill("c0;c0;");
        int before = 3;
        for (int v = 0; v <= 6; v++) {
            due("what was ahead of " + v, x.say(1, 0, v), before);
            due("what is", x.says(1, 0), v);
            due("how fine", x.fine(0, 0), v + 1);
            before = v;
        }
        due("-1", x.say(1, 0, -1), BAD);
        due("7", x.say(1, 0, 7), BAD);
        due("alike", x.say(0, 0, 3), BAD);
        due("alike", x.say(1, 1, 3), BAD);
        due("as it was", x.says(1, 0), 6);
        due("the other way", x.says(0, 1), 3);
        due("seven", x.count(6), 7);
        GroundByHearsay away = mill("c0;c0;o1,0,5;a0;a1;");
        due("by one away of one away", away.say(1, 0, 6), 5);
        due("so it is", away.says(1, 0), 6);
    }

    private static void daysGoneBy() {
        Checks.sentence("A DAY: how many have gone by.");
        GroundByHearsay x = mill("c0;");
        due("none", x.count(3), 0);
        for (int d = 1; d <= 100; d++) {
            due("day", x.day(), d);
        }
        due("a hundred", x.count(3), 100);
        due("one undone", x.undo(), 7);
        due("99", x.count(3), 99);
        due("the hundredth again", x.day(), 100);
    }

    private static void lastEight() {
        Checks.sentence("UNDONE is the latest of these, or DAY (the last 8 can be).");
        GroundByHearsay x = mill("c0;c0;o1,0,0;");
        due("none", x.undo(), NO);
        for (int v = 1; v <= 6; v++) {
            x.say(1, 0, v);
        }
        x.say(1, 0, 0);
        x.say(1, 0, 1);
        due("eight", x.count(6), 8);
        for (int left = 7; left >= 0; left--) {
            due("left", x.undo(), left);
            due("as it was", x.says(1, 0), left == 7 ? 0 : left == 6 ? 6 : left);
        }
        due("as at first", x.says(1, 0), 0);
        due("no more", x.undo(), NO);
        due("nothing changes then", x.says(1, 0), 0);
        for (int d = 1; d <= 9; d++) {
            x.day();
        }
        due("eight of nine", x.count(6), 8);
        for (int left = 7; left >= 0; left--) {
            due("left", x.undo(), left);
        }
        due("the ninth can't be", x.undo(), NO);
        due("it stays", x.count(3), 1);
    }

    private static void eightComeRoundAgain() {
        Checks.sentence("(the last 8 can be), many times over");
        GroundByHearsay x = mill("c0;");
        int days = 0;
        for (int round = 0; round < 12; round++) {
            for (int d = 0; d < 11; d++) {
                days++;
                due("day", x.day(), days);
            }
            for (int left = 7; left >= 5; left--) {
                due("undone", x.undo(), left);
                days--;
                due("days then", x.count(3), days);
            }
        }
        for (int left = 4; left >= 0; left--) {
            due("undone", x.undo(), left);
        }
        due("days left", x.count(3), days - 5);
        due("no more", x.undo(), NO);
        due("one more day", x.day(), days - 4);
        due("which can be", x.undo(), 0);
    }

    private static void eachKindUndone() {
        Checks.sentence("Two can change PLACES in the LINE; one go AWAY, come again; other words be SAID. UNDONE is ..");
        GroundByHearsay x = mill("c0;c0;c0;o1,0,6;s4;a2;");
        x.change(0, 2);
        due("places", x.undo(), 0);
        placesAre("undone", x, 0, 1, 2);
        x.away(0);
        due("gone", x.undo(), 0);
        due("there", x.customer(0, 2), 0);
        x.away(2);
        due("come", x.undo(), 0);
        due("away", x.customer(2, 2), 1);
        x.say(1, 0, 2);
        due("said", x.undo(), 0);
        due("as before", x.says(1, 0), 6);
        x.day();
        due("a day", x.undo(), 0);
        due("none gone by", x.count(3), 0);
        due("its stone", x.count(2), 4);
        x.say(1, 0, 2);
        x.day();
        x.away(1);
        due("the latest first", x.undo(), 2);
        due("the day stays", x.count(3), 1);
        due("then the day", x.undo(), 1);
        due("the word stays", x.says(1, 0), 2);
        due("another in its place", x.change(0, 1), 1);
        due("two", x.count(6), 2);
    }

    private static void notUndone() {
        Checks.sentence("UNDONE is the latest of these, or DAY (nothing else)");
        GroundByHearsay x = mill("c0;c0;o1,0,6;");
        x.day();
        x.see(0, 4);
        x.see(1, 4);
        x.forget();
        x.see(0, 8);
        x.keep();
        x.write('c');
        due("one", x.count(6), 1);
        due("the day", x.undo(), 0);
        due("what is seen stays", x.count(5), 1);
        due("what is kept stays", x.count(7), 1);
        due("the text stays", x.count(8), 14);
        due("refused", x.change(1, 1) + x.away(2) + x.say(0, 0, 0), 3 * BAD);
        due("nothing", x.undo(), NO);
        x.keep();
        due("full", x.keep(), FULL);
        due("nothing", x.count(6), 0);
    }
}
