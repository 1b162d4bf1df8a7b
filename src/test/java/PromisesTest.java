/** The promises of ../shared/DOC.md one by one, with answers worked out by hand. */
public final class PromisesTest {
    private static final int BAD = Checks.BAD, NO = Checks.NO, FULL = Checks.FULL, NONE = Checks.NONE;
    private static final String SIX = Checks.SIX;

    private static void due(String what, long got, long want) {
        Checks.due(what, got, want);
    }

    private static GroundByHearsay mill(String text) {
        return Checks.mill(text);
    }

    public static void main(String[] args) {
        newObject();
        write();
        wipe();
        fault();
        lay();
        customer();
        says();
        fineByKinds();
        fineBySilence();
        fineByTheLine();
        fineByTheStone();
        change();
        away();
        say();
        day();
        undo();
        behind();
        order();
        helpless();
        words();
        see();
        forget();
        stood();
        stoodWhere();
        said();
        mouths();
        chance();
        year();
        keep();
        back();
        count();
        asItStands();
        Checks.end();
    }

    private static void newObject() {
        GroundByHearsay x = new GroundByHearsay();
        int[] kinds = {0, 1, 2, 0, 3, 4};
        int[][] words = {{0, 1, 5}, {1, 0, 6}, {2, 0, 1}, {3, 0, 5}, {5, 3, 0}, {1, 3, 4}, {2, 3, 4}, {5, 2, 6},
            {3, 2, 1}, {0, 5, 2}, {1, 5, 6}};
        int[][] says = new int[6][6];
        for (int[] row : says) {
            java.util.Arrays.fill(row, 3);
        }
        for (int[] word : words) {
            says[word[0]][word[1]] = word[2];
        }
        for (int i = 0; i < 6; i++) {
            due("1: kind of " + i, x.customer(i, 0), kinds[i]);
            due("1: place of " + i, x.customer(i, 1), i);
            due("1: away " + i, x.customer(i, 2), 0);
            for (int j = 0; j < 6; j++) {
                due("1: says(" + i + ", " + j + ")", x.says(i, j), i == j ? BAD : says[i][j]);
            }
        }
        int[] counts = {6, 0, 4, 0, 1, 0, 0, 0, 0};
        for (int what = 0; what < counts.length; what++) {
            due("1: count(" + what + ")", x.count(what), counts[what]);
        }
        due("1: undo", x.undo(), NO);
        due("1: back", x.back(), NO);
        due("1: fault", x.fault(), NONE);
        due("1: lay of the empty text", x.lay(), NO);
        due("1: BAD", GroundByHearsay.BAD, -1);
        due("1: NO", GroundByHearsay.NO, -2);
        due("1: FULL", GroundByHearsay.FULL, -3);
        due("1: NONE", GroundByHearsay.NONE, -4);
    }

    private static void write() {
        GroundByHearsay x = new GroundByHearsay();
        for (int letter : new int[] {31, 127, 0, 10, 255, 65536 + 99, Integer.MIN_VALUE, Integer.MAX_VALUE, -1}) {
            due("2: write(" + letter + ")", x.write(letter), BAD);
        }
        due("2: first letter", x.write(32), 1);
        due("2: last letter", x.write(126), 2);
        for (int i = 3; i <= 200; i++) {
            due("2: letter " + i, x.write('c'), i);
        }
        due("2: 201", x.write('c'), FULL);
        due("2: BAD ahead of FULL", x.write(127), BAD);
        due("2: still 200", x.count(8), 200);
        due("2: wiped", x.wipe(), 200);
        due("2: room again", x.write('c'), 1);
    }

    private static void wipe() {
        GroundByHearsay x = mill("c0;c1;s7;");
        due("3: nine letters", x.wipe(), 9);
        due("3: none left", x.wipe(), 0);
        due("3: no text, no fault", x.fault(), NONE);
        due("3: what is laid stays", x.count(0), 2);
        due("3: its stone, too", x.count(2), 7);
    }

    private static void faultOf(String text, int place) {
        GroundByHearsay x = new GroundByHearsay();
        Checks.rewrite(x, text);
        due("4: fault of " + text, x.fault(), place);
        due("4: the text stays, " + text, x.count(8), text.length());
        boolean canBeLaid = place == NONE && text.indexOf('c') >= 0;
        due("4: laid " + text, x.lay() > 0 ? 1 : 0, canBeLaid ? 1 : 0);
    }

    private static void fault() {
        for (String text : new String[] {"", "c0;", "c4;", "c00;", "c04;", "s0;", "s9;", "s09;", "s1;s2;", SIX,
            "c0;a0;", "c0;a0;a00;", "c0;c0;o0,1,0;", "c0;c0;o1,0,6;", "c0;c0;o00,01,06;", "c0;c0;o0,1,2;o0,1,3;c0;"}) {
            faultOf(text, NONE);
        }
        for (String text : new String[] {"c5;", "c10;", "c", "c0", "c;", "c0,", "c0,1;", "c000;", "c-1;", "c 0;",
            " c0;", "C0;", "x0;", ";", "0;", "s10;", "s;", "s1,2;", "a0;", "o0,1,3;", "o;", "b1;", "o0,1,3"}) {
            faultOf(text, 0);
        }
        for (String text : new String[] {"c0;c5;", "c0;;", "c0; ", "c0;c", "c0;c0", "c0;a1;", "c0;o0,1,3;c0;",
            "c0;o0,0,3;", "c0;a6;", "c0;a0,0;", "c0;a", "c0;a00"}) {
            faultOf(text, 3);
        }
        for (String text : new String[] {"c0;c0;o0,1,7;", "c0;c0;o0,1;", "c0;c0;o0,1,2,3;", "c0;c0;o1,2,3;",
            "c0;c0;o2,1,3;", "c0;c0;o1,1,3;", "c0;c0;o0,1,003;", "c0;c0;o0;1;3;", "c0;c0;o0,1,3,", "c0;c0;a2;",
            "c0;c0;o0,1,3", "c0;c0;o0,,3;", "c0;c0;o,1,3;", "c0;c0;o0,1,13;", "c0;c0;x;c9;"}) {
            faultOf(text, 6);
        }
        faultOf(SIX + "c0;", 18);
        faultOf(SIX + "o5,6,0;", 18);
        faultOf("c0;c0;o0,1,6;s4;a1;q", 19);
    }

    private static void lay() {
        GroundByHearsay x = mill("c1;s2;c4;o0,1,6;s8;o0,1,2;o1,0,5;a1;a1;");
        due("5: two", x.lay(), 2);
        due("5: the text stays", x.count(8), 39);
        due("5: the last stone", x.count(2), 8);
        due("5: the last word", x.says(0, 1), 2);
        due("5: the other word", x.says(1, 0), 5);
        due("5: away", x.customer(1, 2), 1);
        due("5: there", x.customer(0, 2), 0);
        due("5: kind", x.customer(1, 0), 4);
        due("5: no third", x.customer(2, 0), BAD);
        x.day();
        x.see(0, 8);
        x.change(0, 1);
        x.keep();
        due("5: laid again", x.lay(), 2);
        due("5: no day", x.count(3), 0);
        due("5: nothing seen", x.count(5), 0);
        due("5: nothing undone", x.count(6), 0);
        due("5: nothing kept", x.count(7), 0);
        due("5: first places", x.customer(1, 1), 1);
        due("5: stone of the text", x.count(2), 8);
        x.day();
        x.keep();
        x.see(0, 8);
        due("5: a fault", Checks.relay(x, "c0;c9;"), NO);
        due("5: no customer", Checks.relay(x, "s5;"), NO);
        due("5: no text", Checks.relay(x, ""), NO);
        due("5: nothing changed, day", x.count(3), 1);
        due("5: nothing changed, customers", x.count(0), 2);
        due("5: nothing changed, kept", x.count(7), 1);
        due("5: nothing changed, undone", x.count(6), 1);
        due("5: nothing changed, seen", x.count(5), 1);
        due("5: one customer", Checks.relay(x, "c3;"), 1);
        due("5: stone without", x.count(2), 4);
        due("5: none of the earlier ones away", x.count(1), 0);
        due("5: six", Checks.relay(x, SIX), 6);
        due("5: words without", x.says(0, 1), 3);
    }

    private static void customer() {
        GroundByHearsay x = mill("c3;c2;c4;a0;");
        x.change(0, 2);
        int[][] all = {{3, 2, 1}, {2, 1, 0}, {4, 0, 0}};
        for (int c = 0; c < 3; c++) {
            for (int what = 0; what < 3; what++) {
                due("6: customer(" + c + ", " + what + ")", x.customer(c, what), all[c][what]);
            }
            due("6: what 3", x.customer(c, 3), BAD);
        }
        x.away(2);
        due("6: who is away counts as ahead", x.customer(1, 1), 1);
        due("6: no such customer", x.customer(3, 0), BAD);
        for (int wild : Checks.WILD) {
            due("6: customer " + wild, x.customer(wild, 0), BAD);
            due("6: what " + wild, x.customer(0, wild), BAD);
        }
    }

    private static void says() {
        GroundByHearsay x = mill("c0;c0;c0;o0,1,6;o1,0,0;o2,1,4;o2,1,1;");
        due("7: most", x.says(0, 1), 6);
        due("7: least", x.says(1, 0), 0);
        due("7: the last one", x.says(2, 1), 1);
        due("7: without", x.says(1, 2), 3);
        due("7: alike", x.says(1, 1), BAD);
        due("7: no such one", x.says(1, 3), BAD);
        due("7: no such sayer", x.says(3, 1), BAD);
        for (int wild : Checks.WILD) {
            due("7: says(" + wild + ", 0)", x.says(wild, 0), BAD);
            due("7: says(0, " + wild + ")", x.says(0, wild), BAD);
            due("7: both " + wild, x.says(wild, wild), BAD);
        }
    }

    private static void fineIs(String text, int fine) {
        due("8: fine of " + text, mill(text).fine(0, 0), fine);
    }

    private static void fineByKinds() {
        fineIs("c0;", 4);
        fineIs("c0;c0;o1,0,5;", 6);
        fineIs("c0;c0;o1,0,1;", 2);
        fineIs("c0;c1;o1,0,5;", 8);
        fineIs("c0;c1;o1,0,1;", 0);
        fineIs("c0;c2;o1,0,5;", 6);
        fineIs("c0;c3;o1,0,5;", 4);
        fineIs("c0;c4;o1,0,5;", 2);
        fineIs("c0;c4;o1,0,0;", 7);
        for (int kind = 0; kind <= 4; kind++) {
            fineIs("c" + kind + ";c0;o1,0,6;", 7);
        }
    }

    private static void fineBySilence() {
        String twice = "o1,0,5;o2,0,5;";
        fineIs("c0;c0;c0;" + twice, 6);
        fineIs("c0;c0;c0;o1,0,5;o2,0,4;", 7);
        fineIs("c0;c0;c2;" + twice, 8);
        fineIs("c0;c2;c0;" + twice, 8);
        fineIs("c0;c2;c2;" + twice, 8);
        fineIs("c0;c3;c0;" + twice, 6);
        fineIs("c0;c0;c3;" + twice, 6);
        fineIs("c0;c4;c0;" + twice, 2);
        fineIs("c0;c0;c4;" + twice, 6);
        fineIs("c0;c1;c0;" + twice, 8);
        fineIs("c0;c0;c1;" + twice, 6);
        fineIs("c0;c4;c0;o1,0,5;o2,0,1;", 0);
        fineIs("c0;c0;c0;c0;o1,0,4;o2,0,4;o3,0,4;", 5);
        fineIs("c0;c0;c4;c0;o1,0,4;o2,0,5;o3,0,5;", 3);
        fineIs("c0;c0;c2;c0;o1,0,4;o2,0,4;o3,0,4;", 6);
        fineIs("c0;c0;c0;c2;o1,0,4;o2,0,4;o3,0,4;", 6);
    }

    private static void fineByTheLine() {
        fineIs("c0;c0;c0;c0;c0;o4,0,6;", 4);
        fineIs("c0;c0;c0;c0;c0;o3,0,6;", 7);
        fineIs("c0;c0;c0;c0;c0;o4,0,6;a1;", 7);
        fineIs("c0;c3;c3;c3;c0;o4,0,6;", 4);
        GroundByHearsay x = mill("c0;c0;o0,1,6;o1,0,6;");
        due("8: those behind are heard", x.fine(0, 0), 7);
        due("8: those ahead are not", x.fine(1, 0), 5);
        x.change(0, 1);
        due("8: the other way", x.fine(1, 0), 7);
        due("8: no more", x.fine(0, 0), 5);
        due("8: not two", x.fine(0, 2), BAD);
        due("8: no such one", x.fine(2, 0), BAD);
        x.away(1);
        due("8: alone", x.fine(0, 0), 4);
        due("8: away", x.fine(1, 0), NO);
        due("8: away, his bread", x.fine(1, 1), NO);
        due("8: BAD ahead of NO", x.fine(1, 2), BAD);
        for (int wild : Checks.WILD) {
            due("8: fine(" + wild + ", 0)", x.fine(wild, 0), BAD);
            due("8: fine(0, " + wild + ")", x.fine(0, wild), BAD);
        }
    }

    private static void fineByTheStone() {
        fineIs("c0;c1;o1,0,6;s9;", 9);
        fineIs("c0;c1;o1,0,0;s1;", 0);
        fineIs("c0;c1;c0;o1,0,6;o2,0,0;s8;", 9);
        GroundByHearsay x = mill("c0;c0;c0;o1,0,6;o2,1,0;s4;");
        due("8: first", x.fine(0, 0), 7);
        due("8: by a stone of 5", x.fine(1, 0), 2);
        due("8: by a stone of 4 again", x.fine(2, 0), 4);
        due("8: nothing is ground by asking", x.count(2), 4);
        int[] breads = {0, 0, 1, 1, 1, 2, 2, 2, 3, 3};
        for (int s = 0; s <= 9; s++) {
            due("8: fine by stone " + s, mill("c0;s" + s + ";").fine(0, 0), s);
            due("8: bread by stone " + s, mill("c0;s" + s + ";").fine(0, 1), breads[s]);
        }
    }

    private static void change() {
        GroundByHearsay x = mill("c0;c1;c2;");
        due("9: to the end", x.change(0, 2), 2);
        due("9: the other one", x.customer(2, 1), 0);
        due("9: who stays", x.customer(1, 1), 1);
        due("9: the second one told", x.change(1, 2), 0);
        due("9: alike", x.change(1, 1), BAD);
        due("9: no such one", x.change(0, 3), BAD);
        due("9: no such first one", x.change(3, 0), BAD);
        for (int wild : Checks.WILD) {
            due("9: change(" + wild + ", 0)", x.change(wild, 0), BAD);
            due("9: change(0, " + wild + ")", x.change(0, wild), BAD);
        }
        due("9: two to be undone", x.count(6), 2);
        x.away(1);
        due("9: one away has a place, too", x.change(1, 0), 2);
        due("9: and counts as ahead", x.change(2, 0), 0);
    }

    private static void away() {
        GroundByHearsay x = mill("c0;c0;o1,0,6;");
        due("10: goes", x.away(1), 1);
        due("10: is away", x.customer(1, 2), 1);
        due("10: as if not there", x.fine(0, 0), 4);
        due("10: keeps his place", x.customer(1, 1), 1);
        due("10: one away", x.count(1), 1);
        due("10: comes", x.away(1), 0);
        due("10: is there", x.customer(1, 2), 0);
        due("10: heard again", x.fine(0, 0), 7);
        due("10: no such one", x.away(2), BAD);
        for (int wild : Checks.WILD) {
            due("10: away(" + wild + ")", x.away(wild), BAD);
        }
        due("10: two to be undone", x.count(6), 2);
        due("10: first at first", mill("c0;a0;").away(0), 0);
    }

    private static void say() {
        GroundByHearsay x = mill("c0;c0;o1,0,6;");
        due("11: what was", x.say(1, 0, 0), 6);
        due("11: what is", x.says(1, 0), 0);
        due("11: heard", x.fine(0, 0), 1);
        due("11: not the other way", x.says(0, 1), 3);
        due("11: what was without", x.say(0, 1, 4), 3);
        due("11: 7", x.say(0, 1, 7), BAD);
        due("11: -1", x.say(0, 1, -1), BAD);
        due("11: alike", x.say(1, 1, 3), BAD);
        due("11: no such one", x.say(1, 2, 3), BAD);
        due("11: no such sayer", x.say(2, 1, 3), BAD);
        for (int wild : Checks.WILD) {
            due("11: say(" + wild + ", 0, 1)", x.say(wild, 0, 1), BAD);
            due("11: say(0, " + wild + ", 1)", x.say(0, wild, 1), BAD);
            due("11: say(0, 1, " + wild + ")", x.say(0, 1, wild), BAD);
        }
        due("11: nothing changed", x.says(0, 1), 4);
        due("11: two to be undone", x.count(6), 2);
        due("11: the same again", x.say(0, 1, 4), 4);
        due("11: three to be undone", x.count(6), 3);
    }

    private static void day() {
        GroundByHearsay x = mill("c0;c0;c0;o1,0,6;o2,0,5;s4;");
        due("12: first day", x.day(), 1);
        due("12: 9, 5, 5 by stones of 4, 5, 5", x.count(2), 5);
        due("12: second day", x.day(), 2);
        due("12: worn to 6", x.count(2), 6);
        due("12: two gone by", x.count(3), 2);
        due("12: to be undone", x.count(6), 2);
        GroundByHearsay down = mill("c0;c1;c1;o1,0,0;o2,1,0;s9;");
        down.day();
        due("12: down by 9, 3 and 2, 8: 8, 7, 7", down.count(2), 7);
        GroundByHearsay empty = mill("c0;a0;s8;");
        due("12: a day for nobody", empty.day(), 1);
        due("12: no wear", empty.count(2), 8);
        GroundByHearsay guest = mill("c0;c0;o1,0,6;a0;");
        guest.day();
        due("12: nothing is ground for who is away", guest.count(2), 4);
    }

    private static void undo() {
        GroundByHearsay x = mill("c0;c0;c0;o1,0,6;");
        due("13: nothing", x.undo(), NO);
        x.change(0, 2);
        x.change(0, 2);
        x.say(1, 0, 2);
        x.day();
        x.away(2);
        x.see(0, 4);
        due("13: five can be, coming back", x.undo(), 4);
        due("13: there again", x.customer(2, 2), 0);
        due("13: the day", x.undo(), 3);
        due("13: no day", x.count(3), 0);
        due("13: its stone", x.count(2), 4);
        due("13: the word", x.undo(), 2);
        due("13: as it was said", x.says(1, 0), 6);
        due("13: the places", x.undo(), 1);
        due("13: changed once", x.customer(0, 1), 2);
        due("13: the first", x.undo(), 0);
        due("13: as at first", x.customer(0, 1), 0);
        due("13: no more", x.undo(), NO);
        due("13: what is seen stays", x.count(5), 1);
        for (int d = 1; d <= 10; d++) {
            x.day();
            due("13: the last 8", x.count(6), Math.min(d, 8));
        }
        for (int left = 7; left >= 0; left--) {
            due("13: left", x.undo(), left);
        }
        due("13: the first two stay", x.count(3), 2);
        due("13: all gone", x.undo(), NO);
        x.change(0, 0);
        x.away(9);
        x.say(0, 1, 9);
        x.see(0, 1);
        x.keep();
        due("13: none of these can be", x.undo(), NO);
    }

    private static void behind() {
        GroundByHearsay x = mill("c0;c0;c0;o1,0,6;a2;s4;");
        due("14: the stone", x.behind(0, -1), 4);
        due("14: none yet", x.behind(0, 0), NONE);
        due("14: one day", x.behind(1, -1), 5);
        due("14: had 7", x.behind(1, 0), 7);
        due("14: had 5", x.behind(1, 1), 5);
        due("14: away", x.behind(1, 2), NONE);
        due("14: two days", x.behind(2, 0), 8);
        due("14: stone of two", x.behind(2, -1), 6);
        due("14: sixty", x.behind(60, -1), 9);
        due("14: had 9", x.behind(60, 1), 9);
        due("14: 61", x.behind(61, 0), BAD);
        due("14: -1", x.behind(-1, 0), BAD);
        due("14: -2", x.behind(1, -2), BAD);
        due("14: no such one", x.behind(1, 3), BAD);
        for (int wild : Checks.WILD) {
            due("14: behind(" + wild + ", 0)", x.behind(wild, 0), BAD);
            due("14: behind(1, " + wild + ")", x.behind(1, wild), wild == -1 ? 5 : BAD);
        }
        due("14: nothing has changed", x.count(2), 4);
        due("14: no day", x.count(3), 0);
        due("14: nothing to undo", x.count(6), 0);
        x.day();
        due("14: from now on", x.behind(1, 0), 8);
    }

    private static void orderIs(GroundByHearsay x, int c, int fine, int... row) {
        due("15: order(" + c + ", 0)", x.order(c, 0), fine);
        for (int k = 1; k <= 6; k++) {
            due("15: order(" + c + ", " + k + ")", x.order(c, k), k <= row.length ? row[k - 1] : NONE);
        }
    }

    private static void order() {
        GroundByHearsay x = mill("c0;c0;c0;o0,2,6;s4;");
        orderIs(x, 2, 7, 1, 2, 0);
        orderIs(x, 0, 5, 1, 2, 0);
        orderIs(x, 1, 5, 2, 0, 1);
        orderIs(mill("c0;c0;c0;o1,0,0;s4;"), 0, 4, 1, 0, 2);
        orderIs(mill("c0;c0;c0;s3;"), 1, 3, 0, 1, 2);
        orderIs(mill("c0;c0;s1;"), 1, NONE);
        orderIs(mill("c0;c0;c0;c0;c0;c0;s9;"), 5, 9, 0, 1, 2, 3, 4, 5);
        orderIs(mill("c0;c0;c0;o1,0,6;a1;"), 0, 4, 0, 2);
        // only where each one waits ahead of him who praises him the stone is worn five times
        orderIs(mill(SIX + "s2;o0,1,6;o1,2,6;o2,3,6;o3,4,6;o4,5,6;"), 0, 7, 5, 4, 3, 2, 1, 0);
        x.change(0, 2);
        orderIs(x, 2, 7, 1, 2, 0);
        due("15: k 7", x.order(0, 7), BAD);
        due("15: k -1", x.order(0, -1), BAD);
        due("15: no such one", x.order(3, 0), BAD);
        x.away(0);
        due("15: away", x.order(0, 0), NO);
        due("15: BAD ahead of NO", x.order(0, 7), BAD);
        due("15: NO ahead of NONE", x.order(0, 6), NO);
        due("15: those ahead stay", x.customer(2, 1), 0);
        for (int wild : Checks.WILD) {
            due("15: order(" + wild + ", 0)", x.order(wild, 0), BAD);
            due("15: order(1, " + wild + ")", x.order(1, wild), BAD);
        }
    }

    private static void helpless() {
        due("16: nobody", mill("c0;c0;s4;").helpless(), 0);
        due("16: all", mill("c0;c0;c0;s1;").helpless(), 7);
        due("16: but who is away", mill("c0;c0;c0;s1;a1;").helpless(), 5);
        due("16: one whom another helps", mill("c0;c0;o1,0,5;s0;").helpless(), 2);
        due("16: helped by a worn stone", mill("c0;c0;c0;o1,0,6;s1;").helpless(), 0);
        due("16: the first one, too, but not in the first order", mill("c0;c0;c0;o2,1,6;s1;").helpless(), 0);
        due("16: not by who is away", mill("c0;c0;c0;o1,0,6;s1;a1;").helpless(), 5);
        due("16: nobody there", mill("c0;a0;s0;").helpless(), 0);
        due("16: as they can stand", mill("c0;c1;o0,1,6;s0;").helpless(), 1);
    }

    private static void words() {
        GroundByHearsay x = mill("c0;c3;c1;c2;c0;c0;o2,0,1;o3,0,1;s0;");
        due("17: bran", x.words(0, 0), 0);
        due("17: brown by the widow, less 2 by the child", x.words(0, 1), 4);
        due("17: white by both", x.words(0, 2), 12);
        due("17: wafers by both", x.words(0, 3), 12);
        due("17: the last one has none", x.words(5, 1), NONE);
        due("17: his bran", x.words(5, 0), 0);
        due("17: the fourth is helped by the fifth", x.words(3, 1), 16);
        due("17: lowest of several", mill("c0;c0;c0;c0;s2;").words(0, 2), 2);
        due("17: two as much are heard as one", mill("c0;c0;c0;c0;s2;").words(0, 3), NONE);
        due("17: a wit's 3 is 3 less", mill("c0;c4;o1,0,6;s4;").words(0, 2), NONE);
        due("17: behind a wit's 3 nobody else's is heard", mill("c0;c4;c0;s4;").words(0, 2), 4);
        due("17: and here the wit's is what it is", mill("c0;c4;c0;o1,0,6;s4;").words(0, 2), NONE);
        due("17: fewest, not lowest", mill("c0;c0;c2;c1;s2;").words(0, 3), 8);
        due("17: by the first one", mill("c0;c4;c0;o0,2,4;s4;").words(0, 2), 4);
        GroundByHearsay turned = mill("c0;c0;c0;s2;");
        turned.change(0, 2);
        due("17: by the first one told, who stands last", turned.words(2, 2), 1);
        due("17: he has it", mill("c0;c0;s8;").words(0, 3), 0);
        GroundByHearsay y = mill("c0;c0;c1;s0;a1;");
        due("17: who is away helps not", y.words(0, 1), 4);
        due("17: away", y.words(1, 1), NO);
        due("17: BAD ahead of NO", y.words(1, 4), BAD);
        due("17: 4", y.words(0, 4), BAD);
        due("17: no such one", y.words(3, 0), BAD);
        due("17: nothing is said by asking", y.says(2, 0), 3);
        for (int wild : Checks.WILD) {
            due("17: words(" + wild + ", 0)", y.words(wild, 0), BAD);
            due("17: words(0, " + wild + ")", y.words(0, wild), BAD);
        }
    }

    private static void see() {
        GroundByHearsay x = mill("c0;c0;a1;");
        due("18: first", x.see(0, 0), 1);
        due("18: second, of the same one", x.see(0, 9), 2);
        due("18: 10", x.see(0, 10), BAD);
        due("18: -1", x.see(0, -1), BAD);
        due("18: no such one", x.see(2, 0), BAD);
        due("18: away", x.see(1, 0), NO);
        due("18: BAD ahead of NO", x.see(1, 10), BAD);
        for (int i = 3; i <= 6; i++) {
            due("18: once more", x.see(0, 4), i);
        }
        due("18: no more", x.see(0, 4), FULL);
        due("18: NO ahead of FULL", x.see(1, 4), NO);
        due("18: BAD ahead of FULL", x.see(0, 10), BAD);
        due("18: six", x.count(5), 6);
        due("18: both can't be so", x.stood(0), 0);
        for (int wild : Checks.WILD) {
            due("18: see(" + wild + ", 0)", x.see(wild, 0), BAD);
            due("18: see(0, " + wild + ")", x.see(0, wild), BAD);
        }
    }

    private static void forget() {
        GroundByHearsay x = mill("c0;");
        due("19: none", x.forget(), 0);
        x.see(0, 1);
        x.see(0, 2);
        due("19: two", x.forget(), 2);
        due("19: none left", x.forget(), 0);
        due("19: none counted", x.count(5), 0);
        due("19: all is so again", x.stood(0), 256);
        due("19: room again", x.see(0, 4), 1);
        due("19: and it is so", x.stood(0), 256);
    }

    private static void stood() {
        GroundByHearsay x = mill("c0;c0;c0;o1,0,6;a1;s4;");
        due("20: two there, three places, nothing seen", x.stood(0), 256 + 3);
        due("20: the first", x.stood(1), 10);
        x.see(0, 7);
        due("20: behind 0", x.stood(0), 2);
        due("20: behind one", x.stood(1), 11);
        x.see(2, 5);
        due("20: the stone as worn", x.stood(0), 2);
        x.see(2, 4);
        due("20: not both", x.stood(0), 0);
        due("20: none", x.stood(1), NONE);
        due("20: 2", x.stood(2), BAD);
        for (int wild : Checks.WILD) {
            due("20: stood(" + wild + ")", x.stood(wild), BAD);
        }
        x.forget();
        x.see(0, 4);
        due("20: as it is, or he ahead", x.stood(0), 256 + 1);
        due("20: he ahead", x.stood(1), 10);
        x.away(0);
        due("20: who is away has none", x.stood(0), 0);
        x.away(1);
        due("20: nor had who came", x.stood(1), NONE);
        due("20: all away, two of two and 0", mill("c0;c0;a0;a1;").stood(0), 256 + 2);
    }

    private static void stoodWhere() {
        // he who stands without corn is one of the three who are heard, so that the fourth is not
        GroundByHearsay x = mill("c0;c0;c0;c0;c0;o3,0,6;a4;s4;");
        x.see(0, 4);
        due("20: ahead of the third", x.stood(0), 3);
        due("20: behind one", x.stood(1), 41);
        GroundByHearsay y = mill("c0;c0;c0;o1,0,5;o2,0,5;a1;s4;");
        y.see(0, 6);
        due("20: his word silences as much", y.stood(0), 256 + 3);
        GroundByHearsay z = mill("c0;c0;c0;o1,0,6;o2,1,6;a1;s4;");
        z.see(2, 5);
        due("20: nothing ground for him wears the stone", z.stood(0), 2);
        GroundByHearsay two = mill("c0;c1;c0;o1,0,4;o2,0,5;a1;a2;s4;");
        two.see(0, 6);
        due("20: either of two", two.stood(0), 2);
        due("20: the first by him", two.stood(1), 11);
        two.see(0, 6);
        two.change(1, 2);
        due("20: by his number, not his place", two.stood(1), 11);
        two.see(1, 6);
        due("20: the same, seen twice", two.stood(0), 2);
    }

    private static void said() {
        GroundByHearsay x = mill("c0;c0;c1;a1;s4;");
        due("21: nothing seen", x.said(2, 0), 127);
        x.see(0, 8);
        due("21: a widow's 2", x.said(2, 0), 32);
        due("21: none by one ahead", x.said(0, 2), 0);
        due("21: none by one away", x.said(1, 0), 0);
        x.forget();
        x.see(0, 9);
        due("21: at most 9", x.said(2, 0), 64);
        x.forget();
        x.see(0, 0);
        due("21: at least 0", x.said(2, 0), 2 | 1);
        x.forget();
        x.see(0, 4);
        due("21: as it is", x.said(2, 0), 8);
        due("21: whatever is said by one away", x.said(1, 0), 127);
        due("21: or of one away", x.said(0, 1), 127);
        x.see(2, 4);
        due("21: both", x.said(2, 0), 8);
        x.say(2, 0, 6);
        due("21: in place of what is", x.said(2, 0), 8);
        due("21: what is stays", x.says(2, 0), 6);
        due("21: alike", x.said(1, 1), BAD);
        due("21: no such one", x.said(0, 3), BAD);
        due("21: no such sayer", x.said(3, 0), BAD);
        for (int wild : Checks.WILD) {
            due("21: said(" + wild + ", 0)", x.said(wild, 0), BAD);
            due("21: said(0, " + wild + ")", x.said(0, wild), BAD);
        }
        GroundByHearsay y = mill("c0;c0;c0;o1,0,5;s4;");
        y.see(0, 6);
        due("21: nothing, or as much as is said nearer", y.said(2, 0), 8 | 32);
    }

    private static void mouths() {
        GroundByHearsay x = mill("c0;c0;c0;c0;c0;");
        due("22: only the nearest of three zeros", x.mouths(0), 2);
        due("22: nobody behind", x.mouths(4), 0);
        due("22: children's zeros, too", mill("c0;c2;c2;c2;c2;").mouths(0), 14);
        due("22: not a deaf one's", mill("c0;c3;c0;c3;c0;").mouths(0), 4);
        due("22: each says another thing", mill("c0;c1;c4;c0;o1,0,1;o2,0,2;").mouths(0), 14);
        due("22: a wit's against a plain one's as much", mill("c0;c4;c0;o1,0,6;o2,0,6;").mouths(0), 2);
        due("22: the other way is not as much", mill("c0;c4;c0;o1,0,6;o2,0,0;").mouths(0), 6);
        x.away(1);
        due("22: the next one then", x.mouths(0), 4);
        due("22: away", x.mouths(1), NO);
        x.change(0, 2);
        due("22: by places", x.mouths(2), 1);
        due("22: no such one", x.mouths(5), BAD);
        for (int wild : Checks.WILD) {
            due("22: mouths(" + wild + ")", x.mouths(wild), BAD);
        }
    }

    private static void chanceIs(String text, int b, int x, int above, int below) {
        GroundByHearsay mill = mill(text);
        String call = "23: chance of " + text + " " + b + " by " + x;
        due(call + ", above", mill.chance(0, b, x, 0), above);
        due(call + ", below", mill.chance(0, b, x, 1), below);
    }

    private static void chance() {
        chanceIs("c0;", 1, 5, 1, 1);
        chanceIs("c0;", 2, 5, 0, 1);
        chanceIs("c0;c0;o1,0,6;", 2, 3, 7, 10);
        chanceIs("c0;c0;o1,0,6;", 2, 0, 1, 1);
        chanceIs("c0;c0;o1,0,6;", 2, 10, 0, 1);
        chanceIs("c0;c0;o1,0,6;", 2, 4, 3, 5);
        chanceIs("c0;c0;o1,0,6;", 0, 4, 1, 1);
        chanceIs("c0;c0;c0;o1,0,6;o2,0,6;", 2, 5, 3, 4);
        chanceIs("c0;c0;c0;o1,0,6;o2,0,5;", 3, 1, 81, 100);
        chanceIs("c0;c0;c0;o1,0,6;o2,0,5;a1;", 2, 1, 9, 10);
        // he must come, and two at most of the four ahead of him: (1 + 4 + 6) of 2 times 16
        chanceIs("c0;c0;c0;c0;c0;c0;o5,0,6;", 2, 5, 11, 32);
        chanceIs("c0;c0;c0;c0;c0;c0;o5,0,6;", 2, 1, 4707, 100000);
        GroundByHearsay x = mill("c0;c0;o1,0,6;a1;");
        due("23: away", x.chance(1, 0, 5, 0), NO);
        due("23: BAD ahead of NO", x.chance(1, 0, 5, 2), BAD);
        due("23: b 4", x.chance(0, 4, 5, 0), BAD);
        due("23: x 11", x.chance(0, 0, 11, 0), BAD);
        due("23: part 2", x.chance(0, 0, 5, 2), BAD);
        due("23: no such one", x.chance(2, 0, 5, 0), BAD);
        for (int wild : Checks.WILD) {
            due("23: customer " + wild, x.chance(wild, 0, 5, 0), BAD);
            due("23: bread " + wild, x.chance(0, wild, 5, 0), BAD);
            due("23: tenths " + wild, x.chance(0, 0, wild, 0), BAD);
            due("23: part " + wild, x.chance(0, 0, 5, wild), BAD);
        }
        due("23: all stay as they are", x.count(1), 1);
    }

    private static void yearIs(GroundByHearsay x, int z, int n, int stone, int bran) {
        due("24: stone by " + z + " of " + n, x.year(z, n, 0), stone);
        due("24: bran by " + z + " of " + n, x.year(z, n, 1), bran);
    }

    private static void year() {
        // DRAW by z 0: 0, 5185, 1287: no change, then 1 and 0, then 1 and 0 of two
        GroundByHearsay two = mill("c0;c0;o1,0,6;s0;");
        yearIs(two, 0, 1, 1, 1);
        yearIs(two, 0, 2, 1, 3);
        yearIs(two, 0, 3, 2, 3);
        // by z 2: 7441, 1890: 1 and 0 of two, then no change, so that places stay changed
        yearIs(two, 2, 1, 0, 2);
        yearIs(two, 2, 2, 0, 4);
        // by z 4: 5466, 5558: 0 and 2 of three, then the CUSTOMERS 2 and 1, not those on these places
        yearIs(mill("c0;c0;c0;o0,1,6;s0;"), 4, 2, 2, 2);
        // by z 1: 2850: 0 and 2 of three, one of them AWAY
        yearIs(mill("c0;c0;c0;o1,0,6;s0;a2;"), 1, 1, 0, 2);
        due("24: places stay", two.customer(0, 1), 0);
        due("24: no day", two.count(3), 0);
        due("24: z 10000", two.year(10000, 1, 0), BAD);
        due("24: n 61", two.year(0, 61, 0), BAD);
        due("24: n 0", two.year(0, 0, 0), BAD);
        due("24: what 2", two.year(0, 1, 2), BAD);
        for (int wild : Checks.WILD) {
            due("24: z " + wild, two.year(wild, 1, 0), wild == 100 ? two.year(100, 1, 0) : BAD);
            due("24: n " + wild, two.year(0, wild, 0), BAD);
            due("24: what " + wild, two.year(0, 1, wild), BAD);
        }
        GroundByHearsay alone = mill("c0;s1;");
        due("24: sixty times bran", alone.year(9999, 60, 1), 60);
        due("24: his stone", alone.year(9999, 60, 0), 1);
        due("24: who is away has none", mill("c0;c0;s1;a1;").year(9999, 60, 1), 60);
        due("24: nobody there", mill("c0;a0;s1;").year(1, 60, 1), 0);
        due("24: nothing to undo", alone.count(6), 0);
    }

    private static void keep() {
        GroundByHearsay x = mill("c0;c0;");
        due("25: one", x.keep(), 1);
        due("25: two", x.keep(), 2);
        due("25: no more", x.keep(), FULL);
        due("25: two kept", x.count(7), 2);
        due("25: none to undo", x.count(6), 0);
        x.back();
        due("25: room again", x.keep(), 2);
    }

    private static void back() {
        GroundByHearsay x = mill("c0;c0;c0;o1,0,6;s4;");
        due("26: nothing kept", x.back(), NO);
        x.keep();
        x.change(0, 2);
        x.say(1, 0, 0);
        x.away(2);
        x.day();
        x.keep();
        int stone = x.count(2);
        x.day();
        x.away(2);
        x.see(0, 5);
        x.write('q');
        due("26: one left", x.back(), 1);
        due("26: a day", x.count(3), 1);
        due("26: its stone", x.count(2), stone);
        due("26: away", x.customer(2, 2), 1);
        due("26: changed", x.customer(0, 1), 2);
        due("26: said", x.says(1, 0), 0);
        due("26: nothing to undo", x.undo(), NO);
        due("26: what is seen stays", x.count(5), 1);
        due("26: the text stays", x.count(8), 20);
        x.day();
        due("26: none left", x.back(), 0);
        due("26: no day", x.count(3), 0);
        due("26: as at first, the place", x.customer(0, 1), 0);
        due("26: as at first, the word", x.says(1, 0), 6);
        due("26: as at first, all there", x.count(1), 0);
        due("26: as at first, the stone", x.count(2), 4);
        due("26: nothing undone", x.count(6), 0);
        x.day();
        due("26: nothing kept then", x.back(), NO);
        due("26: nothing changes then", x.count(6), 1);
        x.keep();
        x.undo();
        due("26: undone, then back", x.back(), 0);
        due("26: the day again", x.count(3), 1);
    }

    private static void count() {
        GroundByHearsay x = mill("c0;c0;c0;a1;s1;");
        x.day();
        x.away(2);
        x.away(2);
        x.see(0, 1);
        x.see(2, 1);
        x.keep();
        int[] counts = {3, 1, 1, 1, 2, 2, 3, 1, 15};
        for (int what = 0; what < counts.length; what++) {
            due("27: count(" + what + ")", x.count(what), counts[what]);
        }
        due("27: 9", x.count(9), BAD);
        for (int wild : Checks.WILD) {
            due("27: count(" + wild + ")", x.count(wild), BAD);
        }
        due("27: bran by 1, brown by 2", mill("c0;s2;").count(4), 0);
    }

    /** A text that is only looked at, ahead of each call, has no part in the answers. */
    private static void asItStands() {
        GroundByHearsay x = mill("c0;c0;c1;o1,0,6;a2;s4;");
        Checks.rewrite(x, "c4;s9;");
        int[] dues = {0, 1, 1, 6, 7, 2, 7, 5, 7, 1, 0, NONE, 0, NO, 1, 112, 256 + 3, 2, 7, 10, 5, 0, 0, 5};
        for (int which = 0; which < dues.length; which++) {
            due("4: no fault", x.fault(), NONE);
            due("5: as laid, question " + which, asWhich(x, which), dues[which]);
        }
        x.fault();
        due("9: as laid", x.change(0, 1), 1);
        x.fault();
        due("13: as laid, undone", x.undo(), 0);
        x.fault();
        due("11: as laid", x.say(2, 1, 0), 3);
        x.fault();
        due("10: as laid", x.away(2), 0);
        x.fault();
        due("25: as laid", x.keep(), 1);
        x.fault();
        due("12: as laid", x.day(), 1);
        due("12: by 7, 0 and 4", x.count(2), 4);
        x.fault();
        due("13: the day undone", x.undo(), 2);
        due("13: come again undone", x.undo(), 1);
        due("13: away", x.customer(2, 2), 1);
        due("13: the word undone", x.undo(), 0);
        due("13: as said before", x.says(2, 1), 3);
        x.fault();
        due("26: as kept", x.back(), 0);
        due("26: the word", x.says(2, 1), 0);
        due("26: there", x.count(1), 0);
        GroundByHearsay coarse = mill("c0;c0;s1;");
        Checks.rewrite(coarse, "c0;s9;");
        coarse.fault();
        due("16: as laid", coarse.helpless(), 3);
    }

    private static int asWhich(GroundByHearsay x, int which) {
        switch (which) {
            case 0: return x.customer(1, 0);
            case 1: return x.customer(1, 1);
            case 2: return x.customer(2, 2);
            case 3: return x.says(1, 0);
            case 4: return x.fine(0, 0);
            case 5: return x.fine(1, 1);
            case 6: return x.behind(1, 0);
            case 7: return x.behind(1, -1);
            case 8: return x.order(0, 0);
            case 9: return x.order(0, 2);
            case 10: return x.helpless();
            case 11: return x.words(0, 3);
            case 12: return x.words(0, 2);
            case 13: return x.words(2, 0);
            case 14: return x.see(1, 5);
            case 15: return x.said(1, 0);
            case 16: return x.stood(0);
            case 17: return x.mouths(0);
            case 18: return x.chance(0, 2, 3, 0);
            case 19: return x.chance(0, 2, 3, 1);
            case 20: return x.year(0, 1, 0);
            case 21: return x.year(0, 1, 1);
            case 22: return x.count(4);
            default: return x.behind(1, 1);
        }
    }
}
