/** The edges of THE TEXT, its ITEMS, FAULT and LAID (promises 1 to 5), a sentence of the document each. */
public final class TextEdgesTest {
    private static final int BAD = Checks.BAD, NO = Checks.NO, FULL = Checks.FULL, NONE = Checks.NONE;
    private static final String SIX = Checks.SIX, TWO = "c0;c0;";
    /** Each number that an ITEM can have, behind TWO; 1 and 01 are right for all of them. */
    private static final String[] ONE_NUMBER = {"c#;", "s#;", "a#;", "o#,0,3;", "o0,#,3;", "o1,0,#;"};

    public static void main(String[] args) {
        lettersWritten();
        lettersRefused();
        twoHundredLetters();
        textCutOff();
        roomForOneMore();
        wiped();
        emptyText();
        itemsOneBehindTheOther();
        lettersOfItems();
        figures();
        partedAndEnded();
        kinds();
        sixAtMost();
        wordsToldOf();
        unlike();
        bothToldAhead();
        zeroWithout();
        lastOfEachTwo();
        stones();
        stoneWithout();
        lastStone();
        awayToldAhead();
        awayOnceMore();
        firstFault();
        oneCustomerAtLeast();
        refusedToLay();
        laidAnew();
        laidAtFirst();
        fiveHundredAndTwelveCalls();
        Checks.end();
    }

    private static void due(String what, long got, long want) {
        Checks.due(what, got, want);
    }

    private static GroundByHearsay written(String text) {
        GroundByHearsay x = new GroundByHearsay();
        Checks.rewrite(x, text);
        return x;
    }

    private static void faultIs(String text, int place) {
        GroundByHearsay x = written(text);
        due("length of " + text, x.count(8), text.length());
        due("fault of " + text, x.fault(), place);
        if (place != NONE) {
            due("lay of " + text, x.lay(), NO);
        }
    }

    private static void right(String... texts) {
        for (String text : texts) {
            faultIs(text, NONE);
        }
    }

    private static void wrongAt(int place, String... texts) {
        for (String text : texts) {
            faultIs(text, place);
        }
    }

    private static void lettersWritten() {
        Checks.sentence("A letter (32 to 126, as in ASCII) comes behind THE TEXT: how long it is.");
        GroundByHearsay x = new GroundByHearsay();
        for (int letter = 32; letter <= 126; letter++) {
            due("write(" + letter + ")", x.write(letter), letter - 31);
        }
        due("all of them", x.count(8), 95);
    }

    private static void lettersRefused() {
        Checks.sentence("A letter (32 to 126, as in ASCII) .. BAD");
        GroundByHearsay x = written("c0;");
        for (int letter = -40; letter < 32; letter++) {
            due("write(" + letter + ")", x.write(letter), BAD);
        }
        for (int letter = 127; letter < 300; letter++) {
            due("write(" + letter + ")", x.write(letter), BAD);
        }
        for (int letter : new int[] {Integer.MIN_VALUE, Integer.MAX_VALUE, 256 + 'c', 65536 + 'c', 'c' - 256}) {
            due("write(" + letter + ")", x.write(letter), BAD);
        }
        due("no longer than it was", x.count(8), 3);
        due("no fault", x.fault(), NONE);
        due("the next letter", x.write('s'), 4);
    }

    /** 18 letters of six CUSTOMERS and 26 words of 7 letters each. */
    private static String fullText() {
        return SIX + "o0,1,6;".repeat(25) + "o0,1,2;";
    }

    private static void twoHundredLetters() {
        Checks.sentence("A TEXT is letters (200 at most)");
        GroundByHearsay x = new GroundByHearsay();
        String text = fullText();
        for (int i = 0; i < 200; i++) {
            due("letter " + i, x.write(text.charAt(i)), i + 1);
        }
        due("one more", x.write(' '), FULL);
        due("one more, a ;", x.write(';'), FULL);
        due("BAD ahead of FULL", x.write(31), BAD);
        due("BAD ahead of FULL", x.write(127), BAD);
        due("200 as before", x.count(8), 200);
        due("no fault in them", x.fault(), NONE);
        due("laid", x.lay(), 6);
        due("the last of them is read, too", x.says(0, 1), 2);
        due("they stay", x.count(8), 200);
        due("full still", x.write('c'), FULL);
    }

    private static void textCutOff() {
        Checks.sentence("A TEXT is letters (200 at most) .. FAULT");
        GroundByHearsay x = written(SIX + "o0,1,6;".repeat(25) + "s1;s2;q");
        due("200", x.count(8), 200);
        due("the last letter is no item", x.fault(), 199);
        due("not laid", x.lay(), NO);
        GroundByHearsay y = written(SIX + "o0,1,6;".repeat(25) + "o0,1,02");
        due("no room for its ;", y.write(';'), FULL);
        due("an item without its ;", y.fault(), 193);
        due("not laid, either", y.lay(), NO);
    }

    private static void roomForOneMore() {
        Checks.sentence("A TEXT is letters (200 at most)");
        GroundByHearsay x = written(fullText().substring(0, 199));
        due("199", x.count(8), 199);
        due("a fault without the ;", x.fault(), 193);
        due("room for one", x.write(';'), 200);
        due("no fault with it", x.fault(), NONE);
        due("no more", x.write(';'), FULL);
    }

    private static void wiped() {
        Checks.sentence("THE TEXT is empty: how long it was.");
        GroundByHearsay x = written(fullText());
        due("full", x.wipe(), 200);
        due("empty", x.wipe(), 0);
        due("and again", x.wipe(), 0);
        due("none counted", x.count(8), 0);
        due("room from the first letter on", x.write('c'), 1);
        due("what was written ahead is gone", x.fault(), 0);
        due("one", x.wipe(), 1);
        due("the six stay laid", x.count(0), 6);
    }

    private static void emptyText() {
        Checks.sentence("FAULT. NONE.");
        GroundByHearsay x = new GroundByHearsay();
        due("an empty text at first", x.count(8), 0);
        due("has none", x.fault(), NONE);
        due("and can't be laid", x.lay(), NO);
        right("");
    }

    private static void itemsOneBehindTheOther() {
        Checks.sentence("ITEMS one behind the other, each a letter, then numbers");
        right("c0;c1;o0,1,3;s4;a0;", "s4;c0;", "c0;s1;c0;a1;c0;o2,0,1;");
        wrongAt(3, "c0; c0;", "c0;;", "c0;,", "c0;0", "c0;c 0;", "c0;c0 ;", "c0; ", "c0;cc0;", "c0;c0c0;");
        wrongAt(0, " c0;", ";c0;", "cc0;");
    }

    private static void lettersOfItems() {
        Checks.sentence("each a letter (c, o, s, a)");
        for (char letter = 32; letter <= 126; letter++) {
            faultIs(TWO + letter + "0;", letter == 'c' || letter == 's' || letter == 'a' ? NONE : 6);
            faultIs(TWO + letter + "0,1,3;", letter == 'o' ? NONE : 6);
        }
    }

    private static void figures() {
        Checks.sentence("numbers (one or two figures)");
        for (String item : ONE_NUMBER) {
            for (String number : new String[] {"1", "01"}) {
                faultIs(TWO + item.replace("#", number), NONE);
            }
            for (String number : new String[] {"", "001", "100", " 1", "1 ", "+1", "-1", "-0", "x", "/", ":", "1/", "1:",
                "0x1", "1.", "99"}) {
                faultIs(TWO + item.replace("#", number), 6);
            }
        }
        right("c00;", "c04;", "s00;", "s09;", "c0;a00;", "c0;c0;o00,01,00;", "c0;c0;o01,00,06;");
    }

    private static void partedAndEnded() {
        Checks.sentence("numbers (one or two figures) parted by , and a ; behind the last one");
        for (String item : ONE_NUMBER) {
            String whole = item.replace("#", "1");
            String open = whole.substring(0, whole.length() - 1);
            right(TWO + whole);
            wrongAt(6, TWO + open, TWO + open + ",", TWO + open + ",;", TWO + open + ",1;", TWO + open + ":",
                TWO + open + "c0;", TWO + open.substring(0, open.length() - 1), TWO + whole.charAt(0) + ",1;",
                TWO + whole.charAt(0) + ";1;", TWO + whole.charAt(0));
            wrongAt(whole.length() + 6, TWO + whole + ";", TWO + whole + ",");
        }
        wrongAt(6, TWO + "o0;", TWO + "o0,1;", TWO + "o0,1,2,3;", TWO + "o0;1,2;", TWO + "o0,1;2;", TWO + "o0,,2;",
            TWO + "o0.1,2;", TWO + "o0,1.2;", TWO + "o0 1 2;", TWO + "o0,1,", TWO + "o0,1", TWO + "o0,", TWO + "o0");
    }

    private static void kinds() {
        Checks.sentence("cK a CUSTOMER of KIND K (0 PLAIN, 1 WIDOW, 2 CHILD, 3 DEAF, 4 WIT)");
        for (int kind = 0; kind <= 4; kind++) {
            faultIs("c" + kind + ";", NONE);
            due("kind " + kind, Checks.mill("c" + kind + ";").customer(0, 0), kind);
        }
        for (int kind = 5; kind <= 99; kind++) {
            faultIs("c" + kind + ";", 0);
        }
        wrongAt(0, "c05;", "c09;");
    }

    private static void sixAtMost() {
        Checks.sentence("6 at most, 0, 1, ..");
        for (int many = 1; many <= 6; many++) {
            GroundByHearsay x = written("c4;c3;c2;c1;c0;c4;".substring(0, 3 * many));
            due("no fault", x.fault(), NONE);
            due("laid", x.lay(), many);
            for (int c = 0; c < many; c++) {
                due("kind of " + c + " of " + many, x.customer(c, 0), c == 5 ? 4 : 4 - c);
            }
            due("no " + many, x.customer(many, 0), BAD);
        }
        wrongAt(18, SIX + "c0;", SIX + "c0;c0;");
        wrongAt(21, SIX + "s1;c0;");
    }

    private static void wordsToldOf() {
        Checks.sentence("oI,J,V I SAYS V less 3 (V 0 to 6) of J");
        for (int v = 0; v <= 6; v++) {
            faultIs(TWO + "o0,1," + v + ";", NONE);
            due("says " + v, Checks.mill(TWO + "o0,1," + v + ";").says(0, 1), v);
        }
        for (int v = 7; v <= 99; v++) {
            faultIs(TWO + "o0,1," + v + ";", 6);
        }
        wrongAt(6, TWO + "o0,1,07;");
    }

    private static void unlike() {
        Checks.sentence("(unlike, both told ahead; ..)");
        wrongAt(6, TWO + "o0,0,3;", TWO + "o1,1,3;", TWO + "o01,1,3;");
        wrongAt(18, SIX + "o5,5,3;");
        right(SIX + "o5,4,3;o4,5,3;o0,5,3;o5,0,3;");
    }

    private static void bothToldAhead() {
        Checks.sentence("(.. both told ahead; ..)");
        wrongAt(0, "o0,1,3;", "o0,1,3;c0;c0;");
        wrongAt(3, "c0;o0,1,3;c0;", "c0;o1,0,3;c0;");
        wrongAt(6, TWO + "o2,0,3;c0;", TWO + "o0,2,3;c0;", TWO + "o2,1,3;", TWO + "o1,2,3;");
        right(TWO + "o1,0,3;o0,1,3;", TWO + "c0;o2,0,3;o0,2,3;");
        wrongAt(18, SIX + "o6,5,3;", SIX + "o5,6,3;", SIX + "o10,0,3;", SIX + "o0,10,3;");
    }

    private static void zeroWithout() {
        Checks.sentence("(.. 0 without; ..)");
        GroundByHearsay x = Checks.mill(SIX + "o0,1,6;");
        for (int i = 0; i < 6; i++) {
            for (int j = 0; j < 6; j++) {
                due("says(" + i + ", " + j + ")", x.says(i, j), i == j ? BAD : i == 0 && j == 1 ? 6 : 3);
            }
        }
    }

    private static void lastOfEachTwo() {
        Checks.sentence("(.. the last one of each two)");
        GroundByHearsay x = Checks.mill(TWO + "c0;o0,1,6;o1,0,0;o0,1,5;o0,2,2;o0,1,1;");
        due("the last of three", x.says(0, 1), 1);
        due("the other way is another two", x.says(1, 0), 0);
        due("of another one", x.says(0, 2), 2);
        due("0 told last", Checks.mill(TWO + "o0,1,6;o0,1,3;").says(0, 1), 3);
    }

    private static void stones() {
        Checks.sentence("sS the STONE is S (0 to 9; ..)");
        for (int s = 0; s <= 9; s++) {
            faultIs("c0;s" + s + ";", NONE);
            due("stone " + s, Checks.mill("c0;s" + s + ";").count(2), s);
        }
        for (int s = 10; s <= 99; s++) {
            faultIs("c0;s" + s + ";", 3);
        }
    }

    private static void stoneWithout() {
        Checks.sentence("(.. 4 without; ..)");
        due("without", Checks.mill("c0;").count(2), 4);
        GroundByHearsay x = Checks.mill("c0;s9;");
        due("none of an earlier text's", Checks.relay(x, "c0;"), 1);
        due("without, behind 9", x.count(2), 4);
    }

    private static void lastStone() {
        Checks.sentence("(.. of several such the last one counts)");
        due("9, 0", Checks.mill("c0;s9;s0;").count(2), 0);
        due("0, 9", Checks.mill("c0;s0;s9;").count(2), 9);
        due("1, 2, 3", Checks.mill("s1;c0;s2;c0;s3;").count(2), 3);
        due("ahead of all", Checks.mill("s7;c0;").count(2), 7);
        wrongAt(6, "c0;s9;s10;");
        wrongAt(3, "c0;s10;s9;");
    }

    private static void awayToldAhead() {
        Checks.sentence("aC CUSTOMER C (told ahead) is AWAY at first");
        wrongAt(0, "a0;", "a0;c0;");
        wrongAt(3, "c0;a1;c0;", "c0;a1;", "c0;a6;", "c0;a10;");
        wrongAt(18, SIX + "a6;");
        right("c0;a0;", TWO + "a1;", SIX + "a5;a0;");
        GroundByHearsay x = Checks.mill(SIX + "a5;a0;");
        for (int c = 0; c < 6; c++) {
            due("away " + c, x.customer(c, 2), c == 0 || c == 5 ? 1 : 0);
        }
        due("two", x.count(1), 2);
    }

    private static void awayOnceMore() {
        Checks.sentence("(no matter if told once more)");
        for (String text : new String[] {TWO + "a1;a1;", TWO + "a1;a1;a1;", TWO + "a1;a01;"}) {
            GroundByHearsay x = written(text);
            due("no fault in " + text, x.fault(), NONE);
            due("laid " + text, x.lay(), 2);
            due("away by " + text, x.customer(1, 2), 1);
            due("one by " + text, x.count(1), 1);
        }
    }

    private static void firstFault() {
        Checks.sentence("FAULT: the place of the first letter of the first ITEM that is not so.");
        wrongAt(0, "q", "c9;c0;", "c0,1;s10;", "c", ";");
        wrongAt(3, "c0;c9;s10;", "c0;s10;c9;", "c0;a1;q", "s4;q");
        wrongAt(6, TWO + "o0,1,7;o0,0,3;");
        wrongAt(4, "c00;c9;");
        GroundByHearsay x = written("c0;s1");
        due("not ended", x.fault(), 3);
        x.write(';');
        due("ended", x.fault(), NONE);
        x.write('s');
        due("begun", x.fault(), 6);
        due("the fault is only told", x.count(8), 7);
    }

    private static void oneCustomerAtLeast() {
        Checks.sentence("LAID is a TEXT without FAULT, of a CUSTOMER at least (NO else ..)");
        due("one", written("c0;").lay(), 1);
        due("one, away", written("c0;a0;").lay(), 1);
        for (String text : new String[] {"", "s4;", "s4;s5;", "c0;q", "c0;c5;", "c0;s", SIX + "c0;"}) {
            due("lay of " + text, written(text).lay(), NO);
        }
    }

    private static void refusedToLay() {
        Checks.sentence("LAID: .. NO. | nothing changes then");
        for (String text : new String[] {"", "s8;", "c4;s8;a0;q", "c4;c4;o0,1,6;a1;s8;c5;"}) {
            GroundByHearsay x = Checks.mill("c1;c2;c3;o0,1,5;s6;a2;");
            x.see(0, 6);
            x.keep();
            x.day();
            due("lay of " + text, Checks.relay(x, text), NO);
            due("customers", x.count(0), 3);
            due("kind", x.customer(0, 0), 1);
            due("said", x.says(0, 1), 5);
            due("away", x.count(1), 1);
            due("stone", x.count(2), 6);
            due("day", x.count(3), 1);
            due("seen", x.count(5), 1);
            due("undone", x.count(6), 1);
            due("kept", x.count(7), 1);
            due("the text stays", x.count(8), text.length());
            due("can be undone", x.undo(), 0);
            due("can come back", x.back(), 0);
        }
    }

    private static void laidAnew() {
        Checks.sentence("LAID: how many CUSTOMERS; no DAY gone by, nothing SEEN, UNDONE, KEPT; THE TEXT stays.");
        GroundByHearsay x = Checks.mill("c0;c1;c0;o1,0,6;s5;");
        for (int time = 0; time < 2; time++) {
            x.keep();
            x.keep();
            x.see(1, 0);
            x.day();
            x.change(0, 2);
            x.say(1, 0, 0);
            x.away(0);
            due("how many", x.lay(), 3);
            due("no day", x.count(3), 0);
            due("nothing seen", x.count(5), 0);
            due("all of nothing is so", x.stood(0), 256);
            due("nothing undone", x.count(6), 0);
            due("nothing to undo", x.undo(), NO);
            due("nothing kept", x.count(7), 0);
            due("nothing to come back", x.back(), NO);
            due("the text", x.count(8), 19);
            due("its stone", x.count(2), 5);
            due("its words", x.says(1, 0), 6);
            due("its line", x.customer(0, 1), 0);
            due("all there", x.count(1), 0);
        }
        x.day();
        x.away(2);
        x.said(1, 0);
        due("whatever was asked ahead", x.lay(), 3);
        due("no day", x.count(3), 0);
        due("all there", x.count(1), 0);
        due("fewer", Checks.relay(x, "c3;"), 1);
        due("none of the earlier ones", x.customer(1, 0), BAD);
        due("more again", Checks.relay(x, TWO), 2);
        due("none of the earlier words", x.says(1, 0), 3);
    }

    private static void laidAtFirst() {
        Checks.sentence("at first c0;c1;c2;c0;c3;c4;o0,1,5;o1,0,6; ..");
        GroundByHearsay x = new GroundByHearsay();
        GroundByHearsay y = Checks.mill("c0;c1;c2;c0;c3;c4;o0,1,5;o1,0,6;o2,0,1;o3,0,5;o5,3,0;o1,3,4;o2,3,4;o5,2,6;o3,2,1;"
            + "o0,5,2;o1,5,6;s4;");
        for (int i = 0; i < 6; i++) {
            for (int what = 0; what < 3; what++) {
                due("customer(" + i + ", " + what + ")", x.customer(i, what), y.customer(i, what));
            }
            for (int j = 0; j < 6; j++) {
                due("says(" + i + ", " + j + ")", x.says(i, j), y.says(i, j));
            }
        }
        for (int what = 0; what < 8; what++) {
            due("count(" + what + ")", x.count(what), y.count(what));
        }
        due("nothing to undo", x.undo(), NO);
        due("nothing kept", x.back(), NO);
    }

    private static void fiveHundredAndTwelveCalls() {
        Checks.sentence("An object is used for at most 512 calls after it has been made");
        GroundByHearsay x = new GroundByHearsay();
        for (int d = 1; d <= 510; d++) {
            due("day " + d, x.day(), d);
        }
        due("call 511", x.count(3), 510);
        due("call 512", x.undo(), 7);
        GroundByHearsay y = new GroundByHearsay();
        for (int call = 1; call <= 512; call++) {
            due("call " + call, y.keep(), call <= 2 ? call : FULL);
        }
    }
}
