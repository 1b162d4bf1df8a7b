import java.util.ArrayList;
import java.util.List;

/**
 * Each call that is refused, and that nothing changes then; the same of each question. Of two objects alike
 * one is asked, the other one not: from then on both must answer alike till all is undone, back and laid anew.
 */
public final class RefusalsTest {
    private static final int BAD = Checks.BAD, NO = Checks.NO, FULL = Checks.FULL, NONE = Checks.NONE;
    /** No CUSTOMERS where there are three; 32 and 64 would be 0 as shifts go. */
    private static final int[] NOBODY = {-1, 3, 4, 5, 6, 32, 64, Integer.MIN_VALUE, Integer.MAX_VALUE};
    private static final int ALL_FULL = 0, ALL_EMPTY = 1, TEXT_FULL = 2;

    private interface Call {
        int on(GroundByHearsay x);
    }

    private static final class Refused {
        final String name;
        final int due;
        final Call call;

        Refused(String name, int due, Call call) {
            this.name = name;
            this.due = due;
            this.call = call;
        }
    }

    private static final List<Refused> CALLS = new ArrayList<>();

    public static void main(String[] args) {
        Checks.sentence("BAD: a number is none that is told. | nothing changes then");
        badNumbers();
        badCustomers();
        badTwos();
        refuse(ALL_FULL);
        badNumbers();
        badCustomers();
        badTwos();
        refuse(ALL_EMPTY);
        Checks.sentence("NO: not as things stand. | nothing changes then");
        notOfOneAway();
        refuse(ALL_FULL);
        notOfOneAway();
        notAsEmpty();
        refuse(ALL_EMPTY);
        Checks.sentence("NONE: there is none. | nothing changes then");
        noneWhenFull();
        refuse(ALL_FULL);
        noneWhenEmpty();
        refuse(ALL_EMPTY);
        Checks.sentence("FULL. | nothing changes then");
        full();
        refuse(ALL_FULL);
        textFull();
        refuse(TEXT_FULL);
        Checks.sentence("Of several the first in this order, whatever the order at a call");
        firstOfSeveral();
        refuse(ALL_FULL);
        Checks.sentence("what is only asked changes nothing");
        for (int state : new int[] {ALL_FULL, ALL_EMPTY, TEXT_FULL}) {
            ask(state);
        }
        customersSuchAsThereAre();
        Checks.end();
    }

    private static void add(String name, int due, Call call) {
        CALLS.add(new Refused(name, due, call));
    }

    private static void refuse(int state) {
        for (Refused one : CALLS) {
            GroundByHearsay asked = standing(state);
            Checks.due(one.name, one.call.on(asked), one.due);
            sameAsUnasked(one.name, asked, state);
        }
        CALLS.clear();
    }

    private static void sameAsUnasked(String name, GroundByHearsay asked, int state) {
        List<Integer> got = allOf(asked, state);
        List<Integer> want = allOf(standing(state), state);
        Checks.due("answers behind " + name, got.size(), want.size());
        for (int i = 0; i < want.size() && i < got.size(); i++) {
            Checks.due("answer " + i + " behind " + name, got.get(i), want.get(i));
        }
    }

    /** Three CUSTOMERS, 2 of them AWAY, in each of the states. */
    private static GroundByHearsay standing(int state) {
        if (state == ALL_EMPTY) {
            GroundByHearsay x = Checks.mill("c0;c1;c2;o1,0,4;s1;a2;");
            x.wipe();
            return x;
        }
        GroundByHearsay x = Checks.mill("c0;c1;c2;o1,0,4;o0,1,2;s5;");
        if (state == TEXT_FULL) {
            x.away(2);
            for (int i = x.count(8); i < 200; i++) {
                x.write('s');
            }
            return x;
        }
        x.day();
        x.keep();
        x.say(1, 0, 5);
        x.day();
        x.change(0, 1);
        x.keep();
        for (int v = 1; v <= 5; v++) {
            x.say(0, 1, v);
        }
        x.change(0, 1);
        x.day();
        x.away(2);
        for (int i = 0; i < 6; i++) {
            x.see(i % 2, i % 2 == 0 ? 9 : 7);
        }
        Checks.rewrite(x, "c3;c4;o0,1,6;s9;");
        return x;
    }

    /** As things stand, at each step back that can be undone or is kept, and laid anew. */
    private static List<Integer> allOf(GroundByHearsay x, int state) {
        List<Integer> all = new ArrayList<>();
        asItStands(x, all);
        for (int i = 0; i < 6; i++) {
            all.add(x.said(i / 2, (i / 2 + 1 + i % 2) % 3));
        }
        // 512 calls at most, of which a full text takes 200
        int changes = state == ALL_FULL ? 8 : 1;
        for (int undone = 0; undone <= changes; undone++) {
            all.add(x.undo());
            asItStands(x, all);
        }
        all.add(x.day());
        for (int back = 0; back <= (state == ALL_FULL ? 2 : 0); back++) {
            all.add(x.back());
            asItStands(x, all);
        }
        all.add(x.forget());
        all.add(x.fault());
        all.add(x.lay());
        asItStands(x, all);
        if (state == ALL_EMPTY) {
            all.add(x.write('q'));
            all.add(x.fault());
        }
        return all;
    }

    private static void asItStands(GroundByHearsay x, List<Integer> all) {
        for (int c = 0; c < 3; c++) {
            for (int what = 0; what < 3; what++) {
                all.add(x.customer(c, what));
            }
            all.add(x.says(c, (c + 1) % 3));
            all.add(x.says(c, (c + 2) % 3));
        }
        for (int what = 1; what < 9; what++) {
            all.add(x.count(what));
        }
        all.add(x.stood(0));
    }

    private static void badNumbers() {
        for (int letter : new int[] {31, 127, -1, 0, 256 + 'c'}) {
            add("write(" + letter + ")", BAD, x -> x.write(letter));
        }
        for (int what : new int[] {-1, 3}) {
            add("customer(0, " + what + ")", BAD, x -> x.customer(0, what));
        }
        for (int what : new int[] {-1, 2}) {
            add("fine(0, " + what + ")", BAD, x -> x.fine(0, what));
            add("stood(" + what + ")", BAD, x -> x.stood(what));
            add("chance part " + what, BAD, x -> x.chance(0, 0, 0, what));
            add("year what " + what, BAD, x -> x.year(0, 1, what));
        }
        for (int v : new int[] {-1, 7}) {
            add("say(1, 0, " + v + ")", BAD, x -> x.say(1, 0, v));
            add("order(0, " + v + ")", BAD, x -> x.order(0, v));
        }
        for (int n : new int[] {-1, 61}) {
            add("behind(" + n + ", 0)", BAD, x -> x.behind(n, 0));
            add("behind(" + n + ", -1)", BAD, x -> x.behind(n, -1));
            add("year of " + n, BAD, x -> x.year(0, n, 0));
        }
        add("behind(1, -2)", BAD, x -> x.behind(1, -2));
        add("year of 0", BAD, x -> x.year(0, 0, 0));
        for (int b : new int[] {-1, 4}) {
            add("words(0, " + b + ")", BAD, x -> x.words(0, b));
            add("chance of bread " + b, BAD, x -> x.chance(0, b, 0, 0));
        }
        for (int v : new int[] {-1, 10}) {
            add("see(0, " + v + ")", BAD, x -> x.see(0, v));
        }
        for (int tenths : new int[] {-1, 11}) {
            add("chance by " + tenths, BAD, x -> x.chance(0, 0, tenths, 0));
        }
        for (int z : new int[] {-1, 10000}) {
            add("year by " + z, BAD, x -> x.year(z, 1, 0));
        }
        for (int what : new int[] {-1, 9}) {
            add("count(" + what + ")", BAD, x -> x.count(what));
        }
    }

    private static void badCustomers() {
        for (int c : NOBODY) {
            add("customer(" + c + ", 0)", BAD, x -> x.customer(c, 0));
            add("fine(" + c + ", 0)", BAD, x -> x.fine(c, 0));
            add("away(" + c + ")", BAD, x -> x.away(c));
            if (c != -1) {
                add("behind(1, " + c + ")", BAD, x -> x.behind(1, c));
            }
            add("order(" + c + ", 0)", BAD, x -> x.order(c, 0));
            add("words(" + c + ", 0)", BAD, x -> x.words(c, 0));
            add("see(" + c + ", 4)", BAD, x -> x.see(c, 4));
            add("mouths(" + c + ")", BAD, x -> x.mouths(c));
            add("chance of " + c, BAD, x -> x.chance(c, 0, 0, 0));
        }
    }

    private static void badTwos() {
        for (int c : NOBODY) {
            for (int d : new int[] {0, 2}) {
                badTwo(c, d);
                badTwo(d, c);
            }
            badTwo(c, c);
        }
        for (int c = 0; c < 3; c++) {
            badTwo(c, c);
        }
    }

    private static void badTwo(int i, int j) {
        String two = "(" + i + ", " + j;
        add("says" + two + ")", BAD, x -> x.says(i, j));
        add("change" + two + ")", BAD, x -> x.change(i, j));
        add("say" + two + ", 3)", BAD, x -> x.say(i, j, 3));
        add("said" + two + ")", BAD, x -> x.said(i, j));
    }

    private static void notOfOneAway() {
        add("fine(2, 0)", NO, x -> x.fine(2, 0));
        add("fine(2, 1)", NO, x -> x.fine(2, 1));
        for (int k = 0; k <= 6; k++) {
            int n = k;
            add("order(2, " + n + ")", NO, x -> x.order(2, n));
        }
        for (int b = 0; b <= 3; b++) {
            int n = b;
            add("words(2, " + n + ")", NO, x -> x.words(2, n));
            add("chance(2, " + n + ", 10, 1)", NO, x -> x.chance(2, n, 10, 1));
            add("chance(2, " + n + ", 0, 0)", NO, x -> x.chance(2, n, 0, 0));
        }
        for (int v = 0; v <= 9; v++) {
            int n = v;
            add("see(2, " + n + ")", NO, x -> x.see(2, n));
        }
        add("mouths(2)", NO, x -> x.mouths(2));
    }

    private static void notAsEmpty() {
        add("undo()", NO, GroundByHearsay::undo);
        add("back()", NO, GroundByHearsay::back);
        add("lay()", NO, GroundByHearsay::lay);
    }

    private static void noneWhenFull() {
        add("fault()", NONE, GroundByHearsay::fault);
        add("behind(0, 0)", NONE, x -> x.behind(0, 0));
        add("behind(0, 2)", NONE, x -> x.behind(0, 2));
        add("behind(60, 2)", NONE, x -> x.behind(60, 2));
        for (int k = 3; k <= 6; k++) {
            int n = k;
            add("order(0, " + n + ")", NONE, x -> x.order(0, n));
        }
        add("stood(1)", NONE, x -> x.stood(1));
    }

    private static void noneWhenEmpty() {
        add("fault()", NONE, GroundByHearsay::fault);
        add("behind(0, 1)", NONE, x -> x.behind(0, 1));
        add("words(1, 2)", NONE, x -> x.words(1, 2));
        add("words(1, 3)", NONE, x -> x.words(1, 3));
        GroundByHearsay y = Checks.mill("c0;c1;c2;s1;");
        for (int k = 0; k <= 6; k++) {
            Checks.due("order(1, " + k + ")", y.order(1, k), NONE);
        }
        Checks.due("nothing to undo", y.count(6), 0);
        Checks.due("stone", y.count(2), 1);
        Checks.due("line", y.customer(1, 1), 1);
    }

    private static void full() {
        add("see(0, 9)", FULL, x -> x.see(0, 9));
        add("see(1, 0)", FULL, x -> x.see(1, 0));
        add("keep()", FULL, GroundByHearsay::keep);
    }

    private static void textFull() {
        for (int letter : new int[] {32, 'c', ';', 126}) {
            add("write(" + letter + ")", FULL, x -> x.write(letter));
        }
        add("write(31): BAD ahead of FULL", BAD, x -> x.write(31));
        add("write(127): BAD ahead of FULL", BAD, x -> x.write(127));
        add("lay()", NO, GroundByHearsay::lay);
    }

    private static void firstOfSeveral() {
        add("fine(2, 2): BAD, NO", BAD, x -> x.fine(2, 2));
        add("order(2, 7): BAD, NO", BAD, x -> x.order(2, 7));
        add("order(2, 6): NO, NONE", NO, x -> x.order(2, 6));
        add("words(2, 4): BAD, NO", BAD, x -> x.words(2, 4));
        add("see(2, 10): BAD, NO, FULL", BAD, x -> x.see(2, 10));
        add("see(0, 10): BAD, FULL", BAD, x -> x.see(0, 10));
        add("see(3, 4): BAD, FULL", BAD, x -> x.see(3, 4));
        add("see(2, 4): NO, FULL", NO, x -> x.see(2, 4));
        add("chance(2, 4, 0, 0): BAD, NO", BAD, x -> x.chance(2, 4, 0, 0));
        add("chance(2, 0, 11, 0): BAD, NO", BAD, x -> x.chance(2, 0, 11, 0));
        add("chance(2, 0, 0, 2): BAD, NO", BAD, x -> x.chance(2, 0, 0, 2));
        add("behind(0, 3): BAD, NONE", BAD, x -> x.behind(0, 3));
        add("behind(61, 2): BAD, NONE", BAD, x -> x.behind(61, 2));
        add("stood(2): BAD, NONE", BAD, x -> x.stood(2));
        add("order(0, 7): BAD, NONE", BAD, x -> x.order(0, 7));
    }

    /** Each question that is answered, by itself, and then all of them on one. */
    private static void ask(int state) {
        List<Call> questions = questions();
        GroundByHearsay asked = standing(state);
        for (int q = 0; q < questions.size(); q++) {
            GroundByHearsay once = standing(state);
            questions.get(q).on(once);
            sameAsUnasked("question " + q, once, state);
            if (state != TEXT_FULL) {
                questions.get(q).on(asked);
            }
        }
        sameAsUnasked("all questions", asked, state);
    }

    private static List<Call> questions() {
        List<Call> all = new ArrayList<>();
        all.add(GroundByHearsay::fault);
        all.add(x -> x.customer(0, 1));
        all.add(x -> x.says(0, 1));
        all.add(x -> x.fine(0, 0));
        all.add(x -> x.fine(1, 1));
        all.add(x -> x.behind(60, -1));
        all.add(x -> x.behind(1, 0));
        all.add(x -> x.order(1, 0));
        all.add(x -> x.order(1, 2));
        all.add(GroundByHearsay::helpless);
        all.add(x -> x.words(0, 3));
        all.add(x -> x.words(1, 0));
        all.add(x -> x.stood(0));
        all.add(x -> x.stood(1));
        all.add(x -> x.said(1, 0));
        all.add(x -> x.said(0, 2));
        all.add(x -> x.mouths(0));
        all.add(x -> x.chance(0, 2, 5, 0));
        all.add(x -> x.chance(1, 1, 10, 1));
        all.add(x -> x.year(9999, 60, 0));
        all.add(x -> x.year(1, 1, 1));
        all.add(x -> x.count(4));
        return all;
    }

    private static void customersSuchAsThereAre() {
        Checks.sentence("(CUSTOMERS such as there are)");
        for (int many = 1; many <= 6; many++) {
            GroundByHearsay x = new GroundByHearsay();
            Checks.due("laid", Checks.relay(x, Checks.SIX.substring(0, 3 * many)), many);
            for (int c = -1; c <= 6; c++) {
                boolean there = c >= 0 && c < many;
                String who = c + " of " + many;
                Checks.due("customer " + who, x.customer(c, 1), there ? c : BAD);
                Checks.due("fine " + who, x.fine(c, 0), there ? 4 : BAD);
                Checks.due("behind " + who, x.behind(1, c), there || c == -1 ? 4 : BAD);
                Checks.due("order " + who, x.order(c, 0), there ? 4 : BAD);
                Checks.due("words " + who, x.words(c, 0), there ? 0 : BAD);
                Checks.due("mouths " + who, x.mouths(c), !there ? BAD : c == many - 1 ? 0 : 2 << c);
                Checks.due("chance " + who, x.chance(c, 1, 5, 1), there ? 1 : BAD);
                Checks.due("see " + who, x.see(c, 4), there ? c + 1 : BAD);
                Checks.due("goes " + who, x.away(c), there ? 1 : BAD);
                Checks.due("comes " + who, x.away(c), there ? 0 : BAD);
                twoSuchAsThereAre(x, c, many);
            }
        }
    }

    private static void twoSuchAsThereAre(GroundByHearsay x, int c, int many) {
        boolean there = c > 0 && c < many;
        String who = c + " of " + many;
        Checks.due("says to " + who, x.says(0, c), there ? 3 : BAD);
        Checks.due("says by " + who, x.says(c, 0), there ? 3 : BAD);
        Checks.due("say to " + who, x.say(0, c, 3), there ? 3 : BAD);
        Checks.due("say by " + who, x.say(c, 0, 3), there ? 3 : BAD);
        Checks.due("said to " + who, x.said(0, c), there ? 127 : BAD);
        Checks.due("said by " + who, x.said(c, 0) >= 0 ? 1 : 0, there ? 1 : 0);
        Checks.due("change with " + who, x.change(0, c), there ? c : BAD);
        Checks.due("change back by " + who, x.change(c, 0), there ? c : BAD);
    }
}
