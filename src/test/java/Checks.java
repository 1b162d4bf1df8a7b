/** Counts answers that are not as due, and helps to tell a mill by its text. */
final class Checks {
    static final int BAD = GroundByHearsay.BAD, NO = GroundByHearsay.NO;
    static final int FULL = GroundByHearsay.FULL, NONE = GroundByHearsay.NONE;
    static final int[] WILD = {Integer.MIN_VALUE, -100, -1, 100, 70000, Integer.MAX_VALUE};
    static final String SIX = "c0;c0;c0;c0;c0;c0;";

    private static int wrong;
    private static int made;
    private static String words = "";

    private Checks() {
    }

    /** The words of the document that the checks from here on hold to. */
    static void sentence(String quoted) {
        words = quoted + " | ";
    }

    static void due(String what, long got, long want) {
        made++;
        if (got != want) {
            wrong++;
            System.out.println(words + what + " answered " + got + ", due is " + want);
        }
    }

    static void isSo(String what, boolean so) {
        due(what, so ? 1 : 0, 1);
    }

    static GroundByHearsay mill(String text) {
        GroundByHearsay x = new GroundByHearsay();
        isSo("lay of " + text, relay(x, text) > 0);
        return x;
    }

    static int relay(GroundByHearsay x, String text) {
        rewrite(x, text);
        return x.lay();
    }

    static void rewrite(GroundByHearsay x, String text) {
        x.wipe();
        for (char letter : text.toCharArray()) {
            x.write(letter);
        }
    }

    static void end() {
        System.out.println(made + " answers looked at, " + wrong + " not as due");
        if (wrong != 0) {
            System.exit(1);
        }
    }
}
