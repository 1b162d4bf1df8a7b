import java.util.Random;

/** Drawn calls, the same ones each time, on the class and on the Model: all answers must be alike. */
public final class ModelTest {
    private static final int RUNS = 600;
    private static final int CALLS = 512;
    /** A text of at most 200 letters, wiped, looked at and laid. */
    private static final int CALLS_TO_LAY = 203;

    private final Random random;
    private final GroundByHearsay x = new GroundByHearsay();
    private final Model model = new Model();
    private String call = "";
    private int calls;

    private ModelTest(long seed) {
        random = new Random(seed);
    }

    public static void main(String[] args) {
        for (int seed = 0; seed < RUNS; seed++) {
            new ModelTest(seed).run(seed);
        }
        Checks.end();
    }

    private void run(int seed) {
        if (random.nextInt(5) != 0) {
            layAnother();
        }
        while (calls < CALLS) {
            if (random.nextInt(150) == 0 && calls + CALLS_TO_LAY < CALLS) {
                layAnother();
            }
            int[] answers = answers(random.nextInt(60));
            calls++;
            Checks.due("seed " + seed + ", call " + calls + ": " + call, answers[0], answers[1]);
        }
    }

    private void layAnother() {
        String text = drawText();
        x.wipe();
        model.wipe();
        for (char letter : text.toCharArray()) {
            Checks.due("write", x.write(letter), model.write(letter));
        }
        Checks.due("fault of " + text, x.fault(), model.fault());
        Checks.due("lay of " + text, x.lay(), model.lay());
        calls += text.length() + 3;
    }

    private String drawText() {
        StringBuilder text = new StringBuilder();
        int customers = random.nextInt(4) == 0 ? 1 + random.nextInt(6) : 6;
        for (int c = 0; c < customers; c++) {
            text.append('c').append(random.nextInt(5)).append(';');
        }
        text.append('s').append(random.nextInt(10)).append(';');
        int words = random.nextInt(22);
        for (int w = 0; w < words && customers > 1; w++) {
            int i = random.nextInt(customers);
            int j = (i + 1 + random.nextInt(customers - 1)) % customers;
            text.append('o').append(i).append(',').append(j).append(',').append(random.nextInt(7)).append(';');
        }
        if (random.nextInt(3) == 0) {
            text.append('a').append(random.nextInt(customers)).append(';');
        }
        if (random.nextInt(4) == 0) {
            int place = random.nextInt(text.length());
            text.setCharAt(place, "csao;,0123456789x ".charAt(random.nextInt(18)));
        }
        return text.toString();
    }

    /** A number that mostly is one that is told. */
    private int upTo(int most) {
        int luck = random.nextInt(60);
        if (luck == 0) {
            return Checks.WILD[random.nextInt(Checks.WILD.length)];
        }
        return luck == 1 ? most + 1 : luck == 2 ? -1 : random.nextInt(most + 1);
    }

    private int[] answers(int which) {
        int c = upTo(5), d = upTo(5), k = upTo(6), b = upTo(3), tenths = upTo(10), bit = upTo(1);
        switch (which) {
            case 0: case 1: return tell("customer", x.customer(c, b), model.customer(c, b), c, b);
            case 2: case 3: return tell("says", x.says(c, d), model.says(c, d), c, d);
            case 4: case 5: case 6: case 7: case 8: case 9:
                return tell("fine", x.fine(c, bit), model.fine(c, bit), c, bit);
            case 10: case 11: case 12: return tell("change", x.change(c, d), model.change(c, d), c, d);
            case 13: case 14: case 15: return tell("away", x.away(c), model.away(c), c);
            case 16: case 17: case 18: case 19: return tell("say", x.say(c, d, k), model.say(c, d, k), c, d, k);
            case 20: case 21: return tell("day", x.day(), model.day());
            case 22: case 23: case 24: return tell("undo", x.undo(), model.undo());
            case 25: case 26: case 27: return behind(upTo(60), upTo(6) - 1);
            case 28: return tell("order", x.order(c, k), model.order(c, k), c, k);
            case 29: return tell("helpless", x.helpless(), model.helpless());
            case 30: case 31: case 32: return tell("words", x.words(c, b), model.words(c, b), c, b);
            case 33: case 34: case 35: return seeTruly(c, tenths);
            case 36: return tell("forget", x.forget(), model.forget());
            case 37: case 38: case 39: case 40: return tell("stood", x.stood(bit), model.stood(bit), bit);
            case 41: case 42: case 43: return tell("said", x.said(c, d), model.said(c, d), c, d);
            case 44: case 45: case 46: return tell("mouths", x.mouths(c), model.mouths(c), c);
            case 47: case 48: case 49:
                return tell("chance", x.chance(c, b, tenths, bit), model.chance(c, b, tenths, bit), c, b, tenths, bit);
            case 50: case 51: case 52: return year(upTo(9999), upTo(60), bit);
            case 53: return tell("keep", x.keep(), model.keep());
            case 54: return tell("back", x.back(), model.back());
            case 55: return letter(random.nextInt(130));
            case 56: return tell("fault", x.fault(), model.fault());
            default: return count(upTo(8));
        }
    }

    private int[] behind(int n, int c) {
        return tell("behind", x.behind(n, c), model.behind(n, c), n, c);
    }

    private int[] year(int z, int n, int what) {
        return tell("year", x.year(z, n, what), model.year(z, n, what), z, n, what);
    }

    private int[] letter(int letter) {
        return tell("write", x.write(letter), model.write(letter), letter);
    }

    private int[] count(int what) {
        return tell("count", x.count(what), model.count(what), what);
    }

    /** Often what is so, or would be with one more in the line, as else hardly anything could have been. */
    private int[] seeTruly(int c, int v) {
        int fine = model.fine(c, 0);
        int seen = fine >= 0 && random.nextInt(3) != 0 ? Math.min(9, fine + random.nextInt(2)) : v;
        return tell("see", x.see(c, seen), model.see(c, seen), c, seen);
    }

    private int[] tell(String name, int got, int want, int... with) {
        call = name + java.util.Arrays.toString(with);
        return new int[] {got, want};
    }
}
