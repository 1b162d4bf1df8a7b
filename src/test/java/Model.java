import java.math.BigInteger;
import java.util.ArrayDeque;
import java.util.ArrayList;
import java.util.Collections;
import java.util.Deque;
import java.util.HashMap;
import java.util.List;
import java.util.Map;
import java.util.TreeSet;
import java.util.regex.Matcher;
import java.util.regex.Pattern;

/** A second miller, written from the document in another way, to compare with. Slow and plain. */
final class Model {
    static final int BAD = -1, NO = -2, FULL = -3, NONE = -4;
    private static final Pattern ITEM =
        Pattern.compile("(?:([csa])(\\d{1,2})|(o)(\\d{1,2}),(\\d{1,2}),(\\d{1,2}));");

    private static final class State {
        List<Integer> kinds = new ArrayList<>();
        List<Integer> line = new ArrayList<>();
        Map<Integer, Integer> says = new HashMap<>();
        TreeSet<Integer> away = new TreeSet<>();
        int stone = 4;
        int days;

        State copy() {
            State s = new State();
            s.kinds.addAll(kinds);
            s.line.addAll(line);
            s.says.putAll(says);
            s.away.addAll(away);
            s.stone = stone;
            s.days = days;
            return s;
        }

        int say(int i, int j) {
            return says.getOrDefault(10 * i + j, 0);
        }

        List<Integer> present() {
            List<Integer> those = new ArrayList<>(line);
            those.removeAll(away);
            return those;
        }
    }

    private static final class Day {
        Map<Integer, Integer> fine = new HashMap<>();
        int stone;

        int bran() {
            return (int) fine.values().stream().filter(f -> f <= 1).count();
        }
    }

    private String text = "";
    private State now;
    private Deque<State> undone = new ArrayDeque<>();
    private Deque<State> kept = new ArrayDeque<>();
    private List<int[]> seen = new ArrayList<>();

    Model() {
        text = "c0;c1;c2;c0;c3;c4;o0,1,5;o1,0,6;o2,0,1;o3,0,5;o5,3,0;o1,3,4;o2,3,4;o5,2,6;o3,2,1;o0,5,2;o1,5,6;s4;";
        lay();
        text = "";
    }

    int write(int letter) {
        if (letter < 32 || letter > 126) return BAD;
        if (text.length() == 200) return FULL;
        text += (char) letter;
        return text.length();
    }

    int wipe() {
        int was = text.length();
        text = "";
        return was;
    }

    int fault() {
        return read(new State());
    }

    private int read(State s) {
        Matcher m = ITEM.matcher(text);
        int at = 0;
        while (at < text.length()) {
            if (!m.find(at) || m.start() != at || !takes(s, m)) return at;
            at = m.end();
        }
        return NONE;
    }

    private boolean takes(State s, Matcher m) {
        int told = s.kinds.size();
        if (m.group(3) != null) {
            int i = Integer.parseInt(m.group(4)), j = Integer.parseInt(m.group(5)), v = Integer.parseInt(m.group(6));
            if (i >= told || j >= told || i == j || v > 6) return false;
            s.says.put(10 * i + j, v - 3);
            return true;
        }
        int number = Integer.parseInt(m.group(2));
        switch (m.group(1)) {
            case "c":
                if (told == 6 || number > 4) return false;
                s.kinds.add(number);
                s.line.add(told);
                return true;
            case "s":
                if (number > 9) return false;
                s.stone = number;
                return true;
            default:
                if (number >= told) return false;
                s.away.add(number);
                return true;
        }
    }

    int lay() {
        State s = new State();
        if (read(s) != NONE || s.kinds.isEmpty()) return NO;
        now = s;
        undone.clear();
        kept.clear();
        seen.clear();
        return s.kinds.size();
    }

    private boolean is(int c) {
        return c >= 0 && c < now.kinds.size();
    }

    int customer(int c, int what) {
        if (!is(c) || what < 0 || what > 2) return BAD;
        return what == 0 ? now.kinds.get(c) : what == 1 ? now.line.indexOf(c) : now.away.contains(c) ? 1 : 0;
    }

    int says(int i, int j) {
        return !is(i) || !is(j) || i == j ? BAD : now.say(i, j) + 3;
    }

    /** The words that count, by who says them. */
    private static Map<Integer, Integer> heard(State s, List<Integer> line, int c) {
        int from = line.indexOf(c) + 1;
        List<Integer> three = line.subList(from, Math.min(line.size(), from + 3));
        Map<Integer, Integer> counts = new HashMap<>();
        for (int a = 0; a < three.size(); a++) {
            int i = three.get(a);
            int kind = s.kinds.get(i);
            if (kind == 3) continue;
            boolean silenced = false;
            for (int nearer : three.subList(0, a)) {
                int other = s.kinds.get(nearer);
                if (kind != 2 && other != 2 && other != 3 && s.say(nearer, c) == s.say(i, c)) silenced = true;
            }
            if (!silenced) counts.put(i, s.say(i, c) * (kind == 1 ? 2 : kind == 4 ? -1 : 1));
        }
        return counts;
    }

    private static Day grind(State s, List<Integer> line, int guest) {
        Day day = new Day();
        day.stone = s.stone;
        for (int c : line) {
            if (c == guest) continue;
            int fine = day.stone;
            for (int word : heard(s, line, c).values()) fine += word;
            fine = fine < 0 ? 0 : fine > 9 ? 9 : fine;
            day.fine.put(c, fine);
            day.stone += Integer.signum(fine - day.stone);
        }
        return day;
    }

    private static Day today(State s) {
        return grind(s, s.present(), -1);
    }

    private static int bread(int fine) {
        return fine <= 1 ? 0 : fine <= 4 ? 1 : fine <= 7 ? 2 : 3;
    }

    int fine(int c, int what) {
        if (!is(c) || what < 0 || what > 1) return BAD;
        if (now.away.contains(c)) return NO;
        int fine = today(now).fine.get(c);
        return what == 0 ? fine : bread(fine);
    }

    private void remember() {
        undone.push(now.copy());
        if (undone.size() > 8) undone.removeLast();
    }

    int change(int a, int b) {
        if (!is(a) || !is(b) || a == b) return BAD;
        remember();
        Collections.swap(now.line, now.line.indexOf(a), now.line.indexOf(b));
        return now.line.indexOf(a);
    }

    int away(int c) {
        if (!is(c)) return BAD;
        remember();
        if (now.away.remove(c)) return 0;
        now.away.add(c);
        return 1;
    }

    int say(int i, int j, int v) {
        if (!is(i) || !is(j) || i == j || v < 0 || v > 6) return BAD;
        remember();
        int was = now.say(i, j) + 3;
        now.says.put(10 * i + j, v - 3);
        return was;
    }

    int day() {
        remember();
        now.stone = today(now).stone;
        return ++now.days;
    }

    int undo() {
        if (undone.isEmpty()) return NO;
        now = undone.pop();
        return undone.size();
    }

    int behind(int n, int c) {
        if (n < 0 || n > 60 || c != -1 && !is(c)) return BAD;
        State s = now.copy();
        Day last = new Day();
        for (int d = 0; d < n; d++) {
            last = today(s);
            s.stone = last.stone;
        }
        return c == -1 ? s.stone : last.fine.getOrDefault(c, NONE);
    }

    private static void orders(List<Integer> left, List<Integer> row, List<List<Integer>> all) {
        if (left.isEmpty()) all.add(new ArrayList<>(row));
        for (int i = 0; i < left.size(); i++) {
            List<Integer> rest = new ArrayList<>(left);
            row.add(rest.remove(i));
            orders(rest, row, all);
            row.remove(row.size() - 1);
        }
    }

    private List<List<Integer>> orders() {
        List<Integer> those = now.present();
        Collections.sort(those);
        List<List<Integer>> all = new ArrayList<>();
        orders(those, new ArrayList<>(), all);
        return all;
    }

    int order(int c, int k) {
        if (!is(c) || k < 0 || k > 6) return BAD;
        if (now.away.contains(c)) return NO;
        List<Integer> best = null;
        int finest = -1;
        for (List<Integer> row : orders()) {
            Day day = grind(now, row, -1);
            if (day.bran() == 0 && day.fine.get(c) > finest) {
                finest = day.fine.get(c);
                best = row;
            }
        }
        if (best == null) return NONE;
        return k == 0 ? finest : k > best.size() ? NONE : best.get(k - 1);
    }

    int helpless() {
        TreeSet<Integer> those = new TreeSet<>(now.present());
        for (List<Integer> row : orders()) {
            Day day = grind(now, row, -1);
            those.removeIf(c -> day.fine.get(c) > 1);
        }
        return bits(those);
    }

    private static int bits(Iterable<Integer> those) {
        int bits = 0;
        for (int c : those) bits += 1 << c;
        return bits;
    }

    int words(int c, int b) {
        if (!is(c) || b < 0 || b > 3) return BAD;
        if (now.away.contains(c)) return NO;
        for (int many = 0; many < 6; many++) {
            for (int set = 0; set < 64; set++) {
                if (Integer.bitCount(set) != many || (set & 1 << c) != 0 || set >= 1 << now.kinds.size()) continue;
                State s = now.copy();
                for (int i = 0; i < 6; i++) {
                    if ((set & 1 << i) != 0) s.says.put(10 * i + c, 3);
                }
                if (bread(today(s).fine.get(c)) >= b) return set;
            }
        }
        return NONE;
    }

    int see(int c, int v) {
        if (!is(c) || v < 0 || v > 9) return BAD;
        if (now.away.contains(c)) return NO;
        if (seen.size() == 6) return FULL;
        seen.add(new int[] {c, v});
        return seen.size();
    }

    int forget() {
        int was = seen.size();
        seen.clear();
        return was;
    }

    private boolean so(Day day) {
        for (int[] one : seen) {
            if (day.fine.getOrDefault(one[0], -1) != one[1]) return false;
        }
        return true;
    }

    int stood(int what) {
        if (what < 0 || what > 1) return BAD;
        List<Integer> twos = new ArrayList<>();
        for (int c : now.away) {
            for (int ahead = 0; ahead <= now.present().size(); ahead++) {
                List<Integer> line = now.present();
                line.add(ahead, c);
                if (so(grind(now, line, c))) twos.add(10 * c + ahead);
            }
        }
        if (what == 1) return twos.isEmpty() ? NONE : twos.get(0);
        return twos.size() + (so(today(now)) ? 256 : 0);
    }

    int said(int i, int j) {
        if (!is(i) || !is(j) || i == j) return BAD;
        int bits = 0;
        for (int v = 0; v <= 6; v++) {
            State s = now.copy();
            s.says.put(10 * i + j, v - 3);
            if (so(today(s))) bits += 1 << v;
        }
        return bits;
    }

    int mouths(int c) {
        if (!is(c)) return BAD;
        if (now.away.contains(c)) return NO;
        return bits(heard(now, now.present(), c).keySet());
    }

    private BigInteger ways(State s, List<Integer> others, int c, int b, int x) {
        if (others.isEmpty()) return bread(today(s).fine.get(c)) >= b ? BigInteger.ONE : BigInteger.ZERO;
        List<Integer> rest = others.subList(1, others.size());
        State without = s.copy();
        without.away.add(others.get(0));
        return ways(without, rest, c, b, x).multiply(BigInteger.valueOf(x))
            .add(ways(s, rest, c, b, x).multiply(BigInteger.valueOf(10 - x)));
    }

    int chance(int c, int b, int x, int part) {
        if (!is(c) || b < 0 || b > 3 || x < 0 || x > 10 || part < 0 || part > 1) return BAD;
        if (now.away.contains(c)) return NO;
        List<Integer> others = now.present();
        others.remove((Integer) c);
        BigInteger above = ways(now, others, c, b, x);
        BigInteger below = BigInteger.TEN.pow(others.size());
        return (part == 0 ? above : below).divide(above.gcd(below)).intValueExact();
    }

    int year(int z, int n, int what) {
        if (z < 0 || z > 9999 || n < 1 || n > 60 || what < 0 || what > 1) return BAD;
        State s = now.copy();
        int bran = 0;
        int many = s.kinds.size();
        for (int k = 0; k < n; k++) {
            BigInteger x = BigInteger.valueOf(7919).multiply(BigInteger.valueOf(z))
                .add(BigInteger.valueOf(6151).multiply(BigInteger.valueOf(k))).add(BigInteger.ONE);
            int draw = x.modPow(BigInteger.TWO, BigInteger.valueOf(65521)).intValueExact() >> 3;
            int a = s.line.indexOf(draw % many);
            int b = s.line.indexOf((draw >> 3) % many);
            Collections.swap(s.line, a, b);
            Day day = today(s);
            s.stone = day.stone;
            bran += day.bran();
        }
        return what == 0 ? s.stone : bran;
    }

    int keep() {
        if (kept.size() == 2) return FULL;
        kept.push(now.copy());
        return kept.size();
    }

    int back() {
        if (kept.isEmpty()) return NO;
        now = kept.pop();
        undone.clear();
        return kept.size();
    }

    int count(int what) {
        switch (what) {
            case 0: return now.kinds.size();
            case 1: return now.away.size();
            case 2: return now.stone;
            case 3: return now.days;
            case 4: return today(now).bran();
            case 5: return seen.size();
            case 6: return undone.size();
            case 7: return kept.size();
            case 8: return text.length();
            default: return BAD;
        }
    }
}
