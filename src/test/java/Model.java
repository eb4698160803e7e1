import java.math.BigInteger;
import java.util.ArrayList;
import java.util.List;

/**
 * The document once more, as slowly and plainly as it can be told, with nothing kept between calls but what was told.
 * It shares no code with PopPan, so that a slip in one of them shows as a difference.
 */
final class Model {
    static final int NONE = -1, BAD = -2, NOT = -3, FULL = -4;

    /** A grain while it is heated. */
    private static final class Kernel {
        int number;
        int place;
        int water;
        int skin;
        int size;
        int crack;
        int warmth;
        int press;
        int state;
        int went = NONE;
        int large;
    }

    private final List<int[]> told = new ArrayList<>();
    private final List<int[]> heard = new ArrayList<>();
    private final int[] settings = {10, 10, 20, 1, 5, 9};
    private final StringBuilder[] texts = {
        new StringBuilder(), new StringBuilder(), new StringBuilder(), new StringBuilder()};
    private final long[][] sheets = new long[4][];
    private final int[] forms = new int[4];
    private int latest;

    // ---- texts, sign by sign as an automaton

    /** States: 0 a part, 1 a heat, 2 one figure of it, 20 two, 3 seconds, 4 one figure of them, 5 two, 6 behind s, l, o. */
    private int panFault() {
        String s = texts[0].toString();
        int state = 0;
        int value = 0;
        int first = 0;
        for (int i = 0; i < s.length(); i++) {
            char c = s.charAt(i);
            boolean figure = "0123456789".indexOf(c) >= 0;
            if (state == 0 && c == 'h') {
                state = 1;
            } else if (state == 0 && "slo".indexOf(c) >= 0) {
                state = 6;
            } else if (state == 1 && figure) {
                state = 2;
            } else if (state == 2 && figure) {
                state = 20;
            } else if ((state == 2 || state == 20) && c == 'x') {
                state = 3;
            } else if (state == 3 && figure) {
                first = i;
                value = c - '0';
                state = 4;
            } else if (state == 4 && figure) {
                value = 10 * value + (c - '0');
                state = 5;
                if (value == 0) {
                    return first;
                }
            } else if (state == 4 && value == 0) {
                return first;
            } else if ((state == 4 || state == 5 || state == 6) && c == ';') {
                state = 0;
            } else {
                return i;
            }
        }
        if (state == 4 && value == 0) {
            return first;
        }
        return s.isEmpty() || state >= 4 && state <= 6 ? NONE : s.length();
    }

    private int ruleFault(int text) {
        String s = texts[text].toString();
        if (s.isEmpty()) {
            return NONE;
        }
        int start = 0;
        for (String condition : s.split("\\|", -1)) {
            int at = 1;
            if (condition.isEmpty() || "gnt".indexOf(condition.charAt(0)) < 0) {
                return start;
            }
            int figures = condition.charAt(0) == 't' ? 3 : 2;
            int most = condition.charAt(0) == 't' ? 200 : 99;
            String number = "";
            while (at < condition.length() && number.length() < figures && condition.substring(at, at + 1).matches("[0-9]")) {
                number += condition.charAt(at);
                at++;
            }
            if (number.isEmpty() || Integer.parseInt(number) < 1 || Integer.parseInt(number) > most) {
                return start + 1;
            }
            if (at < condition.length()) {
                return start + at;
            }
            start += condition.length() + 1;
        }
        return NONE;
    }

    int fault(int text) {
        if (text < 0 || text > 3) {
            return BAD;
        }
        return text == 0 ? panFault() : ruleFault(text);
    }

    private String[] panParts() {
        return texts[0].length() == 0 || panFault() != NONE ? new String[0] : texts[0].toString().split(";");
    }

    /** Heat, shakes, lid (1 or 0) of a second. */
    private static int[] panIn(int second, String[] parts) {
        int[] now = new int[3];
        int at = 0;
        for (String part : parts) {
            if (part.equals("s")) {
                now[1] += at == second ? 1 : 0;
            } else if (part.equals("l") || part.equals("o")) {
                now[2] = at <= second ? part.equals("l") ? 1 : 0 : now[2];
            } else {
                int x = part.indexOf('x');
                int span = Integer.parseInt(part.substring(x + 1));
                if (second >= at && second < at + span) {
                    now[0] = Integer.parseInt(part.substring(1, x));
                }
                at += span;
            }
        }
        return now;
    }

    private int[][] wholePan() {
        String[] parts = panParts();
        int[][] all = new int[200][];
        for (int s = 0; s < 200; s++) {
            all[s] = panIn(s, parts);
        }
        return all;
    }

    // ---- heating

    private List<Kernel> kernels() {
        List<Kernel> all = new ArrayList<>();
        for (int[] t : told) {
            Kernel k = new Kernel();
            k.number = all.size();
            k.place = t[0];
            k.water = t[1];
            k.skin = t[2];
            k.size = t[3];
            k.crack = t[4];
            all.add(k);
        }
        return all;
    }

    private static void heat(List<Kernel> all, int[][] pan, int t, int strength, int air) {
        List<List<Kernel>> rows = new ArrayList<>();
        for (int p = 0; p < 4; p++) {
            List<Kernel> row = new ArrayList<>();
            for (Kernel k : all) {
                if (k.place == p) {
                    row.add(k);
                }
            }
            rows.add(row);
        }
        for (int s = 0; s < t; s++) {
            for (List<Kernel> row : rows) {
                row.removeIf(k -> k.state == 1);
                for (int i = 0; i < pan[s][1] && !row.isEmpty(); i++) {
                    row.add(row.remove(0));
                }
                int gets = pan[s][0];
                for (Kernel k : row) {
                    k.warmth += gets;
                    k.warmth -= k.warmth / (pan[s][2] == 1 ? 64 : 32);
                    gets = gets / 2;
                }
            }
            for (Kernel k : all) {
                if (k.state == 0) {
                    press(k, s, strength, air);
                }
            }
        }
    }

    private static void press(Kernel k, int second, int strength, int air) {
        k.press = k.warmth <= 100 ? 0 : (k.warmth - 100) * k.water / 40;
        int hold = k.skin - k.water / 20;
        if (hold < 1) {
            hold = 1;
        }
        if (k.press - air >= strength * hold) {
            k.state = 1;
            k.went = second;
            k.large = k.size * (k.press - air) / 10;
        } else if (k.warmth > 250) {
            k.state = 2;
        } else {
            k.water -= k.press * k.crack / 100;
            if (k.water < 0) {
                k.water = 0;
            }
        }
    }

    private List<Kernel> gone(int t) {
        List<Kernel> all = kernels();
        heat(all, wholePan(), t, settings[1], settings[0]);
        return all;
    }

    private static int states(List<Kernel> all, int state) {
        return (int) all.stream().filter(k -> k.state == state).count();
    }

    private static int large(List<Kernel> all) {
        return all.stream().mapToInt(k -> k.large).sum();
    }

    private static boolean in(int v, int least, int most) {
        return v >= least && v <= most;
    }

    private static boolean grainMayBe(long water, long skin, long size, long crack) {
        return water >= 0 && water <= 99 && skin >= 1 && skin <= 20 && size >= 1 && size <= 9 && crack >= 0 && crack <= 9;
    }

    private int found(int number) {
        latest = number;
        return -10 - number;
    }

    // ---- the face

    int grain(int place, int water, int skin, int size, int crack) {
        if (!in(place, 0, 3) || !grainMayBe(water, skin, size, crack)) {
            return BAD;
        }
        if (told.size() == 12) {
            return FULL;
        }
        told.add(new int[] {place, water, skin, size, crack});
        return told.size() - 1;
    }

    int read(int s, int place) {
        if (!in(s, 0, 3) || !in(place, 0, 3)) {
            return BAD;
        }
        if (sheets[s] == null) {
            return found(1);
        }
        int came = 0;
        while (4 * came + 3 < sheets[s].length) {
            long[] r = sheets[s];
            int i = 4 * came;
            if (!grainMayBe(r[i], r[i + 1], r[i + 2], r[i + 3]) || told.size() == 12) {
                break;
            }
            told.add(new int[] {place, (int) r[i], (int) r[i + 1], (int) r[i + 2], (int) r[i + 3]});
            came++;
        }
        return came;
    }

    int change(int grain, int what, int v) {
        if (!in(grain, 0, told.size() - 1) || !in(what, 0, 3)) {
            return BAD;
        }
        int[] next = told.get(grain).clone();
        next[what + 1] = v;
        if (!grainMayBe(next[1], next[2], next[3], next[4])) {
            return BAD;
        }
        return told.set(grain, next)[what + 1];
    }

    int empty() {
        int n = told.size();
        told.clear();
        heard.clear();
        return n;
    }

    int set(int what, int v) {
        if (!in(what, 0, 5) || !in(v, what == 1 ? 5 : what == 2 ? 1 : 0, what == 1 ? 15 : 99)) {
            return BAD;
        }
        int was = settings[what];
        settings[what] = v;
        return was;
    }

    int type(int text, int b) {
        if (!in(text, 0, 3) || !in(b, 0, 255)) {
            return BAD;
        }
        if (texts[text].length() == (text == 0 ? 60 : 30)) {
            return FULL;
        }
        return texts[text].append((char) b).length();
    }

    int wipe(int text) {
        if (!in(text, 0, 3)) {
            return BAD;
        }
        int n = texts[text].length();
        texts[text].setLength(0);
        return n;
    }

    int pan(int second, int what) {
        return in(second, 0, 199) && in(what, 0, 2) ? panIn(second, panParts())[what] : BAD;
    }

    int after(int grain, int t, int what) {
        if (!in(grain, 0, told.size() - 1) || !in(t, 0, 200) || !in(what, 0, 5)) {
            return BAD;
        }
        Kernel k = gone(t).get(grain);
        return new int[] {k.warmth, k.water, k.press, k.state, k.went, k.large}[what];
    }

    int sounds(int second, boolean all) {
        if (!in(second, 0, 199)) {
            return BAD;
        }
        int upTo = states(gone(second + 1), 1);
        return all ? upTo : upTo - states(gone(second), 1);
    }

    private boolean stops(String rule, int t, int[] sounds) {
        for (String condition : rule.split("\\|")) {
            int number = Integer.parseInt(condition.substring(1));
            int sum = 0;
            int firstSound = NONE;
            for (int s = 0; s < t; s++) {
                sum += sounds[s];
                firstSound = firstSound == NONE && sounds[s] > 0 ? s : firstSound;
            }
            boolean silent = firstSound != NONE && t - number > firstSound;
            for (int s = Math.max(0, t - number); s < t; s++) {
                silent &= sounds[s] == 0;
            }
            char kind = condition.charAt(0);
            if (kind == 't' && t >= number || kind == 'n' && sum >= number || kind == 'g' && silent) {
                return true;
            }
        }
        return false;
    }

    private int stopSeconds(int rule) {
        String text = texts[rule + 1].toString();
        if (text.isEmpty()) {
            return 200;
        }
        int[] sounds = new int[200];
        for (Kernel k : gone(200)) {
            if (k.went != NONE) {
                sounds[k.went]++;
            }
        }
        int t = 1;
        while (t < 200 && !stops(text, t, sounds)) {
            t++;
        }
        return t;
    }

    int stop(int rule, int what) {
        if (!in(rule, 0, 2) || !in(what, 0, 5)) {
            return -100002;
        }
        if (ruleFault(rule + 1) != NONE) {
            return -100003;
        }
        int t = stopSeconds(rule);
        List<Kernel> all = gone(t);
        int browned = (int) all.stream().filter(k -> k.state == 1 && t - k.went > settings[2]).count();
        int left = states(all, 0);
        int burnt = states(all, 2);
        int worth = settings[3] * large(all) - settings[4] * left - settings[5] * (burnt + browned);
        return new int[] {t, left, large(all), burnt, browned, worth}[what];
    }

    int best() {
        int best = NONE;
        for (int r = 2; r >= 0; r--) {
            if (ruleFault(r + 1) == NONE && (best == NONE || stop(r, 5) >= stop(best, 5))) {
                best = r;
            }
        }
        return best;
    }

    private int[][] evens(int t) {
        int[][] all = new int[100][];
        for (int h = 1; h <= 99; h++) {
            int[][] pan = new int[200][];
            for (int s = 0; s < 200; s++) {
                pan[s] = new int[] {h, 0, 0};
            }
            List<Kernel> ks = kernels();
            heat(ks, pan, t, settings[1], settings[0]);
            all[h] = new int[] {h, states(ks, 1), states(ks, 2)};
        }
        return all;
    }

    int even(int t, int what) {
        if (!in(t, 1, 200) || !in(what, 0, 2)) {
            return BAD;
        }
        int[][] all = evens(t);
        int[] best = all[99];
        for (int h = 98; h >= 1; h--) {
            // With 100 for each OPEN one no number of BURNT ones outweighs it.
            if (100 * all[h][1] - all[h][2] >= 100 * best[1] - best[2]) {
                best = all[h];
            }
        }
        return best[what];
    }

    int front(int t, int i) {
        if (!in(t, 1, 200) || i < NONE) {
            return BAD;
        }
        int[][] all = evens(t);
        List<Integer> front = new ArrayList<>();
        for (int h = 1; h <= 99; h++) {
            boolean behind = false;
            for (int o = 1; o <= 99; o++) {
                behind |= all[o][1] > all[h][1] && all[o][2] <= all[h][2];
                behind |= all[o][1] == all[h][1] && all[o][2] < all[h][2];
            }
            if (!behind) {
                front.add(h);
            }
        }
        return i == NONE ? front.size() : i < front.size() ? front.get(i) : NONE;
    }

    int air(int t, int what) {
        if (!in(t, 1, 200) || !in(what, 0, 1)) {
            return BAD;
        }
        int[] best = null;
        int[][] pan = wholePan();
        for (int a = 99; a >= 0; a--) {
            List<Kernel> ks = kernels();
            heat(ks, pan, t, settings[1], a);
            if (best == null || large(ks) >= best[1]) {
                best = new int[] {a, large(ks)};
            }
        }
        return best[what];
    }

    int shaken(int t, int what) {
        if (!in(t, 1, 200) || !in(what, 0, 1)) {
            return BAD;
        }
        int never = states(gone(t), 1);
        int[] best = {NONE, never};
        int[][] pan = wholePan();
        for (int k = t - 1; k >= 0; k--) {
            pan[k][1]++;
            List<Kernel> ks = kernels();
            heat(ks, pan, t, settings[1], settings[0]);
            pan[k][1]--;
            int open = states(ks, 1);
            if (open > never && open >= best[1]) {
                best = new int[] {k, open};
            }
        }
        return best[what];
    }

    int late(int grain) {
        if (!in(grain, 0, told.size() - 1)) {
            return -100002;
        }
        List<Kernel> alone = kernels();
        alone.removeIf(k -> k.number != grain);
        heat(alone, wholePan(), 200, settings[1], settings[0]);
        int among = gone(200).get(grain).went;
        return among == NONE || alone.get(0).went == NONE ? -100003 : among - alone.get(0).went;
    }

    int sieved(int size, int t, int what) {
        if (!in(size, 1, 9) || !in(t, 1, 200) || !in(what, 0, 3)) {
            return BAD;
        }
        List<Kernel> kept = kernels();
        kept.removeIf(k -> k.size < size);
        heat(kept, wholePan(), t, settings[1], settings[0]);
        return new int[] {states(kept, 1), large(kept), states(kept, 0), states(kept, 2)}[what];
    }

    int jar(int water, int damp, int days) {
        if (!in(water, 0, 99) || !in(damp, 0, 99) || !in(days, 0, 60)) {
            return BAD;
        }
        if (days == 0) {
            return water;
        }
        int before = jar(water, damp, days - 1);
        int differs = damp - before;
        return before + (int) (differs < 0 ? Math.floor(differs / 4.0) : Math.ceil(differs / 4.0));
    }

    int length(int water, int damp, int from, int to) {
        if (!in(water, 0, 99) || !in(damp, 0, 99) || !in(from, 0, 99) || !in(to, 0, 99) || from > to) {
            return BAD;
        }
        for (int d = 0; d <= 60; d++) {
            if (in(jar(water, damp, d), from, to)) {
                return d;
            }
        }
        return NONE;
    }

    private static BigInteger factorial(int n) {
        return n <= 0 ? BigInteger.ONE : factorial(n - 1).multiply(BigInteger.valueOf(n));
    }

    private static BigInteger choose(int n, int k) {
        return k < 0 || k > n ? BigInteger.ZERO : factorial(n).divide(factorial(k).multiply(factorial(n - k)));
    }

    private static BigInteger ways(int all, int c, int n, int k) {
        return choose(c, k).multiply(choose(all - c, n - k));
    }

    long cracked(int all, int c, int n, int k, int what) {
        if (!in(all, 1, 30) || !in(c, 0, all) || !in(n, 0, all) || !in(k, 0, n) || !in(what, 0, 1)) {
            return Long.MIN_VALUE + 2;
        }
        BigInteger above = ways(all, c, n, k);
        BigInteger below = choose(all, n);
        BigInteger shared = above.gcd(below);
        return (what == 0 ? above : below).divide(shared).longValueExact();
    }

    int span(int all, int n, int k, int x, int end) {
        if (!in(all, 1, 30) || !in(n, 0, all) || !in(k, 0, n) || !in(x, 0, 255) || !in(end, 0, 1)) {
            return BAD;
        }
        int found = NONE;
        for (int c = 0; c <= all; c++) {
            BigInteger sum = BigInteger.ZERO;
            for (int j = 0; j <= n; j++) {
                if (end == 0 ? j >= k : j <= k) {
                    sum = sum.add(ways(all, c, n, j));
                }
            }
            boolean more = sum.shiftLeft(8).compareTo(choose(all, n).multiply(BigInteger.valueOf(x))) > 0;
            if (more && (end == 1 || found == NONE)) {
                found = c;
            }
        }
        return found;
    }

    int heard(int grain, int second) {
        if (!in(grain, 0, told.size() - 1) || !in(second, 0, 199)) {
            return BAD;
        }
        if (heard.size() == 12) {
            return FULL;
        }
        heard.add(new int[] {grain, second});
        return heard.size();
    }

    private int off(int strength) {
        List<Kernel> all = kernels();
        heat(all, wholePan(), 200, strength, settings[0]);
        int sum = 0;
        for (int[] one : heard) {
            int went = all.get(one[0]).went;
            sum += went == NONE ? 200 : Math.abs(went - one[1]);
        }
        return sum;
    }

    int fits(int what) {
        if (!in(what, 0, 4)) {
            return BAD;
        }
        if (heard.isEmpty()) {
            return NOT;
        }
        List<Integer> fit = new ArrayList<>();
        int nearest = 15;
        for (int strength = 15; strength >= 5; strength--) {
            if (off(strength) == 0) {
                fit.add(0, strength);
            }
            nearest = off(strength) <= off(nearest) ? strength : nearest;
        }
        int least = fit.isEmpty() ? NONE : fit.get(0);
        int greatest = fit.isEmpty() ? NONE : fit.get(fit.size() - 1);
        return new int[] {least, greatest, fit.size(), nearest, off(nearest)}[what];
    }

    int sheet(int s, int form, int n) {
        if (!in(s, 0, 3) || !in(form, 0, 2) || n > 60) {
            return BAD;
        }
        if (n < 0) {
            return found(5);
        }
        sheets[s] = new long[n];
        forms[s] = form;
        return n;
    }

    int lose(int s) {
        if (!in(s, 0, 3)) {
            return BAD;
        }
        if (sheets[s] == null) {
            return found(1);
        }
        int n = sheets[s].length;
        sheets[s] = null;
        return n;
    }

    private void put(int s, int i, long v) {
        long span = new long[] {256, 65536, 1L << 32}[forms[s]];
        long low = Math.floorMod(v, span);
        sheets[s][i] = low >= span / 2 ? low - span : low;
    }

    private int objection(int s, int form, int i) {
        return sheets[s] == null ? 1 : forms[s] != form ? 3 : in(i, 0, sheets[s].length - 1) ? 0 : 2;
    }

    int lay(int s, int form, int i, int v) {
        if (!in(s, 0, 3) || !in(form, 0, 2)) {
            return BAD;
        }
        if (objection(s, form, i) != 0) {
            return found(objection(s, form, i));
        }
        put(s, i, v);
        return 1;
    }

    int get(int s, int form, int i) {
        if (!in(s, 0, 3) || !in(form, 0, 2)) {
            return Integer.MIN_VALUE;
        }
        if (objection(s, form, i) != 0) {
            found(objection(s, form, i));
            return Integer.MIN_VALUE;
        }
        return (int) sheets[s][i];
    }

    int copy(int s, int i, int t, int j, int n) {
        if (!in(s, 0, 3) || !in(t, 0, 3)) {
            return BAD;
        }
        if (sheets[s] == null || sheets[t] == null) {
            return found(1);
        }
        if (forms[s] != forms[t]) {
            return found(4);
        }
        if (i < 0 || j < 0 || n < 0 || (long) i + n > sheets[s].length || (long) j + n > sheets[t].length) {
            return found(2);
        }
        long[] was = sheets[s].clone();
        for (int k = 0; k < n; k++) {
            sheets[t][j + k] = was[i + k];
        }
        return 1;
    }

    int write(int second, int s) {
        if (!in(second, 0, 199) || !in(s, 0, 3)) {
            return BAD;
        }
        if (sheets[s] == null) {
            return found(1);
        }
        int many = 0;
        while (many < sheets[s].length && second + many <= 199) {
            put(s, many, sounds(second + many, false));
            many++;
        }
        return many;
    }

    int count(int what) {
        int seconds = 0;
        for (String part : panParts()) {
            seconds += part.startsWith("h") ? Integer.parseInt(part.substring(part.indexOf('x') + 1)) : 0;
        }
        int water = told.stream().mapToInt(t -> t[1]).sum();
        return in(what, 0, 8) ? new int[] {told.size(), texts[0].length(), texts[1].length(), texts[2].length(),
            texts[3].length(), seconds, heard.size(), water, latest}[what] : BAD;
    }

    long digest() {
        List<Long> all = new ArrayList<>();
        for (int what = 0; what <= 7; what++) {
            all.add((long) count(what));
        }
        for (int text = 0; text <= 3; text++) {
            all.add((long) fault(text));
        }
        for (int g = 0; g < told.size(); g++) {
            for (int what = 0; what <= 5; what++) {
                all.add((long) after(g, 100, what));
            }
        }
        for (int i = 0; i < 18; i++) {
            all.add((long) stop(i / 6, i % 6));
        }
        all.add((long) best());
        for (int what = 0; what <= 2; what++) {
            all.add((long) even(60, what));
        }
        for (int what = 0; what <= 3; what++) {
            all.add((long) sieved(3, 100, what));
        }
        for (int what = 0; what <= 4; what++) {
            all.add((long) fits(what));
        }
        long h = 17;
        for (long v : all) {
            h = h * 31 + v;
        }
        return h;
    }
}
