import java.util.Random;

/** Many runs of calls, the same for PopPan and for the model; each answer of one must be the other's. */
public final class ModelTest {
    private static final int RUNS = 200, CALLS = 120;
    private static final int[] FAR = {
        Integer.MIN_VALUE, Integer.MIN_VALUE + 1, -1000, -3, -2, 256, 1000, Integer.MAX_VALUE - 1, Integer.MAX_VALUE};

    private final Random random;
    private final PopPan x = new PopPan();
    private final Model m = new Model();
    private String call = "";

    private ModelTest(long seed) {
        random = new Random(seed);
    }

    public static void main(String[] args) {
        for (int run = 0; run < RUNS && Check.wrongSoFar() < 20; run++) {
            ModelTest test = new ModelTest(run);
            test.begin();
            for (int i = 0; i < CALLS; i++) {
                test.step(run);
            }
        }
        Check.end();
    }

    /** Mostly a number that may be, now and then one beside its ends, seldom one far off. */
    private int some(int least, int most) {
        int kind = random.nextInt(60);
        if (kind == 0) {
            return FAR[random.nextInt(FAR.length)];
        }
        if (kind == 1) {
            return random.nextBoolean() ? least - 1 : most + 1;
        }
        if (kind < 6) {
            return random.nextBoolean() ? least : most;
        }
        return least + random.nextInt(most - least + 1);
    }

    private String panPart() {
        switch (random.nextInt(8)) {
            case 0:
                return "s";
            case 1:
                return "l";
            case 2:
                return "o";
            case 3:
                return "h" + random.nextInt(100) + "x" + random.nextInt(10);
            default:
                return "h" + random.nextInt(40) + "x" + (1 + random.nextInt(99));
        }
    }

    private String condition() {
        switch (random.nextInt(3)) {
            case 0:
                return "g" + random.nextInt(30);
            case 1:
                return "n" + random.nextInt(12);
            default:
                return "t" + random.nextInt(210);
        }
    }

    private String text(int text) {
        StringBuilder all = new StringBuilder();
        int parts = random.nextInt(text == 0 ? 9 : 5);
        for (int i = 0; i < parts; i++) {
            all.append(i == 0 ? "" : text == 0 ? ";" : "|").append(text == 0 ? panPart() : condition());
        }
        if (all.length() > 0 && random.nextInt(6) == 0) {
            all.setCharAt(random.nextInt(all.length()), "hx0123456789;slogn|t \0\u00ff".charAt(random.nextInt(23)));
        }
        return all.toString();
    }

    private void retype(int text) {
        due("wipe(" + text + ")", x.wipe(text), m.wipe(text));
        String signs = text(text);
        for (int i = 0; i < signs.length(); i++) {
            due("type(" + text + ", " + (int) signs.charAt(i) + ")", x.type(text, signs.charAt(i)), m.type(text, signs.charAt(i)));
        }
        due("fault(" + text + ") of " + signs, x.fault(text), m.fault(text));
    }

    private void addGrain() {
        int place = some(0, random.nextInt(4));
        int water = some(0, 99);
        int skin = random.nextInt(3) == 0 ? some(1, 20) : some(1, 8);
        int size = some(1, 9);
        int crack = random.nextBoolean() ? 0 : some(0, 9);
        due("grain(" + place + ", " + water + ", " + skin + ", " + size + ", " + crack + ")",
            x.grain(place, water, skin, size, crack), m.grain(place, water, skin, size, crack));
    }

    private void begin() {
        int grains = random.nextInt(13);
        for (int i = 0; i < grains; i++) {
            addGrain();
        }
        for (int text = 0; text <= 3; text++) {
            retype(text);
        }
    }

    private void due(String what, long got, long want) {
        call = what;
        Check.due("seed run, " + what, got, want);
    }

    private int someGrain() {
        return some(0, Math.max(0, m.count(0) - 1));
    }

    private void step(int run) {
        int before = Check.wrongSoFar();
        int kind = random.nextInt(100);
        if (kind < 20) {
            tell(kind);
        } else if (kind < 50) {
            askPan();
        } else if (kind < 55) {
            askBest();
        } else if (kind < 70) {
            askBags();
        } else {
            askSheets();
        }
        if (Check.wrongSoFar() != before) {
            System.out.println("  in run " + run + " at " + call);
        }
    }

    private void tell(int kind) {
        if (kind < 4) {
            addGrain();
        } else if (kind < 9) {
            int g = someGrain();
            int what = some(0, 3);
            int v = some(0, what == 0 ? 99 : what == 1 ? 20 : 9);
            due("change(" + g + ", " + what + ", " + v + ")", x.change(g, what, v), m.change(g, what, v));
        } else if (kind == 9 && random.nextInt(4) == 0) {
            due("empty()", x.empty(), m.empty());
        } else if (kind < 14) {
            int what = some(0, 5);
            int v = what == 1 ? some(5, 15) : what == 0 ? some(0, 40) : some(0, 99);
            due("set(" + what + ", " + v + ")", x.set(what, v), m.set(what, v));
        } else if (kind < 17) {
            retype(random.nextInt(4));
        } else {
            int text = some(0, 3);
            int b = some(0, 255);
            due("type(" + text + ", " + b + ")", x.type(text, b), m.type(text, b));
            due("fault(" + text + ")", x.fault(text), m.fault(text));
        }
    }

    private void askPan() {
        int g = someGrain();
        int t = some(0, 200);
        int what = some(0, 5);
        int rule = some(0, 2);
        boolean all = random.nextBoolean();
        due("pan(" + t + ", " + what + ")", x.pan(t, what), m.pan(t, what));
        due("after(" + g + ", " + t + ", " + what + ")", x.after(g, t, what), m.after(g, t, what));
        due("sounds(" + t + ", " + all + ")", x.sounds(t, all), m.sounds(t, all));
        due("stop(" + rule + ", " + what + ")", x.stop(rule, what), m.stop(rule, what));
        due("best()", x.best(), m.best());
        due("late(" + g + ")", x.late(g), m.late(g));
        int size = some(1, 9);
        due("sieved(" + size + ", " + t + ", " + what + ")", x.sieved(size, t, what), m.sieved(size, t, what));
        int count = some(0, 8);
        due("count(" + count + ")", x.count(count), m.count(count));
    }

    private void askBest() {
        int t = some(1, 200);
        int i = random.nextInt(3) == 0 ? -1 : some(-1, 99);
        int what = some(0, 1);
        int three = some(0, 2);
        due("even(" + t + ", " + three + ")", x.even(t, three), m.even(t, three));
        due("front(" + t + ", " + i + ")", x.front(t, i), m.front(t, i));
        due("air(" + t + ", " + what + ")", x.air(t, what), m.air(t, what));
        due("shaken(" + t + ", " + what + ")", x.shaken(t, what), m.shaken(t, what));
        due("digest()", x.digest(), m.digest());
    }

    private void askBags() {
        int water = some(0, 99);
        int damp = some(0, 99);
        int days = some(0, 60);
        int from = some(0, 99);
        int to = random.nextBoolean() ? some(0, 99) : from + random.nextInt(9);
        due("jar(" + water + ", " + damp + ", " + days + ")", x.jar(water, damp, days), m.jar(water, damp, days));
        due("length(" + water + ", " + damp + ", " + from + ", " + to + ")",
            x.length(water, damp, from, to), m.length(water, damp, from, to));
        int all = some(1, 30);
        int most = Math.max(1, Math.min(30, all));
        int c = some(0, most);
        int n = some(0, most);
        int k = some(0, Math.max(0, Math.min(n, 30)));
        int what = some(0, 1);
        int chance = some(0, 255);
        due("cracked(" + all + ", " + c + ", " + n + ", " + k + ", " + what + ")",
            x.cracked(all, c, n, k, what), m.cracked(all, c, n, k, what));
        due("span(" + all + ", " + n + ", " + k + ", " + chance + ", " + what + ")",
            x.span(all, n, k, chance, what), m.span(all, n, k, chance, what));
        if (random.nextInt(3) == 0) {
            int g = someGrain();
            int went = m.after(g, 200, 4);
            int second = went >= 0 && random.nextInt(3) > 0 ? went : some(0, 199);
            due("heard(" + g + ", " + second + ")", x.heard(g, second), m.heard(g, second));
        }
        int fit = some(0, 4);
        due("fits(" + fit + ")", x.fits(fit), m.fits(fit));
    }

    private void askSheets() {
        int s = some(0, 3);
        int t = some(0, 3);
        int form = some(0, 2);
        int n = random.nextBoolean() ? some(0, 60) : some(0, 8);
        int i = some(0, 8);
        int j = some(0, 8);
        int v = random.nextBoolean() ? some(0, 20) : random.nextInt();
        int kind = random.nextInt(10);
        if (kind == 0) {
            due("sheet(" + s + ", " + form + ", " + n + ")", x.sheet(s, form, n), m.sheet(s, form, n));
        } else if (kind == 1 && random.nextInt(3) == 0) {
            due("lose(" + s + ")", x.lose(s), m.lose(s));
        } else if (kind < 5) {
            due("lay(" + s + ", " + form + ", " + i + ", " + v + ")", x.lay(s, form, i, v), m.lay(s, form, i, v));
        } else if (kind < 7) {
            due("copy(" + s + ", " + i + ", " + t + ", " + j + ", " + n + ")", x.copy(s, i, t, j, n), m.copy(s, i, t, j, n));
        } else if (kind == 7) {
            int second = some(0, 199);
            due("write(" + second + ", " + s + ")", x.write(second, s), m.write(second, s));
        } else if (kind == 8) {
            due("read(" + s + ", " + t + ")", x.read(s, t), m.read(s, t));
        }
        due("get(" + s + ", " + form + ", " + i + ")", x.get(s, form, i), m.get(s, form, i));
        due("count(8)", x.count(8), m.count(8));
    }
}
