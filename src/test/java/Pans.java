import java.util.ArrayList;
import java.util.List;

/** Objects that several tests begin with, and all that can be seen of one. */
final class Pans {
    static final int NONE = -1, BAD = -2, NOT = -3, FULL = -4;
    static final int NULL = -11, INDEX = -12, CAST = -13, STORE = -14, SIZE = -15;
    static final int ANY_BAD = -100002, ANY_NOT = -100003;
    static final int LOW = Integer.MIN_VALUE, HIGH = Integer.MAX_VALUE;
    static final long LONG_BAD = Long.MIN_VALUE + 2;

    /** Sheets of ready() and full(): bytes, shorts, LOST, ints. */
    private static final int[] FORMS = {0, 1, 2, 2};
    private static final int[] ITEMS = {4, 2, 0, 60};

    private Pans() {
    }

    /** THE PAN is as told; no grains. */
    static PopPan with(String pan) {
        PopPan x = new PopPan();
        Check.type(x, 0, pan);
        return x;
    }

    /**
     * Heat 50: the warmth of the lowest one is 49, 96, 142, 186, 229, 271 after 1, 2, .. seconds.
     * Grain 0 goes in second 4 (LARGE 35), 1 is dry and lies above it, 2 goes in second 2 (LARGE 16).
     */
    static PopPan ready() {
        PopPan x = with("h50x99");
        x.grain(0, 40, 10, 3, 0);
        x.grain(0, 0, 20, 9, 0);
        x.grain(3, 40, 1, 5, 0);
        Check.type(x, 2, "t5");
        Check.type(x, 3, "n1");
        x.heard(0, 4);
        addSheets(x);
        return x;
    }

    /** Twelve grains, texts to their last byte (all well), twelve that were heard. */
    static PopPan full() {
        PopPan x = with(fullPan());
        for (int text = 1; text <= 3; text++) {
            Check.type(x, text, fullRule(text));
        }
        for (int g = 0; g < 12; g++) {
            x.grain(g % 3, 10 + 7 * g, 2 + g, 1 + g % 9, g % 10);
            x.heard(g, 10 * g);
        }
        addSheets(x);
        return x;
    }

    static String fullPan() {
        return "h9x9;".repeat(10) + "l;s;h30x50";
    }

    static String fullRule(int text) {
        return "g9|".repeat(8) + "n" + text + "|t99";
    }

    private static void addSheets(PopPan x) {
        for (int s = 0; s <= 3; s++) {
            if (ITEMS[s] > 0) {
                x.sheet(s, FORMS[s], ITEMS[s]);
                x.lay(s, FORMS[s], 0, 30);
                x.lay(s, FORMS[s], 1, 5);
            }
        }
        x.lay(0, 0, 2, 4);
        x.lay(0, 0, 3, 3);
        x.lay(3, 2, 59, 77);
    }

    /** All that can be asked of an object of ready() or full(); it is spent by that. */
    private static List<Long> seen(PopPan x) {
        List<Long> all = new ArrayList<>();
        for (int what = 0; what <= 7; what++) {
            all.add((long) x.count(what));
        }
        all.add(x.digest());
        for (int text = 0; text <= 3; text++) {
            all.add((long) x.fault(text));
        }
        for (int second = 0; second <= 140; second += 35) {
            for (int what = 0; what <= 2; what++) {
                all.add((long) x.pan(second, what));
            }
        }
        int grains = x.count(0);
        for (int g = 0; g < grains; g++) {
            all.add((long) x.after(g, 1, 0));
            all.add((long) x.after(g, 200, 4));
            for (int what = 0; what <= 3; what++) {
                all.add((long) x.change(g, what, 1));
            }
        }
        for (int what = 0; what <= 5; what++) {
            all.add((long) x.set(what, 10));
        }
        for (int s = 0; s <= 3; s++) {
            for (int i = 0; i < ITEMS[s]; i++) {
                all.add((long) x.get(s, FORMS[s], i));
            }
            all.add((long) x.lose(s));
        }
        return all;
    }

    /** x went through what y did not: nothing but the latest finding (its number is told) may differ. */
    static void unchanged(String why, PopPan x, PopPan y, int finding) {
        Check.due(why + ": the latest finding", x.count(8), finding);
        Check.holds(why + ": nothing is changed", seen(x).equals(seen(y)));
    }
}
