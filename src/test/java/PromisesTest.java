/** One method for each promise: ordinary inputs, the edges that the document names, wrong inputs. */
public final class PromisesTest {
    private static final int NONE = -1, BAD = -2, NOT = -3, FULL = -4;
    private static final int NULL = -11, INDEX = -12, CAST = -13, STORE = -14, SIZE = -15;
    private static final int ANY_BAD = -100002, ANY_NOT = -100003;
    private static final int LOW = Integer.MIN_VALUE, HIGH = Integer.MAX_VALUE;

    private PromisesTest() {
    }

    public static void main(String[] args) {
        newObject();
        grain();
        read();
        change();
        empty();
        set();
        type();
        wipe();
        faultOfThePan();
        faultOfRules();
        faultOfFullTexts();
        pan();
        afterWarmth();
        afterPressAndLeaks();
        afterGoing();
        afterBurning();
        afterRows();
        sounds();
        stop();
        best();
        even();
        front();
        air();
        shaken();
        late();
        sieved();
        jar();
        length();
        cracked();
        span();
        heard();
        fits();
        sheet();
        lose();
        lay();
        get();
        copy();
        write();
        count();
        digest();
        Check.end();
    }

    private static void due(String call, long got, long want) {
        Check.due(call, got, want);
    }

    /** Even heat 50: the warmth of the lowest one is 49, 96, 142, 186, 229, 271, 311 after 1, 2, .. seconds. */
    private static PopPan hot() {
        PopPan x = new PopPan();
        Check.type(x, 0, "h50x99");
        return x;
    }

    private static void newObject() {
        PopPan x = new PopPan();
        for (int what = 0; what <= 8; what++) {
            due("1: count(" + what + ")", x.count(what), 0);
        }
        for (int s = 0; s <= 3; s++) {
            due("1: lose(" + s + ")", x.lose(s), NULL);
            due("1: fault(" + s + ")", x.fault(s), NONE);
        }
        PopPan other = new PopPan();
        x.grain(0, 1, 1, 1, 1);
        x.set(0, 3);
        due("1: another object's grains", other.count(0), 0);
        due("1: another object's AIR", other.set(0, 4), 10);
    }

    private static void grain() {
        PopPan x = new PopPan();
        due("2: place -1", x.grain(-1, 1, 1, 1, 1), BAD);
        due("2: place 4", x.grain(4, 1, 1, 1, 1), BAD);
        due("2: water -1", x.grain(0, -1, 1, 1, 1), BAD);
        due("2: water 100", x.grain(0, 100, 1, 1, 1), BAD);
        due("2: skin 0", x.grain(0, 1, 0, 1, 1), BAD);
        due("2: skin 21", x.grain(0, 1, 21, 1, 1), BAD);
        due("2: size 0", x.grain(0, 1, 1, 0, 1), BAD);
        due("2: size 10", x.grain(0, 1, 1, 10, 1), BAD);
        due("2: crack -1", x.grain(0, 1, 1, 1, -1), BAD);
        due("2: crack 10", x.grain(0, 1, 1, 1, 10), BAD);
        due("2: far", x.grain(LOW, HIGH, LOW, HIGH, LOW), BAD);
        due("2: none came", x.count(0), 0);
        due("2: the least", x.grain(0, 0, 1, 1, 0), 0);
        due("2: the most", x.grain(3, 99, 20, 9, 9), 1);
        for (int g = 2; g < 12; g++) {
            due("2: number " + g, x.grain(g % 4, 10, 5, 5, 0), g);
        }
        due("2: the 13th", x.grain(0, 10, 5, 5, 0), FULL);
        due("2: BAD before FULL", x.grain(4, 10, 5, 5, 0), BAD);
        due("2: still 12", x.count(0), 12);
    }

    private static void layAll(PopPan x, int s, int form, int... items) {
        x.sheet(s, form, items.length);
        for (int i = 0; i < items.length; i++) {
            x.lay(s, form, i, items[i]);
        }
    }

    private static void read() {
        PopPan x = new PopPan();
        due("3: a LOST sheet", x.read(0, 0), NULL);
        due("3: the finding", x.count(8), 1);
        due("3: sheet -1", x.read(-1, 0), BAD);
        due("3: sheet 4", x.read(4, 0), BAD);
        due("3: place -1, LOST", x.read(0, -1), BAD);
        due("3: place 4, LOST", x.read(0, 4), BAD);
        layAll(x, 0, 1, 30, 5, 4, 3, 99, 20, 9, 9, 7, 7, 7);
        due("3: two are whole", x.read(0, 2), 2);
        due("3: water of the first", x.change(0, 0, 30), 30);
        due("3: skin of the first", x.change(0, 1, 5), 5);
        due("3: size of the first", x.change(0, 2, 4), 4);
        due("3: crack of the first", x.change(0, 3, 3), 3);
        due("3: crack of the second", x.change(1, 3, 0), 9);
        layAll(x, 1, 2, 1, 1, 1, 1, 1, 21, 1, 1, 1, 1, 1, 1);
        due("3: up to one that may not be", x.read(1, 0), 1);
        layAll(x, 2, 0, -1, 1, 1, 1);
        due("3: the first may not be", x.read(2, 0), 0);
        x.sheet(3, 0, 0);
        due("3: no items", x.read(3, 0), 0);
        x.sheet(3, 2, 60);
        for (int i = 0; i < 60; i++) {
            x.lay(3, 2, i, 1);
        }
        due("3: as there is room", x.read(3, 1), 9);
        due("3: no room", x.read(3, 1), 0);
        due("3: all", x.count(0), 12);
        readPlace();
    }

    private static void readPlace() {
        PopPan x = hot();
        x.grain(1, 0, 20, 1, 0);
        layAll(x, 0, 0, 0, 20, 1, 0);
        x.read(0, 1);
        x.read(0, 2);
        due("3: place 3", x.read(0, 3), 1);
        due("3: water of an item is the first of four", readWater(), 7);
        due("3: above the one of its place", x.after(1, 1, 0), 25);
        due("3: alone in another place", x.after(2, 1, 0), 49);
    }

    private static int readWater() {
        PopPan x = new PopPan();
        layAll(x, 0, 2, 1, 2, 3, 4, 7, 6, 5, 4);
        x.read(0, 0);
        return x.change(1, 0, 0);
    }

    private static void change() {
        PopPan x = hot();
        due("4: no grain", x.change(0, 0, 1), BAD);
        x.grain(0, 40, 10, 3, 5);
        due("4: grain -1", x.change(-1, 0, 1), BAD);
        due("4: grain 1", x.change(1, 0, 1), BAD);
        due("4: what -1", x.change(0, -1, 1), BAD);
        due("4: what 4", x.change(0, 4, 1), BAD);
        int[] least = {0, 1, 1, 0};
        int[] most = {99, 20, 9, 9};
        int[] was = {40, 10, 3, 5};
        for (int what = 0; what < 4; what++) {
            due("4: below " + what, x.change(0, what, least[what] - 1), BAD);
            due("4: above " + what, x.change(0, what, most[what] + 1), BAD);
            due("4: least " + what, x.change(0, what, least[what]), was[what]);
            due("4: most " + what, x.change(0, what, most[what]), least[what]);
            due("4: again " + what, x.change(0, what, was[what]), most[what]);
        }
        x.change(0, 3, 0);
        due("4: LARGE", x.after(0, 10, 5), 35);
        x.change(0, 2, 9);
        due("4: LARGE of a greater one", x.after(0, 10, 5), 107);
        due("4: water at first", x.count(7), 40);
    }

    private static void empty() {
        PopPan x = hot();
        due("5: none", x.empty(), 0);
        x.grain(0, 40, 10, 3, 0);
        x.grain(0, 40, 10, 3, 0);
        x.heard(0, 4);
        x.set(0, 7);
        due("5: two", x.empty(), 2);
        due("5: none again", x.empty(), 0);
        due("5: count(0)", x.count(0), 0);
        due("5: count(6)", x.count(6), 0);
        due("5: count(7)", x.count(7), 0);
        due("5: the text stays", x.count(1), 6);
        due("5: AIR stays", x.set(0, 10), 7);
        due("5: after() of none", x.after(0, 1, 0), BAD);
        due("5: numbers from 0", x.grain(2, 40, 10, 3, 0), 0);
        due("5: its place is new", x.after(0, 1, 0), 49);
    }

    private static void set() {
        PopPan x = new PopPan();
        int[] first = {10, 10, 20, 1, 5, 9};
        int[] least = {0, 5, 1, 0, 0, 0};
        int[] most = {99, 15, 99, 99, 99, 99};
        for (int what = 0; what < 6; what++) {
            due("6: below " + what, x.set(what, least[what] - 1), BAD);
            due("6: above " + what, x.set(what, most[what] + 1), BAD);
            due("6: first " + what, x.set(what, least[what]), first[what]);
            due("6: most " + what, x.set(what, most[what]), least[what]);
            due("6: kept " + what, x.set(what, first[what]), most[what]);
        }
        due("6: what -1", x.set(-1, 10), BAD);
        due("6: what 6", x.set(6, 10), BAD);
        due("6: far", x.set(HIGH, LOW), BAD);
    }

    private static void type() {
        PopPan x = new PopPan();
        due("7: text -1", x.type(-1, 65), BAD);
        due("7: text 4", x.type(4, 65), BAD);
        due("7: byte -1", x.type(0, -1), BAD);
        due("7: byte 256", x.type(0, 256), BAD);
        for (int text = 0; text <= 3; text++) {
            int most = text == 0 ? 60 : 30;
            for (int i = 1; i <= most; i++) {
                due("7: byte " + i + " of " + text, x.type(text, i == 1 ? 0 : 255), i);
            }
            due("7: beyond, of " + text, x.type(text, 65), FULL);
            due("7: BAD before FULL, of " + text, x.type(text, 256), BAD);
            due("7: count of " + text, x.count(text + 1), most);
        }
    }

    private static void wipe() {
        PopPan x = new PopPan();
        due("8: text -1", x.wipe(-1), BAD);
        due("8: text 4", x.wipe(4), BAD);
        due("8: empty", x.wipe(0), 0);
        Check.type(x, 0, "h9x9;l");
        Check.type(x, 1, "t9");
        due("8: the pan", x.wipe(0), 6);
        due("8: wiped", x.count(1), 0);
        due("8: cold", x.pan(0, 0), 0);
        due("8: no lid", x.pan(100, 2), 0);
        due("8: no seconds", x.count(5), 0);
        due("8: the rule stays", x.stop(0, 0), 9);
        due("8: the rule", x.wipe(1), 2);
        due("8: the rule's end", x.stop(0, 0), 200);
        Check.type(x, 2, "q");
        x.wipe(2);
        due("8: no fault left", x.fault(2), NONE);
    }

    private static void fault(int text, String signs, int want) {
        PopPan x = new PopPan();
        Check.type(x, text, signs);
        due("9: fault(" + text + ") of " + signs, x.fault(text), want);
    }

    private static void faultOfThePan() {
        PopPan x = new PopPan();
        due("9: text -1", x.fault(-1), BAD);
        due("9: text 4", x.fault(4), BAD);
        String[] well = {"", "h0x1", "h99x99", "h00x01", "h09x9", "s", "l", "o", "s;s;l;o;h5x5", "h1x1;h2x2;s"};
        for (String signs : well) {
            fault(0, signs, NONE);
        }
        fault(0, ";", 0);
        fault(0, "x", 0);
        fault(0, "9", 0);
        fault(0, "H", 0);
        fault(0, " s", 0);
        fault(0, "h", 1);
        fault(0, "hx", 1);
        fault(0, "h;", 1);
        fault(0, "h5", 2);
        fault(0, "h5;", 2);
        fault(0, "h55", 3);
        fault(0, "h555x1", 3);
        fault(0, "h5x", 3);
        fault(0, "h5xx", 3);
        fault(0, "h5x0", 3);
        fault(0, "h5x00", 3);
        fault(0, "h5x0;s", 3);
        fault(0, "h5x0q", 3);
        fault(0, "h5x100", 5);
        fault(0, "h5x5s", 4);
        fault(0, "s;", 2);
        fault(0, "s;;s", 2);
        fault(0, "ss", 1);
        fault(0, "l5", 1);
        fault(0, "o|s", 1);
        fault(0, "s;l;o;h1x1;g1", 11);
        fault(0, "s;h1x0;q", 5);
        fault(0, "\u00ff", 0);
        fault(0, "s\0", 1);
    }

    private static void faultOfRules() {
        String[] well = {"", "g1", "g99", "n1", "n99", "t1", "t200", "t010", "g01", "g1|n2|t3", "t1|t1"};
        for (int text = 1; text <= 3; text++) {
            for (String signs : well) {
                fault(text, signs, NONE);
            }
            fault(text, "|", 0);
            fault(text, "q", 0);
            fault(text, "h1x1", 0);
            fault(text, "g", 1);
            fault(text, "gn", 1);
            fault(text, "g0", 1);
            fault(text, "g00", 1);
            fault(text, "n0|t1", 1);
            fault(text, "t0", 1);
            fault(text, "t000", 1);
            fault(text, "t201", 1);
            fault(text, "t999", 1);
            fault(text, "t2000", 4);
            fault(text, "g100", 3);
            fault(text, "n123", 3);
            fault(text, "g1|", 3);
            fault(text, "g1||", 3);
            fault(text, "g1;n1", 2);
            fault(text, "g1n1", 2);
            fault(text, "t5|n5|g0", 7);
        }
    }

    /** Texts that fill their room, of which nothing may be read behind the end. */
    private static void faultOfFullTexts() {
        String pan = "h1x1;".repeat(12);
        fault(0, pan, 60);
        fault(0, pan.substring(0, 59) + "s", 59);
        fault(0, pan.substring(0, 55) + ";h1x1", 55);
        fault(0, "s;" + pan.substring(0, 55) + "s;s", NONE);
        fault(0, "s;" + pan.substring(0, 55) + "h1x", 60);
        fault(0, "s;s;s;" + pan.substring(0, 50) + "h1x1", NONE);
        String rule = "g9|".repeat(10);
        fault(1, rule, 30);
        fault(2, rule.substring(0, 24) + "t100|g", 30);
        fault(3, rule.substring(0, 24) + "t100|9", 29);
        fault(3, rule.substring(0, 21) + "t99|t200|", 30);
        fault(3, rule.substring(0, 21) + "t099|t200", NONE);
    }

    private static void pan() {
        PopPan x = new PopPan();
        Check.type(x, 0, "s;h7x2;l;s;s;h0x1;h8x1;o;s");
        int[] heats = {7, 7, 0, 8, 0, 0};
        int[] shakes = {1, 0, 2, 0, 1, 0};
        int[] lids = {0, 0, 1, 1, 0, 0};
        for (int s = 0; s < heats.length; s++) {
            due("10: heat " + s, x.pan(s, 0), heats[s]);
            due("10: shaken " + s, x.pan(s, 1), shakes[s]);
            due("10: lid " + s, x.pan(s, 2), lids[s]);
        }
        due("10: what 3", x.pan(0, 3), BAD);
        due("10: what -1", x.pan(0, -1), BAD);
        due("10: second -1", x.pan(-1, 0), BAD);
        due("10: second 200", x.pan(200, 0), BAD);
        Check.retype(x, 0, "h9x5;l;o;l;h8x5");
        due("10: the latest of lids", x.pan(5, 2), 1);
        due("10: the lid stays on", x.pan(199, 2), 1);
        x.type(0, ';');
        due("10: as if empty, heat", x.pan(0, 0), 0);
        due("10: as if empty, lid", x.pan(199, 2), 0);
        x.type(0, 'o');
        due("10: well again", x.pan(0, 0), 9);
        due("10: off again", x.pan(199, 2), 0);
        Check.retype(x, 0, "h1x99;h2x99;h3x99;s;l;s;h4x99");
        due("10: second 199", x.pan(199, 0), 3);
        due("10: nothing behind 199 comes", x.pan(199, 1) + x.pan(199, 2), 0);
        due("10: its seconds", x.count(5), 396);
        Check.retype(x, 0, "h1x99;h2x99;h3x2;s;l");
        due("10: shaken in 200, which is none", x.pan(199, 1), 0);
        due("10: a lid in 200, which is none", x.pan(199, 2), 0);
        Check.retype(x, 0, "h1x99;h2x99;h3x1;s;l");
        due("10: shaken in 199", x.pan(199, 1), 1);
        due("10: a lid in 199", x.pan(199, 2), 1);
        due("10: no lid in 198", x.pan(198, 2), 0);
    }

    private static void afterWarmth() {
        PopPan x = hot();
        x.grain(0, 0, 20, 1, 0);
        int[] warmth = {0, 49, 96, 142, 186, 229, 271, 311};
        for (int t = 0; t < warmth.length; t++) {
            due("11: WARMTH after " + t, x.after(0, t, 0), warmth[t]);
        }
        due("11: grain 1", x.after(1, 0, 0), BAD);
        due("11: grain -1", x.after(-1, 0, 0), BAD);
        due("11: t -1", x.after(0, -1, 0), BAD);
        due("11: t 201", x.after(0, 201, 0), BAD);
        due("11: what -1", x.after(0, 0, -1), BAD);
        due("11: what 6", x.after(0, 0, 6), BAD);
        due("11: t 200 may be", x.after(0, 200, 4), NONE);
        Check.retype(x, 0, "l;h50x99");
        int[] withLid = {0, 50, 99, 147, 194, 241, 287};
        for (int t = 0; t < withLid.length; t++) {
            due("11: WARMTH with the lid after " + t, x.after(0, t, 0), withLid[t]);
        }
        Check.retype(x, 0, "l;h99x99");
        due("11: a 64th of 388", x.after(0, 4, 0), 382);
        Check.retype(x, 0, "h99x1;h0x1");
        due("11: it cools", x.after(0, 2, 0), 93);
        due("11: it cools behind the end", x.after(0, 3, 0), 91);
    }

    private static void afterPressAndLeaks() {
        PopPan x = hot();
        x.grain(0, 40, 20, 1, 5);
        due("11: PRESS at first", x.after(0, 0, 2), 0);
        due("11: WATER at first", x.after(0, 0, 1), 40);
        due("11: no PRESS below 100", x.after(0, 2, 2), 0);
        due("11: PRESS of 142", x.after(0, 3, 2), 42);
        due("11: a leak", x.after(0, 3, 1), 38);
        due("11: PRESS by the WATER left", x.after(0, 4, 2), 81);
        due("11: another leak", x.after(0, 4, 1), 34);
        Check.retype(x, 0, "h50x2;h7x1");
        due("11: WARMTH of just 100", x.after(0, 3, 0), 100);
        due("11: no PRESS of 100", x.after(0, 3, 2), 0);
        Check.retype(x, 0, "h50x2;h8x1");
        due("11: PRESS of 101", x.after(0, 3, 2), 1);
        x.change(0, 0, 39);
        due("11: PRESS is cut", x.after(0, 3, 2), 0);
        Check.retype(x, 0, "h99x2;h50x1");
        x.change(0, 0, 3);
        x.change(0, 3, 9);
        due("11: not all leaks", x.after(0, 2, 1), 3);
        Check.retype(x, 0, "h50x3;h30x99");
        due("11: it is never below 0", Math.min(0, x.after(0, 200, 1)), 0);
    }

    private static void afterGoing() {
        PopPan x = hot();
        x.grain(0, 40, 10, 3, 0);
        due("11: WHOLE after 4", x.after(0, 4, 3), 0);
        due("11: no second yet", x.after(0, 4, 4), NONE);
        due("11: no LARGE yet", x.after(0, 4, 5), 0);
        due("11: OPEN after 5", x.after(0, 5, 3), 1);
        due("11: in second 4", x.after(0, 5, 4), 4);
        due("11: LARGE", x.after(0, 5, 5), 35);
        due("11: WARMTH stays", x.after(0, 50, 0), 229);
        due("11: PRESS stays", x.after(0, 50, 2), 129);
        due("11: WATER stays", x.after(0, 50, 1), 40);
        x.set(0, 6);
        due("11: just enough", x.after(0, 9, 4), 3);
        due("11: LARGE of just enough", x.after(0, 9, 5), 24);
        x.set(0, 7);
        due("11: one too little", x.after(0, 9, 4), 4);
        x.set(0, 10);
        x.set(1, 9);
        due("11: a weaker one", x.after(0, 9, 4), 3);
        x.set(1, 10);
        x.change(0, 1, 1);
        due("11: HOLD is 1 at least", x.after(0, 9, 4), 2);
        x.set(0, 32);
        due("11: HOLD is 1: just enough", x.after(0, 9, 4), 2);
        x.set(0, 33);
        due("11: HOLD is 1: too little", x.after(0, 9, 4), 3);
        x.set(0, 0);
        x.set(1, 9);
        x.change(0, 1, 10);
        x.change(0, 3, 9);
        // Press 42 leaks 3; then 79 is more than 9 times 8 (by the 40 at first), but not 9 times 9 (by the 37 left).
        due("11: HOLD by the WATER left", x.after(0, 9, 4), 4);
    }

    private static void afterBurning() {
        PopPan x = hot();
        x.grain(0, 40, 20, 1, 9);
        x.grain(0, 0, 20, 1, 0);
        x.change(0, 3, 0);
        due("11: WHOLE at 229", x.after(0, 5, 3), 0);
        due("11: BURNT at 271", x.after(0, 6, 3), 2);
        due("11: no second in which it went", x.after(0, 6, 4), NONE);
        due("11: PRESS of its last second", x.after(0, 6, 2), 171);
        due("11: its PRESS stays", x.after(0, 60, 2), 171);
        due("11: it gets warmer", x.after(0, 7, 0), 311);
        due("11: the one above it", x.after(1, 6, 0), 137);
        due("11: it stays in its row", x.after(1, 7, 0), 157);
        Check.retype(x, 0, "h50x5;h29x1");
        due("11: just 250", x.after(0, 6, 0), 250);
        due("11: just 250 is WHOLE", x.after(0, 6, 3), 0);
        Check.retype(x, 0, "h50x5;h30x1");
        due("11: 251 is BURNT", x.after(0, 6, 3), 2);
        goingOrBurning();
    }

    /** Heat 99: warmth 96, 189, 279; press 179 in the third second, if no water leaks. */
    private static void goingOrBurning() {
        PopPan x = new PopPan();
        Check.type(x, 0, "h99x3");
        x.grain(0, 40, 17, 1, 0);
        x.set(0, 0);
        due("11: warmer than 250", x.after(0, 3, 0), 279);
        due("11: going comes before burning", x.after(0, 3, 3), 1);
        x.change(0, 3, 9);
        due("11: it leaks", x.after(0, 2, 1), 32);
        due("11: so it burns", x.after(0, 3, 3), 2);
        due("11: PRESS by what is left", x.after(0, 3, 2), 143);
        due("11: a BURNT one leaks no more", x.after(0, 3, 1), 32);
    }

    private static void afterRows() {
        PopPan x = hot();
        for (int g = 0; g < 7; g++) {
            x.grain(0, 0, 20, 1, 0);
        }
        x.grain(1, 0, 20, 1, 0);
        int[] first = {49, 25, 12, 6, 3, 1, 0, 49};
        for (int g = 0; g < 8; g++) {
            due("11: the row, " + g, x.after(g, 1, 0), first[g]);
        }
        Check.retype(x, 0, "s;h50x1");
        int[] shaken = {0, 49, 25, 12, 6, 3, 1, 49};
        for (int g = 0; g < 8; g++) {
            due("11: shaken, " + g, x.after(g, 1, 0), shaken[g]);
        }
        Check.retype(x, 0, "s;s;h50x1;s;h50x1");
        due("11: shaken twice", x.after(2, 1, 0), 49);
        due("11: and once more", x.after(3, 2, 0), 73);
        risingOnes();
        fullRow();
    }

    /** All twelve in the last place, turned around more than once. */
    private static void fullRow() {
        PopPan x = new PopPan();
        for (int g = 0; g < 12; g++) {
            x.grain(3, 0, 20, 1, 0);
        }
        Check.type(x, 0, "s;".repeat(14) + "h99x1");
        due("11: the third is the lowest", x.after(2, 1, 0), 96);
        due("11: the fourth is above it", x.after(3, 1, 0), 48);
        due("11: the first but one to the top", x.after(1, 1, 0), 0);
        x.empty();
        for (int g = 0; g < 12; g++) {
            x.grain(g / 11, 0, 20, 1, 0);
        }
        due("11: another place is turned alone", x.after(11, 1, 0), 96);
    }

    private static void risingOnes() {
        PopPan x = hot();
        x.grain(0, 40, 10, 3, 0);
        x.grain(0, 0, 20, 1, 0);
        x.grain(0, 0, 20, 1, 0);
        int before = x.after(1, 4, 0);
        int then = x.after(1, 5, 0);
        due("11: still below it in its second", then, before + 25 - (before + 25) / 32);
        due("11: the next gets all", x.after(1, 6, 0), then + 50 - (then + 50) / 32);
        Check.retype(x, 0, "h50x5;s;h50x1");
        due("11: OPEN ones are not shaken", x.after(1, 6, 0), then + 25 - (then + 25) / 32);
    }

    private static void sounds() {
        PopPan x = hot();
        due("12: second -1", x.sounds(-1, true), BAD);
        due("12: second 200", x.sounds(200, false), BAD);
        due("12: none", x.sounds(199, true), 0);
        x.grain(0, 40, 10, 3, 0);
        x.grain(1, 40, 10, 5, 0);
        x.grain(2, 40, 1, 5, 0);
        x.grain(3, 0, 1, 5, 0);
        int[] each = {0, 0, 1, 0, 2, 0};
        int[] all = {0, 0, 1, 1, 3, 3};
        for (int s = 0; s < each.length; s++) {
            due("12: in " + s, x.sounds(s, false), each[s]);
            due("12: up to " + s, x.sounds(s, true), all[s]);
        }
        due("12: in the last", x.sounds(199, false), 0);
        due("12: up to the last", x.sounds(199, true), 3);
    }

    /** Three that go in seconds 2, 4 and 4, one that burns in 5, one that stays. */
    private static PopPan five() {
        PopPan x = hot();
        x.grain(0, 40, 10, 3, 0);
        x.grain(1, 40, 10, 5, 0);
        x.grain(2, 40, 1, 5, 0);
        x.grain(3, 0, 1, 5, 0);
        x.grain(3, 0, 1, 5, 0);
        return x;
    }

    private static void stopsAt(PopPan x, String rule, int seconds) {
        Check.retype(x, 1, rule);
        due("13: seconds of " + rule, x.stop(0, 0), seconds);
    }

    private static void stop() {
        PopPan x = five();
        stopsAt(x, "", 200);
        stopsAt(x, "n1", 3);
        stopsAt(x, "n2", 5);
        stopsAt(x, "n3", 5);
        stopsAt(x, "n4", 200);
        stopsAt(x, "g1", 4);
        stopsAt(x, "g2", 7);
        stopsAt(x, "g99", 104);
        stopsAt(x, "t1", 1);
        stopsAt(x, "t200", 200);
        stopsAt(x, "t150|g99|n99", 104);
        stopsAt(x, "g9|g3|g5", 8);
        stopsAt(x, "n3|t4", 4);
        PopPan y = new PopPan();
        Check.type(y, 0, "h0x97;h50x99");
        y.grain(0, 40, 10, 3, 0);
        stopsAt(y, "n1", 102);
        stopsAt(y, "g98", 200);
        stopsAt(y, "g99", 200);
        due("13: rule -1", x.stop(-1, 0), ANY_BAD);
        due("13: rule 3", x.stop(3, 0), ANY_BAD);
        due("13: what -1", x.stop(0, -1), ANY_BAD);
        due("13: what 6", x.stop(0, 6), ANY_BAD);
        Check.retype(x, 1, "g");
        due("13: a FAULT", x.stop(0, 0), ANY_NOT);
        due("13: BAD before NOT", x.stop(0, 6), ANY_BAD);
        due("13: another rule is well", x.stop(1, 0), 200);
        stopParts();
    }

    private static void stopParts() {
        PopPan x = five();
        Check.type(x, 3, "t6");
        due("13: LEFT", x.stop(2, 1), 1);
        // (42 - 10) 5 by 10, 119 3 by 10, 119 5 by 10
        due("13: LARGE", x.stop(2, 2), 16 + 35 + 59);
        due("13: BURNT", x.stop(2, 3), 1);
        due("13: BROWNED", x.stop(2, 4), 0);
        due("13: WORTH", x.stop(2, 5), 110 - 5 - 9);
        x.set(2, 2);
        due("13: BROWNED after 2", x.stop(2, 4), 1);
        x.set(2, 3);
        due("13: BROWNED after 3", x.stop(2, 4), 1);
        x.set(2, 4);
        due("13: not more than BROWN", x.stop(2, 4), 0);
        x.set(2, 1);
        due("13: BROWNED after 1", x.stop(2, 4), 3);
        due("13: WORTH of BROWNED ones", x.stop(2, 5), 110 - 5 - 36);
        x.set(3, 2);
        x.set(4, 7);
        x.set(5, 99);
        due("13: WORTH by settings", x.stop(2, 5), 220 - 7 - 396);
        Check.retype(x, 3, "t5");
        due("13: LEFT before one burns", x.stop(2, 1), 2);
        due("13: none BURNT yet", x.stop(2, 3), 0);
        Check.retype(x, 0, "h");
        due("13: a FAULT of THE PAN is none of the rule", x.stop(2, 0), 5);
        due("13: as if it was empty", x.stop(2, 1), 5);
    }

    private static void best() {
        PopPan x = five();
        due("14: all are like", x.best(), 0);
        Check.type(x, 1, "t2");
        due("14: the second is better", x.best(), 1);
        x.set(2, 1);
        Check.type(x, 2, "t5");
        Check.type(x, 3, "t6");
        due("14: WORTH of t2", x.stop(0, 5), -25);
        due("14: WORTH of t5", x.stop(1, 5), 110 - 10 - 9);
        due("14: WORTH of t6", x.stop(2, 5), 110 - 5 - 36);
        due("14: t5", x.best(), 1);
        Check.retype(x, 1, "t5");
        due("14: of like ones the first", x.best(), 0);
        x.type(1, '|');
        due("14: without a FAULT", x.best(), 1);
        x.type(2, '|');
        due("14: the last without one", x.best(), 2);
        x.type(3, '|');
        due("14: none", x.best(), NONE);
        Check.retype(x, 3, "t2");
        due("14: WORTH below 0", x.best(), 2);
    }

    private static void even() {
        PopPan x = new PopPan();
        due("15: t 0", x.even(0, 0), BAD);
        due("15: t 201", x.even(201, 0), BAD);
        due("15: what -1", x.even(1, -1), BAD);
        due("15: what 3", x.even(1, 3), BAD);
        due("15: no grains", x.even(200, 0), 1);
        x.grain(0, 40, 1, 3, 0);
        Check.type(x, 0, "l;s;h1x1");
        // One second: 99 - 3 is no more than 100.
        due("15: one second", x.even(1, 1), 0);
        due("15: one second, the least", x.even(1, 0), 1);
        // Two: push 11 (21 less 10) needs warmth 120; heat h: h - h/32 + h .. : 62 gives 61, 123 - 3 = 120.
        due("15: two seconds", x.even(2, 0), 62);
        due("15: two seconds, OPEN", x.even(2, 1), 1);
        due("15: two seconds, BURNT", x.even(2, 2), 0);
        due("15: alone by THE PAN it stays", x.after(0, 200, 3), 0);
        x.grain(1, 0, 1, 3, 0);
        due("15: the fewest BURNT", x.even(3, 2), 0);
        x.change(0, 0, 30);
        x.change(0, 1, 20);
        x.set(0, 99);
        due("15: OPEN comes first", x.even(200, 1), evenBest(x, 200, 1));
        due("15: then BURNT", x.even(200, 2), evenBest(x, 200, 2));
        due("15: then the least", x.even(200, 0), evenBest(x, 200, 0));
        evenRow();
        evenBurnsFewer();
    }

    private static void evenRow() {
        PopPan x = new PopPan();
        for (int g = 0; g < 4; g++) {
            x.grain(0, 20 + 9 * g, 9 - g, 3, g);
        }
        for (int t = 30; t <= 60; t += 15) {
            due("15: a row, OPEN after " + t, x.even(t, 1), evenBest(x, t, 1));
            due("15: a row, BURNT after " + t, x.even(t, 2), evenBest(x, t, 2));
            due("15: a row, the heat for " + t, x.even(t, 0), evenBest(x, t, 0));
        }
    }

    /** Heat 66 opens as many as 68, but burns one more, and 67 does no better. */
    private static void evenBurnsFewer() {
        PopPan x = new PopPan();
        x.grain(0, 10, 12, 2, 2);
        x.grain(0, 70, 14, 3, 9);
        x.grain(0, 1, 6, 2, 6);
        x.grain(0, 0, 4, 5, 7);
        due("15: a greater heat that burns fewer", x.even(12, 0), 68);
        due("15: OPEN by it", x.even(12, 1), 1);
        due("15: BURNT by it", x.even(12, 2), 1);
        Check.type(x, 0, "h66x99");
        due("15: OPEN by less", x.sieved(1, 12, 0), 1);
        due("15: BURNT by less", x.sieved(1, 12, 3), 2);
    }

    /** The same by pans that are typed heat by heat. */
    private static int evenBest(PopPan x, int t, int what) {
        int best = 0;
        int heat = 0;
        int mostOpen = -1;
        int fewestBurnt = 0;
        for (int h = 1; h <= 99; h++) {
            Check.retype(x, 0, "h" + h + "x99;h" + h + "x99;h" + h + "x2");
            int open = 0;
            int burnt = 0;
            for (int g = 0; g < x.count(0); g++) {
                open += x.after(g, t, 3) == 1 ? 1 : 0;
                burnt += x.after(g, t, 3) == 2 ? 1 : 0;
            }
            if (open > mostOpen || open == mostOpen && burnt < fewestBurnt) {
                heat = h;
                mostOpen = open;
                fewestBurnt = burnt;
            }
        }
        best = what == 0 ? heat : what == 1 ? mostOpen : fewestBurnt;
        return best;
    }

    private static void front() {
        PopPan x = new PopPan();
        due("16: t 0", x.front(0, -1), BAD);
        due("16: t 201", x.front(201, -1), BAD);
        due("16: i -2", x.front(1, -2), BAD);
        due("16: far below", x.front(1, LOW), BAD);
        due("16: far above", x.front(1, HIGH), NONE);
        due("16: all are like", x.front(5, -1), 99);
        due("16: the first", x.front(5, 0), 1);
        due("16: the last", x.front(5, 98), 99);
        due("16: beyond", x.front(5, 99), NONE);
        x.grain(0, 40, 1, 3, 0);
        due("16: from 62 on", x.front(2, -1), 38);
        due("16: 62", x.front(2, 0), 62);
        due("16: 63", x.front(2, 1), 63);
        due("16: 99", x.front(2, 37), 99);
        due("16: beyond 99", x.front(2, 38), NONE);
        // Warmth 252 from heat 89 on: one goes with press 152, the other burns; 88 does neither.
        x.grain(1, 0, 1, 3, 0);
        x.change(0, 1, 14);
        x.set(0, 32);
        due("16: even heat of both", x.even(3, 0), 89);
        due("16: one is OPEN", x.even(3, 1), 1);
        due("16: one is BURNT", x.even(3, 2), 1);
        due("16: more of both is no better", x.front(3, -1), 99);
        // Without the burning one the heats that open none are behind.
        x.change(1, 0, 40);
        due("16: two go", x.even(3, 1), 2);
        due("16: from where both go", x.front(3, 0), 89);
        x.change(1, 0, 0);
        x.change(0, 0, 0);
        due("16: as many OPEN, fewer BURNT", x.front(3, -1), 88);
    }

    private static void air() {
        PopPan x = hot();
        due("17: t 0", x.air(0, 0), BAD);
        due("17: t 201", x.air(201, 0), BAD);
        due("17: what -1", x.air(1, -1), BAD);
        due("17: what 2", x.air(1, 2), BAD);
        due("17: no grains", x.air(200, 0), 0);
        due("17: no grains, LARGE", x.air(200, 1), 0);
        x.grain(0, 40, 10, 3, 0);
        // Press 86 in second 3 goes with AIR up to 6, press 129 in 4 with up to 49: 122 3 by 10 with 7.
        due("17: after 4", x.air(4, 0), 0);
        due("17: LARGE after 4", x.air(4, 1), 25);
        due("17: after 5", x.air(5, 0), 7);
        due("17: LARGE after 5", x.air(5, 1), 36);
        // With 50 it goes at 171 in second 5: 121 3 by 10 is as much; of like ones the least.
        due("17: after 6", x.air(6, 0), 7);
        due("17: LARGE after 6", x.air(6, 1), 36);
        x.change(0, 2, 9);
        due("17: of a greater one", x.air(6, 0), 7);
        due("17: LARGE of a greater one", x.air(6, 1), 109);
        due("17: AIR stays", x.set(0, 10), 10);
        due("17: after 3", x.air(3, 1), 0);
        due("17: after 1", x.air(1, 0), 0);
        // Press 84, then two or so more each second to 178, which 98 still lets go; with 99 it is 358 a second later.
        x.change(0, 0, 80);
        x.change(0, 1, 12);
        Check.retype(x, 0, "h50x3;h7x23;h99x1");
        due("17: the most", x.air(27, 0), 99);
        due("17: LARGE with the most", x.air(27, 1), 233);
        // The same for 100, which is none: 99 lets 180 go, as 9 times 9 is 81.
        x.set(1, 9);
        x.change(0, 1, 13);
        Check.retype(x, 0, "h50x3;h7x24;h99x1");
        due("17: none above 99", x.air(28, 0), 4);
        due("17: LARGE by none above 99", x.air(28, 1), 77);
    }

    private static void shaken() {
        PopPan x = new PopPan();
        due("18: t 0", x.shaken(0, 0), BAD);
        due("18: t 201", x.shaken(201, 0), BAD);
        due("18: what -1", x.shaken(1, -1), BAD);
        due("18: what 2", x.shaken(1, 2), BAD);
        due("18: no grains", x.shaken(200, 0), NONE);
        due("18: no grains, OPEN", x.shaken(200, 1), 0);
        due("18: one second", x.shaken(1, 1), 0);
        Check.type(x, 0, "h50x5");
        x.grain(0, 0, 20, 1, 0);
        x.grain(0, 40, 10, 3, 0);
        due("18: never", x.after(1, 200, 3), 0);
        due("18: at once", x.shaken(5, 0), 0);
        due("18: one is OPEN then", x.shaken(5, 1), 1);
        due("18: too short a time", x.shaken(4, 0), NONE);
        due("18: none then", x.shaken(4, 1), 0);
        Check.retype(x, 0, "s;h50x5");
        due("18: already so", x.shaken(5, 0), NONE);
        due("18: OPEN without one more", x.shaken(5, 1), 1);
        // Once at the beginning turns it back; the best is to turn it before, but not twice.
        Check.retype(x, 0, "h0x3;s;s;h50x5");
        due("18: of like ones the first", x.shaken(8, 0), 0);
        due("18: t as told", x.shaken(7, 0), NONE);
        Check.retype(x, 0, "h0x3;s;s;h50x5;s;h50x1");
        due("18: also behind", x.shaken(200, 1), 1);
    }

    private static void late() {
        PopPan x = hot();
        due("19: no grain", x.late(0), ANY_BAD);
        x.grain(0, 40, 10, 3, 0);
        x.grain(0, 40, 10, 3, 0);
        x.grain(1, 40, 10, 3, 0);
        x.grain(0, 0, 10, 3, 0);
        due("19: grain -1", x.late(-1), ANY_BAD);
        due("19: grain 4", x.late(4), ANY_BAD);
        due("19: the lowest", x.late(0), 0);
        due("19: alone in its place", x.late(2), 0);
        due("19: the next", x.late(1), x.after(1, 200, 4) - 4);
        due("19: it is later", x.late(1) > 0 ? 1 : 0, 1);
        due("19: a dry one", x.late(3), ANY_NOT);
        Check.retype(x, 0, "h50x5");
        due("19: not among others", x.late(1), ANY_NOT);
        due("19: the lowest again", x.late(0), 0);
    }

    private static void sieved() {
        PopPan x = hot();
        due("20: size 0", x.sieved(0, 1, 0), BAD);
        due("20: size 10", x.sieved(10, 1, 0), BAD);
        due("20: t 0", x.sieved(1, 0, 0), BAD);
        due("20: t 201", x.sieved(1, 201, 0), BAD);
        due("20: what -1", x.sieved(1, 1, -1), BAD);
        due("20: what 4", x.sieved(1, 1, 4), BAD);
        due("20: none", x.sieved(1, 200, 2), 0);
        due("20: one second", x.sieved(9, 1, 3), 0);
        x.grain(0, 0, 20, 2, 0);
        x.grain(0, 40, 10, 3, 0);
        x.grain(0, 0, 20, 9, 0);
        due("20: all, OPEN", x.sieved(2, 5, 0), 0);
        due("20: all, LEFT", x.sieved(2, 5, 2), 3);
        due("20: all, BURNT", x.sieved(2, 6, 3), 1);
        due("20: OPEN", x.sieved(3, 5, 0), 1);
        due("20: LARGE", x.sieved(3, 5, 1), 35);
        due("20: LEFT", x.sieved(3, 5, 2), 1);
        due("20: BURNT", x.sieved(3, 5, 3), 0);
        due("20: just before", x.sieved(3, 4, 0), 0);
        due("20: one alone, LEFT", x.sieved(9, 5, 2), 1);
        due("20: one alone, BURNT", x.sieved(9, 6, 3), 1);
        due("20: one alone, LEFT none", x.sieved(9, 6, 2), 0);
        due("20: they are in the pan again", x.after(1, 1, 0), 25);
    }

    private static void jar() {
        PopPan x = new PopPan();
        due("21: water -1", x.jar(-1, 0, 0), BAD);
        due("21: water 100", x.jar(100, 0, 0), BAD);
        due("21: damp -1", x.jar(0, -1, 0), BAD);
        due("21: damp 100", x.jar(0, 100, 0), BAD);
        due("21: days -1", x.jar(0, 0, -1), BAD);
        due("21: days 61", x.jar(0, 0, 61), BAD);
        due("21: no days", x.jar(99, 0, 0), 99);
        int[] down = {99, 74, 55, 41, 30, 22, 16, 12, 9, 6, 4, 3, 2, 1, 0, 0};
        for (int day = 0; day < down.length; day++) {
            due("21: down, day " + day, x.jar(99, 0, day), down[day]);
            due("21: up, day " + day, x.jar(0, 99, day), 99 - down[day]);
        }
        due("21: by 5 up to the next whole", x.jar(10, 15, 1), 12);
        due("21: by 4", x.jar(10, 14, 1), 11);
        due("21: the longest", x.jar(0, 99, 60), 99);
    }

    private static void length() {
        PopPan x = new PopPan();
        due("22: water -1", x.length(-1, 0, 0, 0), BAD);
        due("22: water 100", x.length(100, 0, 0, 0), BAD);
        due("22: damp -1", x.length(0, -1, 0, 0), BAD);
        due("22: damp 100", x.length(0, 100, 0, 0), BAD);
        due("22: from more than to", x.length(0, 0, 1, 0), BAD);
        due("22: from -1", x.length(0, 0, -1, 0), BAD);
        due("22: to 100", x.length(0, 0, 0, 100), BAD);
        due("22: at once", x.length(40, 0, 40, 40), 0);
        due("22: after a day", x.length(99, 0, 70, 98), 1);
        due("22: to the end", x.length(99, 0, 0, 0), 14);
        due("22: passed over", x.length(99, 0, 75, 98), NONE);
        due("22: up", x.length(0, 99, 44, 57), 2);
        due("22: the other way", x.length(50, 99, 0, 49), NONE);
    }

    private static void cracked() {
        PopPan x = new PopPan();
        long bad = Long.MIN_VALUE + 2;
        due("23: all 0", x.cracked(0, 0, 0, 0, 0), bad);
        due("23: all 31", x.cracked(31, 0, 0, 0, 0), bad);
        due("23: c -1", x.cracked(5, -1, 2, 1, 0), bad);
        due("23: c 6 of 5", x.cracked(5, 6, 2, 1, 0), bad);
        due("23: n -1", x.cracked(5, 2, -1, 0, 0), bad);
        due("23: n 6 of 5", x.cracked(5, 2, 6, 0, 0), bad);
        due("23: k -1", x.cracked(5, 2, 2, -1, 0), bad);
        due("23: k 3 of 2", x.cracked(5, 2, 2, 3, 0), bad);
        due("23: what -1", x.cracked(5, 2, 2, 1, -1), bad);
        due("23: what 2", x.cracked(5, 2, 2, 1, 2), bad);
        due("23: above", x.cracked(5, 2, 2, 1, 0), 3);
        due("23: below", x.cracked(5, 2, 2, 1, 1), 5);
        due("23: never, above", x.cracked(5, 1, 2, 2, 0), 0);
        due("23: never, below", x.cracked(5, 1, 2, 2, 1), 1);
        due("23: more must be, above", x.cracked(5, 4, 3, 1, 0), 0);
        due("23: sure, above", x.cracked(1, 0, 0, 0, 0), 1);
        due("23: sure, below", x.cracked(1, 0, 0, 0, 1), 1);
        due("23: the greatest below", x.cracked(30, 15, 15, 0, 1), 155117520L);
        due("23: the least above", x.cracked(30, 15, 15, 0, 0), 1);
        due("23: of 30, above", x.cracked(30, 10, 3, 2, 0), 45);
        due("23: of 30, below", x.cracked(30, 10, 3, 2, 1), 203);
    }

    private static void span() {
        PopPan x = new PopPan();
        due("24: all 0", x.span(0, 0, 0, 0, 0), BAD);
        due("24: all 31", x.span(31, 0, 0, 0, 0), BAD);
        due("24: n -1", x.span(5, -1, 0, 0, 0), BAD);
        due("24: n 6", x.span(5, 6, 0, 0, 0), BAD);
        due("24: k -1", x.span(5, 2, -1, 0, 0), BAD);
        due("24: k 3", x.span(5, 2, 3, 0, 0), BAD);
        due("24: x -1", x.span(5, 2, 1, -1, 0), BAD);
        due("24: x 256", x.span(5, 2, 1, 256, 0), BAD);
        due("24: end -1", x.span(5, 2, 1, 0, -1), BAD);
        due("24: end 2", x.span(5, 2, 1, 0, 2), BAD);
        // One of two: the chance of one or more is c by 2; of none 1 less c by 2.
        due("24: half is not more than 128", x.span(2, 1, 1, 128, 0), 2);
        due("24: half is more than 127", x.span(2, 1, 1, 127, 0), 1);
        due("24: none, 128", x.span(2, 1, 0, 128, 1), 0);
        due("24: none, 127", x.span(2, 1, 0, 127, 1), 1);
        due("24: one or fewer is sure", x.span(2, 1, 1, 255, 1), 2);
        due("24: none or more is sure", x.span(2, 1, 0, 255, 0), 0);
        // Two of five: of one or more (c 1: 4 by 10; c 2: 7 by 10), of one or fewer (c 4: 4 by 10; c 3: 7 by 10).
        due("24: 102 by 256", x.span(5, 2, 1, 102, 0), 1);
        due("24: 103 by 256", x.span(5, 2, 1, 103, 0), 2);
        due("24: 102 by 256, the greatest", x.span(5, 2, 1, 102, 1), 4);
        due("24: 103 by 256, the greatest", x.span(5, 2, 1, 103, 1), 3);
        due("24: 0 by 256", x.span(5, 2, 1, 0, 0), 1);
        due("24: all were tried", x.span(30, 30, 17, 255, 0), 17);
        due("24: all were tried, the greatest", x.span(30, 30, 17, 255, 1), 17);
    }

    private static void heard() {
        PopPan x = new PopPan();
        due("25: no grain", x.heard(0, 0), BAD);
        x.grain(0, 1, 1, 1, 1);
        due("25: grain -1", x.heard(-1, 0), BAD);
        due("25: grain 1", x.heard(1, 0), BAD);
        due("25: second -1", x.heard(0, -1), BAD);
        due("25: second 200", x.heard(0, 200), BAD);
        for (int i = 1; i <= 12; i++) {
            due("25: the " + i + "th", x.heard(0, i == 1 ? 0 : 199), i);
        }
        due("25: the 13th", x.heard(0, 5), FULL);
        due("25: BAD before FULL", x.heard(1, 5), BAD);
        due("25: count(6)", x.count(6), 12);
    }

    private static void fits() {
        PopPan x = hot();
        x.grain(0, 40, 10, 3, 0);
        due("26: what -1", x.fits(-1), BAD);
        due("26: what 5", x.fits(5), BAD);
        due("26: nothing HEARD", x.fits(0), NOT);
        // Push 32, 76, 119, 161 in seconds 2 to 5 against 8 strengths: 5 to 9, 10 to 14, 15.
        x.heard(0, 4);
        due("26: the least", x.fits(0), 10);
        due("26: the greatest", x.fits(1), 14);
        due("26: how many", x.fits(2), 5);
        due("26: the nearest", x.fits(3), 10);
        due("26: off", x.fits(4), 0);
        x.heard(0, 3);
        due("26: none fits, least", x.fits(0), NONE);
        due("26: none fits, greatest", x.fits(1), NONE);
        due("26: none fits", x.fits(2), 0);
        due("26: of like ones the least", x.fits(3), 5);
        due("26: off by one", x.fits(4), 1);
        x.heard(0, 9);
        due("26: nearer", x.fits(3), 10);
        due("26: off by 6", x.fits(4), 0 + 1 + 5);
        due("26: STRENGTH stays", x.set(1, 10), 10);
        x.grain(1, 0, 10, 3, 0);
        x.heard(1, 100);
        due("26: 200 for one that stays", x.fits(4), 206);
        x.empty();
        x.grain(0, 40, 10, 3, 0);
        x.heard(0, 5);
        due("26: the strongest, least", x.fits(0), 15);
        due("26: the strongest, greatest", x.fits(1), 15);
        due("26: the strongest alone", x.fits(2), 1);
    }

    private static void sheet() {
        PopPan x = new PopPan();
        due("27: sheet -1", x.sheet(-1, 0, 1), BAD);
        due("27: sheet 4", x.sheet(4, 0, 1), BAD);
        due("27: form -1", x.sheet(0, -1, 1), BAD);
        due("27: form 3", x.sheet(0, 3, 1), BAD);
        due("27: 61 items", x.sheet(0, 0, 61), BAD);
        due("27: no finding yet", x.count(8), 0);
        due("27: -1 items", x.sheet(0, 0, -1), SIZE);
        due("27: far below", x.sheet(0, 0, LOW), SIZE);
        due("27: the finding", x.count(8), 5);
        due("27: BAD before SIZE", x.sheet(0, 3, -1), BAD);
        due("27: still LOST", x.lose(0), NULL);
        due("27: no items", x.sheet(0, 0, 0), 0);
        due("27: 60 items", x.sheet(3, 2, 60), 60);
        x.lay(3, 2, 7, 77);
        due("27: a refusal changes nothing", x.sheet(3, 2, -1), SIZE);
        due("27: kept", x.get(3, 2, 7), 77);
        due("27: new", x.sheet(3, 2, 20), 20);
        due("27: 0 at first", x.get(3, 2, 7), 0);
        due("27: shorter", x.get(3, 2, 20), LOW);
    }

    private static void lose() {
        PopPan x = new PopPan();
        due("28: sheet -1", x.lose(-1), BAD);
        due("28: sheet 4", x.lose(4), BAD);
        due("28: LOST", x.lose(0), NULL);
        due("28: the finding", x.count(8), 1);
        x.sheet(0, 1, 9);
        x.sheet(1, 1, 0);
        due("28: nine items", x.lose(0), 9);
        due("28: none", x.lose(1), 0);
        due("28: LOST again", x.lose(0), NULL);
        due("28: nothing lies in it", x.lay(0, 1, 0, 1), NULL);
    }

    private static void lay() {
        PopPan x = new PopPan();
        due("29: sheet -1", x.lay(-1, 0, 0, 0), BAD);
        due("29: sheet 4", x.lay(4, 0, 0, 0), BAD);
        due("29: form -1", x.lay(0, -1, 0, 0), BAD);
        due("29: form 3", x.lay(0, 3, 0, 0), BAD);
        due("29: LOST", x.lay(0, 0, 0, 0), NULL);
        due("29: finding 1", x.count(8), 1);
        x.sheet(0, 0, 3);
        x.sheet(1, 1, 3);
        x.sheet(2, 2, 3);
        due("29: CAST before INDEX", x.lay(0, 1, 3, 0), CAST);
        due("29: finding 3", x.count(8), 3);
        due("29: INDEX 3", x.lay(0, 0, 3, 0), INDEX);
        due("29: finding 2", x.count(8), 2);
        due("29: INDEX -1", x.lay(0, 0, -1, 0), INDEX);
        int[] values = {127, 128, -129, 255, 32768, -32769, 65535, LOW, HIGH, 0x12345678};
        for (int v : values) {
            due("29: a byte " + v, x.lay(0, 0, 2, v), 1);
            due("29: as a byte " + v, x.get(0, 0, 2), (byte) v);
            due("29: a short " + v, x.lay(1, 1, 0, v), 1);
            due("29: as a short " + v, x.get(1, 1, 0), (short) v);
            due("29: an int " + v, x.lay(2, 2, 1, v), 1);
            due("29: as an int " + v, x.get(2, 2, 1), v);
        }
        due("29: another item", x.get(0, 0, 1), 0);
    }

    private static void get() {
        PopPan x = new PopPan();
        due("30: sheet -1", x.get(-1, 0, 0), LOW);
        due("30: sheet 4", x.get(4, 0, 0), LOW);
        due("30: form -1", x.get(0, -1, 0), LOW);
        due("30: form 3", x.get(0, 3, 0), LOW);
        due("30: BAD is no finding", x.count(8), 0);
        due("30: LOST", x.get(0, 0, 0), LOW);
        due("30: finding 1", x.count(8), 1);
        x.sheet(0, 2, 2);
        due("30: CAST before INDEX", x.get(0, 0, 5), LOW);
        due("30: finding 3", x.count(8), 3);
        due("30: INDEX 2", x.get(0, 2, 2), LOW);
        due("30: finding 2", x.count(8), 2);
        due("30: INDEX -1", x.get(0, 2, -1), LOW);
        x.lay(0, 2, 1, 9);
        due("30: item 1", x.get(0, 2, 1), 9);
        due("30: item 0", x.get(0, 2, 0), 0);
        due("30: the finding stays", x.count(8), 2);
    }

    private static void copy() {
        PopPan x = new PopPan();
        due("31: sheet -1", x.copy(-1, 0, 0, 0, 0), BAD);
        due("31: sheet 4", x.copy(0, 0, 4, 0, 0), BAD);
        due("31: from sheet 4", x.copy(4, 0, 0, 0, 0), BAD);
        due("31: to sheet -1", x.copy(0, 0, -1, 0, 0), BAD);
        due("31: sheet 3", x.copy(3, 0, 3, 0, 0), NULL);
        x.sheet(0, 1, 6);
        due("31: the other is LOST", x.copy(0, 0, 1, 0, 0), NULL);
        due("31: the first is LOST", x.copy(1, 0, 0, 0, 0), NULL);
        x.sheet(1, 2, 3);
        due("31: STORE before INDEX", x.copy(0, -1, 1, 0, 99), STORE);
        due("31: finding 4", x.count(8), 4);
        x.sheet(1, 1, 3);
        for (int i = 0; i < 6; i++) {
            x.lay(0, 1, i, i + 1);
        }
        due("31: i -1", x.copy(0, -1, 1, 0, 1), INDEX);
        due("31: finding 2", x.count(8), 2);
        due("31: j -1", x.copy(0, 0, 1, -1, 1), INDEX);
        due("31: n -1", x.copy(0, 0, 1, 0, -1), INDEX);
        due("31: not so many there", x.copy(0, 0, 1, 0, 4), INDEX);
        due("31: not so many here", x.copy(0, 5, 1, 0, 2), INDEX);
        due("31: far", x.copy(0, 1, 1, 1, HIGH), INDEX);
        due("31: farther", x.copy(0, HIGH, 1, HIGH, HIGH), INDEX);
        due("31: none, at the end", x.copy(0, 6, 1, 3, 0), 1);
        due("31: none, i behind it", x.copy(0, 7, 1, 3, 0), INDEX);
        due("31: none, j behind it", x.copy(0, 6, 1, 4, 0), INDEX);
        due("31: refused ones change nothing", x.get(1, 1, 0), 0);
        due("31: two", x.copy(0, 3, 1, 1, 2), 1);
        due("31: item 0", x.get(1, 1, 0), 0);
        due("31: item 1", x.get(1, 1, 1), 4);
        due("31: item 2", x.get(1, 1, 2), 5);
        due("31: up, as they were", x.copy(0, 0, 0, 2, 4), 1);
        int[] up = {1, 2, 1, 2, 3, 4};
        for (int i = 0; i < 6; i++) {
            due("31: up " + i, x.get(0, 1, i), up[i]);
        }
        due("31: down, as they were", x.copy(0, 1, 0, 0, 5), 1);
        int[] down = {2, 1, 2, 3, 4, 4};
        for (int i = 0; i < 6; i++) {
            due("31: down " + i, x.get(0, 1, i), down[i]);
        }
    }

    private static void write() {
        PopPan x = five();
        due("32: second -1", x.write(-1, 0), BAD);
        due("32: second 200", x.write(200, 0), BAD);
        due("32: sheet -1", x.write(0, -1), BAD);
        due("32: sheet 4", x.write(0, 4), BAD);
        due("32: LOST", x.write(0, 0), NULL);
        due("32: the finding", x.count(8), 1);
        for (int form = 0; form <= 2; form++) {
            x.sheet(form, form, 4);
            due("32: four", x.write(1, form), 4);
            int[] heard = {0, 1, 0, 2};
            for (int i = 0; i < 4; i++) {
                due("32: form " + form + ", item " + i, x.get(form, form, i), heard[i]);
            }
        }
        x.lay(2, 2, 0, 6);
        x.lay(2, 2, 3, 7);
        due("32: three to 199", x.write(197, 2), 3);
        due("32: those are silent", x.get(2, 2, 0), 0);
        due("32: 199 alone", x.write(199, 2), 1);
        due("32: the fourth stays", x.get(2, 2, 3), 7);
        x.sheet(3, 0, 0);
        due("32: no items", x.write(0, 3), 0);
    }

    private static void count() {
        PopPan x = new PopPan();
        due("33: -1", x.count(-1), BAD);
        due("33: 9", x.count(9), BAD);
        x.grain(0, 40, 10, 3, 0);
        x.grain(1, 99, 10, 3, 0);
        x.grain(1, 2, 10, 3, 0);
        Check.type(x, 0, "s;h5x7;l;h0x99;o");
        Check.type(x, 1, "t1");
        Check.type(x, 2, "t10");
        Check.type(x, 3, "t100");
        x.heard(2, 9);
        x.heard(2, 9);
        int[] want = {3, 16, 2, 3, 4, 106, 2, 141, 0};
        for (int what = 0; what <= 8; what++) {
            due("33: " + what, x.count(what), want[what]);
        }
        x.type(0, 'q');
        due("33: seconds with a FAULT", x.count(5), 0);
        x.change(0, 0, 0);
        due("33: WATER at first", x.count(7), 101);
        x.lose(0);
        x.sheet(0, 0, -5);
        due("33: the latest finding", x.count(8), 5);
    }

    private static long mix(long h, long v) {
        return 31 * h + v;
    }

    /** The digest as the document spells it, by the other calls. */
    private static long spelled(PopPan x) {
        long h = 17;
        for (int what = 0; what <= 7; what++) {
            h = mix(h, x.count(what));
        }
        for (int text = 0; text <= 3; text++) {
            h = mix(h, x.fault(text));
        }
        for (int g = 0; g < x.count(0); g++) {
            for (int what = 0; what <= 5; what++) {
                h = mix(h, x.after(g, 100, what));
            }
        }
        for (int rule = 0; rule <= 2; rule++) {
            for (int what = 0; what <= 5; what++) {
                h = mix(h, x.stop(rule, what));
            }
        }
        h = mix(h, x.best());
        for (int what = 0; what <= 2; what++) {
            h = mix(h, x.even(60, what));
        }
        for (int what = 0; what <= 3; what++) {
            h = mix(h, x.sieved(3, 100, what));
        }
        for (int what = 0; what <= 4; what++) {
            h = mix(h, x.fits(what));
        }
        return h;
    }

    private static void digest() {
        PopPan x = five();
        due("34: five", x.digest(), spelled(x));
        x.heard(0, 4);
        due("34: one HEARD", x.digest(), spelled(x));
        x.heard(2, 3);
        Check.retype(x, 0, "h0x95;h50x99");
        due("34: one goes in second 99", x.digest(), spelled(x));
        Check.retype(x, 0, "h0x96;h50x99");
        due("34: one goes in second 100", x.digest(), spelled(x));
        Check.retype(x, 0, "h50x99");
        due("34: heard ones", x.digest(), spelled(x));
        Check.type(x, 1, "g2|t9");
        Check.type(x, 2, "n0");
        Check.type(x, 3, "n3");
        due("34: rules", x.digest(), spelled(x));
        x.type(0, 'q');
        due("34: a cold pan", x.digest(), spelled(x));
        x.empty();
        due("34: no grains", x.digest(), spelled(x));
        due("34: twice the same", x.digest(), x.digest());
        x.lose(0);
        due("34: a finding is no part", x.digest(), spelled(x));
        due("34: a new one", new PopPan().digest(), spelled(new PopPan()));
    }
}
