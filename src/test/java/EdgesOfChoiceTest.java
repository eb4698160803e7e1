/** Boundary cases that the document names for promises 15 to 20: EVEN, FRONT, AIR, SHAKEN, LATE, SIEVED. */
public final class EdgesOfChoiceTest {
    private static final int NONE = Pans.NONE, NOT = Pans.ANY_NOT;

    private EdgesOfChoiceTest() {
    }

    public static void main(String[] args) {
        evenOfNothing();
        evenWithTheMostHeat();
        evenWithoutLidAndShaking();
        evenOpenThenBurntThenLeast();
        frontOfLikeOnes();
        frontOfOne();
        frontByOpenAndBurnt();
        airOfNothing();
        airAtItsEnds();
        airByTrying();
        shakenByTrying();
        shakenInTheLastSecond();
        shakenNoBetter();
        shakenBesideOthers();
        lateByNothing();
        lateAsAnyNumber();
        lateIfItDoesNotGo();
        lateInTheLastSecond();
        sievedBySize();
        sievedToNothing();
        sievedRows();
        sievedSeconds();
        Check.end();
    }

    private static void due(String call, long got, long want) {
        Check.due(call, got, want);
    }

    private static int open(PopPan x, int t) {
        int many = 0;
        for (int g = 0; g < x.count(0); g++) {
            many += x.after(g, t, 3) == 1 ? 1 : 0;
        }
        return many;
    }

    private static int burnt(PopPan x, int t) {
        int many = 0;
        for (int g = 0; g < x.count(0); g++) {
            many += x.after(g, t, 3) == 2 ? 1 : 0;
        }
        return many;
    }

    private static int large(PopPan x, int t) {
        int sum = 0;
        for (int g = 0; g < x.count(0); g++) {
            sum += x.after(g, t, 5);
        }
        return sum;
    }

    /** 15: 'an even HEAT (1 to 99)', 'then the least': without grains, or if none goes, it is 1, never 0. */
    private static void evenOfNothing() {
        int[] seconds = {1, 2, 199, 200};
        for (int t : seconds) {
            PopPan x = new PopPan();
            due("15: no grains, HEAT for " + t, x.even(t, 0), 1);
            due("15: no grains, OPEN for " + t, x.even(t, 1), 0);
            due("15: no grains, BURNT for " + t, x.even(t, 2), 0);
            x.grain(0, 0, 1, 1, 0);
            due("15: a dry one, HEAT for " + t, x.even(t, 0), 1);
            due("15: a dry one, BURNT for " + t, x.even(t, 2), 0);
        }
    }

    /** 15: '(1 to 99)': 99 makes WARMTH 189 in two seconds, 98 makes 187; PRESS 89 and 87, needed are 11 times 8. */
    private static void evenWithTheMostHeat() {
        PopPan x = new PopPan();
        x.grain(0, 40, 10, 3, 0);
        x.set(0, 0);
        x.set(1, 11);
        due("15: the most HEAT", x.even(2, 0), 99);
        due("15: OPEN by it", x.even(2, 1), 1);
        due("15: BURNT by it", x.even(2, 2), 0);
        due("15: one second is too short", x.even(1, 1), 0);
        due("15: AIR and STRENGTH stay", x.set(0, 10) + x.set(1, 10), 11);
        x.set(0, 2);
        x.set(1, 11);
        due("15: with AIR 2 none goes", x.even(2, 1), 0);
        due("15: so the least", x.even(2, 0), 1);
        x.set(0, 1);
        due("15: with AIR 1 it goes", x.even(2, 0), 99);
    }

    /** 15: 'no lid, never shaken': whatever THE PAN is, well or not. */
    private static void evenWithoutLidAndShaking() {
        String[] pans = {"", "l", "s", "s;l;h99x99", "q", "s;h9x9;l;s"};
        for (String pan : pans) {
            PopPan x = Pans.with(pan);
            x.grain(0, 0, 20, 1, 0);
            x.grain(0, 40, 10, 3, 0);
            // It needs PRESS 90, WARMTH 190; by half of 84 it is 41, 81, 120, 157, 193, by half of 83 40, 79, 117, 154, 189.
            due("15: by '" + pan + "'", x.even(5, 0), 84);
            due("15: OPEN by '" + pan + "'", x.even(5, 1), 1);
            due("15: BURNT by '" + pan + "'", x.even(5, 2), 1);
            due("15: THE PAN stays", x.count(1), pan.length());
        }
    }

    /** 15: 'with the most OPEN, of like ones with the fewest BURNT, then the least', by all pans of an even heat. */
    private static void evenOpenThenBurntThenLeast() {
        int[][] grains = {{10, 12, 2, 2, 70, 14, 3, 9, 1, 6, 2, 6, 0, 4, 5, 7}, {40, 10, 3, 0, 0, 1, 1, 0, 99, 20, 9, 9, 60, 5, 5, 5},
            {30, 20, 1, 0, 99, 20, 1, 9, 20, 3, 3, 3, 50, 9, 9, 1}};
        int[] seconds = {12, 5, 9};
        for (int i = 0; i < grains.length; i++) {
            PopPan x = grainsInOnePlace(grains[i]);
            int heat = 0;
            int open = -1;
            int burnt = 0;
            for (int h = 1; h <= 99; h++) {
                PopPan y = grainsInOnePlace(grains[i]);
                Check.type(y, 0, "h" + h + "x99");
                int o = open(y, seconds[i]);
                int b = burnt(y, seconds[i]);
                if (o > open || o == open && b < burnt) {
                    heat = h;
                    open = o;
                    burnt = b;
                }
            }
            due("15: HEAT of row " + i, x.even(seconds[i], 0), heat);
            due("15: OPEN of row " + i, x.even(seconds[i], 1), open);
            due("15: BURNT of row " + i, x.even(seconds[i], 2), burnt);
        }
    }

    private static PopPan grainsInOnePlace(int... traits) {
        PopPan x = new PopPan();
        for (int i = 0; i + 3 < traits.length; i += 4) {
            x.grain(0, traits[i], traits[i + 1], traits[i + 2], traits[i + 3]);
        }
        return x;
    }

    /** 16: 'how many HEATS (i = NONE), the i-th; NONE beyond': all 99 are alike. */
    private static void frontOfLikeOnes() {
        PopPan x = new PopPan();
        int[] seconds = {1, 200};
        for (int t : seconds) {
            due("16: how many for " + t, x.front(t, NONE), 99);
            due("16: the first for " + t, x.front(t, 0), 1);
            due("16: the last for " + t, x.front(t, 98), 99);
            due("16: beyond for " + t, x.front(t, 99), NONE);
            due("16: far beyond for " + t, x.front(t, Pans.HIGH), NONE);
        }
    }

    /** 16: one HEAT alone: that of 15 with the most heat. */
    private static void frontOfOne() {
        PopPan x = new PopPan();
        x.grain(0, 40, 10, 3, 0);
        x.set(0, 0);
        x.set(1, 11);
        due("16: how many", x.front(2, NONE), 1);
        due("16: the 0th", x.front(2, 0), 99);
        due("16: beyond", x.front(2, 1), NONE);
    }

    /** 16: 'than which no other has more OPEN and no more BURNT, or as many and fewer', by all pans of an even heat. */
    private static void frontByOpenAndBurnt() {
        PopPan x = grainsInOnePlace(10, 12, 2, 2, 70, 14, 3, 9, 1, 6, 2, 6, 0, 4, 5, 7);
        for (int t = 3; t <= 15; t += 3) {
            int[] open = new int[100];
            int[] burnt = new int[100];
            for (int h = 1; h <= 99; h++) {
                PopPan y = grainsInOnePlace(10, 12, 2, 2, 70, 14, 3, 9, 1, 6, 2, 6, 0, 4, 5, 7);
                Check.type(y, 0, "h" + h + "x99");
                open[h] = open(y, t);
                burnt[h] = burnt(y, t);
            }
            int many = 0;
            for (int h = 1; h <= 99; h++) {
                if (!isBehind(open, burnt, h)) {
                    due("16: for " + t + ", the " + many, x.front(t, many), h);
                    many++;
                }
            }
            due("16: for " + t + ", how many", x.front(t, NONE), many);
            due("16: for " + t + ", beyond", x.front(t, many), NONE);
        }
    }

    private static boolean isBehind(int[] open, int[] burnt, int heat) {
        for (int other = 1; other <= 99; other++) {
            boolean more = open[other] > open[heat] && burnt[other] <= burnt[heat];
            boolean fewer = open[other] == open[heat] && burnt[other] < burnt[heat];
            if (more || fewer) {
                return true;
            }
        }
        return false;
    }

    /** 17: 'of like ones the least': without grains, and if none goes, AIR 0. */
    private static void airOfNothing() {
        PopPan x = Pans.with("h50x99");
        due("17: no grains", x.air(200, 0), 0);
        due("17: no grains, LARGE", x.air(200, 1), 0);
        x.grain(0, 0, 1, 9, 0);
        due("17: a dry one", x.air(200, 0), 0);
        due("17: a dry one, LARGE", x.air(200, 1), 0);
        x.grain(1, 40, 10, 3, 0);
        due("17: one second", x.air(1, 0), 0);
        due("17: one second, LARGE", x.air(1, 1), 0);
    }

    /** 17: 'with which AIR (0 to 99) LARGE is most together': 0 and 99 can be the best. */
    private static void airAtItsEnds() {
        PopPan x = Pans.with("h50x4");
        x.grain(0, 40, 10, 3, 0);
        due("17: the least", x.air(4, 0), 0);
        due("17: LARGE with the least", x.air(4, 1), 25);
        due("17: THE PAN ends, t does not matter", x.air(200, 0), 0);
        PopPan y = Pans.with("h50x3;h7x23;h99x1");
        y.grain(0, 80, 12, 9, 0);
        due("17: the most", y.air(27, 0), 99);
        due("17: LARGE with the most", y.air(27, 1), 233);
        due("17: AIR is as it was", y.set(0, 99), 10);
        due("17: so it is by set()", y.sieved(1, 27, 1), 233);
        y.set(0, 98);
        Check.holds("17: less by AIR 98", y.sieved(1, 27, 1) < 233);
        // HOLD 9 by STRENGTH 9: PRESS 180 goes with AIR 99; a 100, which is none, would keep it for more.
        PopPan z = Pans.with("h50x3;h7x24;h99x1");
        z.grain(0, 80, 13, 9, 0);
        z.set(1, 9);
        due("17: none above 99", z.air(28, 0), 4);
        due("17: LARGE by none above 99", z.air(28, 1), 77);
    }

    /** 17: by set() of each AIR, for several t. */
    private static void airByTrying() {
        int[][] grains = {{40, 10, 3, 0, 40, 1, 5, 0}, {90, 9, 9, 1, 45, 7, 2, 0, 60, 8, 4, 2}, {20, 3, 9, 0, 99, 19, 9, 9}};
        String[] pans = {"h50x99", "h20x40;l;s;h30x9", "h9x99;s;h60x5"};
        int[] seconds = {5, 45, 104};
        for (int i = 0; i < grains.length; i++) {
            PopPan x = grainsInOnePlace(grains[i]);
            Check.type(x, 0, pans[i]);
            PopPan y = grainsInOnePlace(grains[i]);
            Check.type(y, 0, pans[i]);
            int best = NONE;
            int most = NONE;
            for (int air = 0; air <= 99; air++) {
                y.set(0, air);
                int now = large(y, seconds[i]);
                if (now > most) {
                    best = air;
                    most = now;
                }
            }
            due("17: AIR of " + pans[i], x.air(seconds[i], 0), best);
            due("17: LARGE of " + pans[i], x.air(seconds[i], 1), most);
        }
    }

    /** THE PAN with one s more at the beginning of a second, from parts of heat alone. */
    private static String shakenIn(int second, int[] heats, int[] spans) {
        StringBuilder s = new StringBuilder();
        int at = 0;
        for (int i = 0; i < heats.length; i++) {
            int before = Math.max(0, Math.min(spans[i], second - at));
            boolean here = second >= at && second < at + spans[i];
            if (before > 0) {
                s.append('h').append(heats[i]).append('x').append(before).append(';');
            }
            if (here) {
                s.append("s;");
            }
            if (spans[i] > before) {
                s.append('h').append(heats[i]).append('x').append(spans[i] - before).append(';');
            }
            at += spans[i];
        }
        return s.substring(0, s.length() - 1);
    }

    /** 18: the SECOND by typing an s before each one in turn; 'the most are OPEN, of like ones the first'. */
    private static int shakenByTrying(String remark, int[] heats, int[] spans, int t, int... grains) {
        PopPan x = grainsInOnePlace(grains);
        Check.type(x, 0, shakenIn(-1, heats, spans));
        int best = NONE;
        int most = open(x, t);
        for (int second = 0; second < t; second++) {
            PopPan y = grainsInOnePlace(grains);
            Check.type(y, 0, shakenIn(second, heats, spans));
            due("18: it is well", y.fault(0), NONE);
            due("18: shaken in " + second, y.pan(second, 1), 1);
            int now = open(y, t);
            if (now > most) {
                best = second;
                most = now;
            }
        }
        due("18: " + remark + ", the SECOND", x.shaken(t, 0), best);
        due("18: " + remark + ", OPEN", x.shaken(t, 1), most);
        return best;
    }

    private static void shakenByTrying() {
        int[] heats = {61, 96};
        int[] spans = {1, 2};
        due("18: the last second is the best", shakenByTrying("two", heats, spans, 3, 50, 12, 5, 4, 34, 1, 5, 7), 2);
        due("18: of three grains", shakenByTrying("three", new int[] {98, 99}, new int[] {2, 1}, 3,
            72, 17, 5, 0, 34, 3, 5, 1, 90, 9, 5, 0), 2);
        due("18: of ten seconds", shakenByTrying("ten", new int[] {9, 68}, new int[] {6, 4}, 10,
            50, 18, 5, 3, 66, 12, 5, 0), 9);
        due("18: one went in the second before", shakenByTrying("one has risen", new int[] {54, 44}, new int[] {4, 5}, 9,
            10, 1, 5, 0, 0, 1, 5, 3, 40, 7, 5, 0), 4);
        due("18: one is still WHOLE then", shakenByTrying("one is burnt", new int[] {78, 77}, new int[] {2, 5}, 7,
            0, 1, 5, 6, 10, 4, 5, 0), 5);
        due("18: at once", shakenByTrying("a dry one below", new int[] {50}, new int[] {5}, 5, 0, 20, 1, 0, 40, 10, 3, 0), 0);
    }

    /** 18: 'of which SECOND (0 to t less 1)': 199 with t 200; 198 is no longer asked with t 198. */
    private static void shakenInTheLastSecond() {
        int[] heats = {0, 0, 61, 96};
        int[] spans = {99, 98, 1, 2};
        due("18: second 199", shakenByTrying("200 seconds", heats, spans, 200, 50, 12, 5, 4, 34, 1, 5, 7), 199);
    }

    /** 18: 'NONE: no better than never' and '(with NONE: without one more)' */
    private static void shakenNoBetter() {
        PopPan x = new PopPan();
        due("18: no grains", x.shaken(1, 0), NONE);
        due("18: no grains, OPEN", x.shaken(1, 1), 0);
        due("18: no grains, 200", x.shaken(200, 0), NONE);
        x = Pans.with("h50x5");
        x.grain(0, 40, 10, 3, 0);
        due("18: alone", x.shaken(5, 0), NONE);
        due("18: alone, OPEN", x.shaken(5, 1), 1);
        due("18: too short", x.shaken(4, 0), NONE);
        due("18: too short, OPEN", x.shaken(4, 1), 0);
        x.grain(0, 40, 10, 3, 0);
        due("18: one of two, either way", x.shaken(5, 0), NONE);
        due("18: one of two, OPEN", x.shaken(5, 1), 1);
        due("18: one second can open none", x.shaken(1, 0), NONE);
        x.grain(1, 0, 20, 1, 0);
        x.grain(2, 0, 20, 1, 0);
        due("18: some stay for all 200", x.shaken(200, 0), NONE);
        due("18: some stay for all 200, OPEN", x.shaken(200, 1), 1);
    }

    /** 18: 'SHAKEN once more' than THE PAN is shaken in that SECOND. */
    private static void shakenBesideOthers() {
        PopPan x = Pans.with("s;s;h50x5");
        x.grain(0, 0, 20, 1, 0);
        x.grain(0, 40, 10, 3, 0);
        due("18: a third time", x.shaken(5, 0), 0);
        due("18: a third time, OPEN", x.shaken(5, 1), 1);
        Check.retype(x, 0, "s;h50x5");
        due("18: a second time would be worse", x.shaken(5, 0), NONE);
        due("18: once, OPEN", x.shaken(5, 1), 1);
        Check.retype(x, 0, "s;h50x5;q");
        due("18: with a FAULT", x.shaken(5, 1), 0);
    }

    /** 19: 0, if none lies below it; another PLACE does not count. */
    private static void lateByNothing() {
        PopPan x = Pans.with("h50x9");
        x.grain(1, 40, 10, 3, 0);
        due("19: the only one", x.late(0), 0);
        x.grain(0, 0, 1, 1, 0);
        x.grain(1, 40, 10, 3, 0);
        due("19: one above it", x.late(0), 0);
        // 116 warm when the one below goes; then 161, 205: PRESS 105 in second 6.
        due("19: the one above", x.late(2), 6 - 4);
    }

    private static void lateAs(int want, String pan, int... grains) {
        PopPan x = grainsInOnePlace(grains);
        Check.type(x, 0, pan);
        PopPan alone = grainsInOnePlace(grains[4], grains[5], grains[6], grains[7]);
        Check.type(alone, 0, pan);
        due("19: among others less alone", x.after(1, 200, 4) - alone.after(0, 200, 4), want);
        due("19: LATE", x.late(1), want);
    }

    /** 19: '(as any number)': one that leaks more alone goes earlier among others; -2 and -3 are no refusals. */
    private static void lateAsAnyNumber() {
        lateAs(-1, "h6x44;h6x9;h80x8", 64, 9, 5, 0, 53, 7, 5, 5);
        lateAs(-2, "h4x97;h7x1;h37x5", 90, 4, 5, 0, 60, 4, 5, 7);
        lateAs(-3, "h6x73;h10x7;h76x9", 58, 1, 5, 0, 77, 11, 5, 2);
        lateAs(-4, "h4x91;h8x6;h32x2", 37, 1, 5, 0, 64, 5, 5, 5);
        lateAs(2, "h50x9", 40, 10, 3, 0, 40, 10, 3, 0);
    }

    /** 19: 'NOT, if it does not go in one of both' */
    private static void lateIfItDoesNotGo() {
        PopPan x = Pans.with("h53x5;h78x6");
        x.grain(0, 73, 15, 5, 8);
        x.grain(0, 47, 14, 5, 8);
        PopPan alone = Pans.with("h53x5;h78x6");
        alone.grain(0, 47, 14, 5, 8);
        due("19: among others it goes", x.after(1, 200, 3), 1);
        due("19: alone it burns", alone.after(0, 200, 3), 2);
        due("19: not alone", x.late(1), NOT);
        PopPan y = Pans.with("h50x5");
        y.grain(0, 0, 20, 1, 0);
        y.grain(0, 40, 10, 3, 0);
        due("19: not among others", y.late(1), NOT);
        due("19: in neither", y.late(0), NOT);
        y.wipe(0);
        due("19: in a cold pan", y.late(1), NOT);
    }

    /** 19: '(200 SECONDS)' */
    private static void lateInTheLastSecond() {
        PopPan x = Pans.with("h0x99;h0x96;h50x9");
        x.grain(0, 40, 10, 3, 0);
        due("19: in second 199", x.late(0), 0);
        Check.retype(x, 0, "h0x99;h0x97;h50x9");
        due("19: it would be 200", x.late(0), NOT);
        Check.retype(x, 0, "h0x99;h0x94;h50x9");
        x.grain(0, 40, 10, 3, 0);
        due("19: 199 among others, 197 alone", x.late(1), 2);
        Check.retype(x, 0, "h0x99;h0x95;h50x9");
        due("19: 200 among others, 198 alone", x.late(1), NOT);
    }

    private static PopPan sizes() {
        PopPan x = Pans.with("h50x5");
        for (int size = 1; size <= 9; size++) {
            x.grain(size % 4, 0, 20, size, 0);
        }
        return x;
    }

    /** 20: 'with those alone whose SIZE is as told or more' (1 to 9) */
    private static void sievedBySize() {
        PopPan x = sizes();
        for (int size = 1; size <= 9; size++) {
            due("20: LEFT by " + size, x.sieved(size, 1, 2), 10 - size);
            due("20: OPEN by " + size, x.sieved(size, 200, 0), 0);
            due("20: all that stay by " + size, x.sieved(size, 200, 2) + x.sieved(size, 200, 3), 10 - size);
        }
        due("20: nine are still there", x.count(0), 9);
    }

    /** 20: none is as large as that. */
    private static void sievedToNothing() {
        PopPan x = Pans.with("h50x99");
        for (int g = 0; g < 12; g++) {
            x.grain(g % 4, 40, 10, 8, 0);
        }
        for (int what = 0; what <= 3; what++) {
            due("20: none of SIZE 9, " + what, x.sieved(9, 200, what), 0);
            due("20: no grains, " + what, new PopPan().sieved(1, 200, what), 0);
        }
        due("20: all of SIZE 8", x.sieved(8, 1, 2), 12);
    }

    /** 20: '(the others are not in the pan)': those above lie lower; BURNT and LARGE are of those alone. */
    private static void sievedRows() {
        PopPan x = Pans.with("h50x6");
        x.grain(0, 0, 1, 1, 0);
        x.grain(0, 40, 10, 2, 0);
        x.grain(0, 40, 10, 3, 0);
        x.grain(1, 40, 1, 1, 0);
        int[] open = {1, 1, 1};
        int[] large = {3, 23, 35};
        int[] left = {2, 1, 0};
        int[] burnt = {1, 0, 0};
        for (int size = 1; size <= 3; size++) {
            due("20: OPEN from SIZE " + size, x.sieved(size, 6, 0), open[size - 1]);
            due("20: LARGE from SIZE " + size, x.sieved(size, 6, 1), large[size - 1]);
            due("20: LEFT from SIZE " + size, x.sieved(size, 6, 2), left[size - 1]);
            due("20: BURNT from SIZE " + size, x.sieved(size, 6, 3), burnt[size - 1]);
        }
        due("20: the next question is of all", x.after(2, 1, 0), 12);
    }

    /** 20: '(t 1 to 200)': second t less 1 is the last. */
    private static void sievedSeconds() {
        PopPan x = Pans.with("h0x99;h0x96;h50x9");
        x.grain(0, 40, 10, 3, 0);
        due("20: after 199", x.sieved(3, 199, 0), 0);
        due("20: LEFT after 199", x.sieved(3, 199, 2), 1);
        due("20: after 200", x.sieved(3, 200, 0), 1);
        due("20: LARGE after 200", x.sieved(3, 200, 1), 35);
        due("20: after 1", x.sieved(3, 1, 2), 1);
        due("17: AIR after 199", x.air(199, 1), 25);
        due("17: AIR after 200", x.air(200, 1), 36);
        due("18: OPEN after 199", x.shaken(199, 1), 0);
        due("18: OPEN after 200", x.shaken(200, 1), 1);
    }
}
