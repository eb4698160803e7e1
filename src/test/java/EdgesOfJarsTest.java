import java.math.BigInteger;

/** Boundary cases that the document names for promises 21 to 26: jars, bags, strengths. */
public final class EdgesOfJarsTest {
    private static final int NONE = Pans.NONE, NOT = Pans.NOT, FULL = Pans.FULL;
    private static final long[][] CHOOSE = new long[31][32];

    private EdgesOfJarsTest() {
    }

    public static void main(String[] args) {
        fillChoose();
        upToTheNextWhole();
        noDayAndSixty();
        theFewestDays();
        fromAndTo();
        allChances();
        sureAndNever();
        lowestTerms();
        chancesTogether();
        spanJustMore();
        spanByAllChances();
        spanAtItsEnds();
        twelveHeard();
        heardAtTheEnds();
        fitsAtTheEnds();
        fitsNone();
        nearestOfLikeOnes();
        offByTwoHundred();
        offByTwelve();
        Check.end();
    }

    private static void due(String call, long got, long want) {
        Check.due(call, got, want);
    }

    private static void fillChoose() {
        for (int n = 0; n <= 30; n++) {
            CHOOSE[n][0] = 1;
            for (int k = 1; k <= n; k++) {
                CHOOSE[n][k] = CHOOSE[n - 1][k - 1] + CHOOSE[n - 1][k];
            }
        }
    }

    /** 21: 'each day WATER becomes nearer to it by a fourth of what it differs (up to the next whole)', up and down. */
    private static void upToTheNextWhole() {
        int[] differs = {0, 1, 3, 4, 5, 7, 8, 9, 96, 97, 99};
        int[] steps = {0, 1, 1, 1, 2, 2, 2, 3, 24, 25, 25};
        PopPan x = new PopPan();
        for (int i = 0; i < differs.length; i++) {
            due("21: up by a fourth of " + differs[i], x.jar(0, differs[i], 1), steps[i]);
            due("21: down by a fourth of " + differs[i], x.jar(differs[i], 0, 1), differs[i] - steps[i]);
            due("21: up to 99", x.jar(99 - differs[i], 99, 1), 99 - differs[i] + steps[i]);
            due("21: down from 99", x.jar(99, 99 - differs[i], 1), 99 - steps[i]);
        }
        for (int water = 0; water <= 99; water++) {
            PopPan y = new PopPan();
            for (int damp = 0; damp <= 99; damp++) {
                int step = (int) Math.ceil(Math.abs(damp - water) / 4.0);
                due("21: " + water + " by " + damp, y.jar(water, damp, 1), water < damp ? water + step : water - step);
            }
        }
    }

    /** 21: 'After n days (0 to 60)': 0 changes nothing; in 60 all WATER becomes the DAMP. */
    private static void noDayAndSixty() {
        for (int water = 0; water <= 99; water += 3) {
            PopPan x = new PopPan();
            for (int damp = 0; damp <= 99; damp += 3) {
                due("21: no day", x.jar(water, damp, 0), water);
                due("21: sixty days", x.jar(water, damp, 60), damp);
            }
        }
        PopPan x = new PopPan();
        int[] down = {99, 74, 55, 41, 30, 22, 16, 12, 9, 6, 4, 3, 2, 1, 0, 0};
        for (int day = 0; day < down.length; day++) {
            due("21: day " + day, x.jar(99, 0, day), down[day]);
            due("21: day " + day + ", up", x.jar(0, 99, day), 99 - down[day]);
        }
    }

    /** 22: 'the fewest days after which WATER is from one number to another; NONE: not in 60', both ends counted. */
    private static void theFewestDays() {
        PopPan x = new PopPan();
        due("22: at once, the lower end", x.length(50, 0, 50, 60), 0);
        due("22: at once, the upper end", x.length(50, 0, 40, 50), 0);
        due("22: at once, just it", x.length(50, 0, 50, 50), 0);
        due("22: one beside it", x.length(50, 0, 51, 60), NONE);
        due("22: one day, the lower end", x.length(50, 0, 37, 49), 1);
        due("22: one day, the upper end", x.length(50, 0, 30, 37), 1);
        due("22: one day, one beside it", x.length(50, 0, 38, 49), NONE);
        due("22: two days", x.length(50, 0, 27, 36), 2);
        due("22: passed over", x.length(50, 0, 28, 36), NONE);
        due("22: the last day on which it changes", x.length(99, 0, 0, 0), 14);
        due("22: up to the last", x.length(0, 99, 99, 99), 14);
        due("22: beyond the DAMP", x.length(0, 98, 99, 99), NONE);
        due("22: like the DAMP", x.length(7, 7, 7, 7), 0);
        due("22: like the DAMP, not asked", x.length(7, 7, 8, 99), NONE);
        for (int water = 0; water <= 99; water += 11) {
            PopPan y = new PopPan();
            for (int day = 0; day <= 14; day++) {
                int then = y.jar(water, 50, day);
                int first = 0;
                while (y.jar(water, 50, first) != then) {
                    first++;
                }
                due("22: " + water + " to " + then, y.length(water, 50, then, then), first);
            }
        }
    }

    /** 22: 'BAD: also from more than to', by one. */
    private static void fromAndTo() {
        PopPan x = new PopPan();
        int[] numbers = {0, 1, 50, 98, 99};
        for (int v : numbers) {
            due("22: from " + v + " to itself", x.length(v, v, v, v), 0);
            due("22: from " + v + " to one less", x.length(v, v, v, v - 1), Pans.BAD);
        }
        due("22: all", x.length(50, 50, 0, 99), 0);
        due("22: turned", x.length(50, 50, 99, 0), Pans.BAD);
    }

    private static long divisor(long a, long b) {
        return BigInteger.valueOf(a).gcd(BigInteger.valueOf(b)).longValueExact();
    }

    /** 23: every chance of every bag: N 1 to 30, c and n 0 to N, k 0 to n. */
    private static void allChances() {
        PopPan x = new PopPan();
        int wrong = Check.wrongSoFar();
        for (int all = 1; all <= 30 && Check.wrongSoFar() == wrong; all++) {
            for (int c = 0; c <= all; c++) {
                for (int n = 0; n <= all; n++) {
                    for (int k = 0; k <= n; k++) {
                        boolean can = k <= c && n - k <= all - c;
                        long above = can ? CHOOSE[c][k] * CHOOSE[all - c][n - k] : 0;
                        long shared = divisor(above, CHOOSE[all][n]);
                        String bag = all + ", " + c + ", " + n + ", " + k;
                        due("23: above of " + bag, x.cracked(all, c, n, k, 0), above / shared);
                        due("23: below of " + bag, x.cracked(all, c, n, k, 1), CHOOSE[all][n] / shared);
                    }
                }
            }
        }
    }

    /** 23: '(0 by 1)' for what cannot be, 1 by 1 for what must be: none tried, all tried, none or all cracked. */
    private static void sureAndNever() {
        PopPan x = new PopPan();
        int[][] sure = {{1, 0, 0, 0}, {1, 1, 0, 0}, {1, 0, 1, 0}, {1, 1, 1, 1}, {30, 0, 30, 0}, {30, 30, 30, 30}, {30, 17, 30, 17},
            {30, 17, 0, 0}, {30, 0, 15, 0}, {30, 30, 15, 15}};
        for (int[] b : sure) {
            due("23: sure, above", x.cracked(b[0], b[1], b[2], b[3], 0), 1);
            due("23: sure, below", x.cracked(b[0], b[1], b[2], b[3], 1), 1);
        }
        int[][] never = {{1, 0, 1, 1}, {1, 1, 1, 0}, {30, 0, 30, 1}, {30, 30, 30, 29}, {30, 17, 30, 16}, {30, 17, 30, 18},
            {30, 4, 15, 5}, {30, 26, 15, 10}};
        for (int[] b : never) {
            due("23: never, above", x.cracked(b[0], b[1], b[2], b[3], 0), 0);
            due("23: never, below", x.cracked(b[0], b[1], b[2], b[3], 1), 1);
        }
        due("23: just can be", x.cracked(30, 5, 15, 5, 0) > 0 ? 1 : 0, 1);
        due("23: just can be, the sound ones", x.cracked(30, 26, 15, 11, 0) > 0 ? 1 : 0, 1);
    }

    /** 23: 'FRACTIONS are told in lowest terms' */
    private static void lowestTerms() {
        PopPan x = new PopPan();
        // 2 of 4 cracked, 2 tried: 1, 4, 1 of 6.
        long[][] told = {{1, 6}, {2, 3}, {1, 6}};
        for (int k = 0; k <= 2; k++) {
            due("23: above, " + k, x.cracked(4, 2, 2, k, 0), told[k][0]);
            due("23: below, " + k, x.cracked(4, 2, 2, k, 1), told[k][1]);
        }
        due("23: the greatest below", x.cracked(30, 15, 15, 15, 1), 155117520);
        due("23: its above", x.cracked(30, 15, 15, 15, 0), 1);
    }

    /** 23: the chances of all k of one bag are 1 together. */
    private static void chancesTogether() {
        PopPan x = new PopPan();
        BigInteger sum = BigInteger.ZERO;
        BigInteger whole = BigInteger.valueOf(CHOOSE[30][12]);
        for (int k = 0; k <= 12; k++) {
            BigInteger below = BigInteger.valueOf(x.cracked(30, 9, 12, k, 1));
            sum = sum.add(BigInteger.valueOf(x.cracked(30, 9, 12, k, 0)).multiply(whole).divide(below));
        }
        Check.holds("23: together 1", sum.equals(whole));
    }

    /** 24: 'the chance of k or more is more than x by 256': 1 by 2 is not more than 128 by 256. */
    private static void spanJustMore() {
        PopPan x = new PopPan();
        due("24: more than 127, least", x.span(2, 1, 1, 127, 0), 1);
        due("24: not more than 128, least", x.span(2, 1, 1, 128, 0), 2);
        due("24: more than 127, greatest", x.span(2, 1, 0, 127, 1), 1);
        due("24: not more than 128, greatest", x.span(2, 1, 0, 128, 1), 0);
        // One of four tried: the chance of one is c by 4: 64, 128, 192 by 256.
        int[] chances = {0, 63, 64, 127, 128, 191, 192, 255};
        int[] least = {1, 1, 2, 2, 3, 3, 4, 4};
        for (int i = 0; i < chances.length; i++) {
            due("24: least for " + chances[i], x.span(4, 1, 1, chances[i], 0), least[i]);
            due("24: greatest for " + chances[i], x.span(4, 1, 0, chances[i], 1), 4 - least[i]);
        }
    }

    private static boolean isMore(int all, int c, int n, int from, int to, int chance) {
        long ways = 0;
        for (int k = from; k <= to; k++) {
            ways += k <= c && n - k <= all - c ? CHOOSE[c][k] * CHOOSE[all - c][n - k] : 0;
        }
        return ways * 256 > chance * CHOOSE[all][n];
    }

    /** 24: every bag with x at its ends and about the middle. */
    private static void spanByAllChances() {
        PopPan x = new PopPan();
        int[] chances = {0, 1, 127, 128, 254, 255};
        int wrong = Check.wrongSoFar();
        for (int all = 1; all <= 30 && Check.wrongSoFar() == wrong; all++) {
            for (int n = 0; n <= all; n++) {
                for (int k = 0; k <= n; k++) {
                    for (int chance : chances) {
                        int least = 0;
                        while (least <= all && !isMore(all, least, n, k, n, chance)) {
                            least++;
                        }
                        int greatest = all;
                        while (greatest >= 0 && !isMore(all, greatest, n, 0, k, chance)) {
                            greatest--;
                        }
                        String bag = all + ", " + n + ", " + k + ", " + chance;
                        due("24: least of " + bag, x.span(all, n, k, chance, 0), least > all ? NONE : least);
                        due("24: greatest of " + bag, x.span(all, n, k, chance, 1), greatest);
                    }
                }
            }
        }
    }

    /** 24: none tried tells nothing, all tried tell all; '(x 0 to 255)'. */
    private static void spanAtItsEnds() {
        PopPan x = new PopPan();
        int[] bags = {1, 2, 29, 30};
        for (int all : bags) {
            int[] chances = {0, 255};
            for (int chance : chances) {
                due("24: none tried, least", x.span(all, 0, 0, chance, 0), 0);
                due("24: none tried, greatest", x.span(all, 0, 0, chance, 1), all);
                due("24: all tried, none cracked", x.span(all, all, 0, chance, 1), 0);
                due("24: all tried, all cracked", x.span(all, all, all, chance, 0), all);
            }
        }
    }

    /** 25: 'HEARD, 12 at most', of one grain or of several. */
    private static void twelveHeard() {
        PopPan x = new PopPan();
        x.grain(0, 1, 1, 1, 1);
        x.grain(0, 1, 1, 1, 1);
        for (int i = 1; i <= 12; i++) {
            due("25: the " + i + "th", x.heard(i % 2, i), i);
            due("33: so many", x.count(6), i);
        }
        for (int i = 0; i < 3; i++) {
            due("25: no room", x.heard(0, 0), FULL);
        }
        due("33: twelve", x.count(6), 12);
        x.empty();
        due("33: none", x.count(6), 0);
    }

    /** 25: 'a GRAIN GOES at a SECOND (0 to 199)': 199 may be heard and may be so. */
    private static void heardAtTheEnds() {
        PopPan x = Pans.with("h0x99;h0x96;h50x5");
        x.grain(0, 40, 10, 3, 0);
        due("25: at 199", x.heard(0, 199), 1);
        due("26: it fits", x.fits(4), 0);
        due("26: the least", x.fits(0), 10);
        due("26: the greatest", x.fits(1), 14);
        x.empty();
        x.grain(0, 40, 10, 3, 0);
        due("25: at 0", x.heard(0, 0), 1);
        // It goes in 198 with STRENGTHS 5 to 9.
        due("26: none goes at once", x.fits(2), 0);
        due("26: off by", x.fits(4), 198);
        due("26: the nearest", x.fits(3), 5);
    }

    /** 26: 'STRENGTHS (5 to 15)': push 32, 76, 119, 161 in seconds 2 to 5 against HOLD 8: 5 to 9, 10 to 14, 15. */
    private static void fitsAtTheEnds() {
        int[][] fits = {{3, 5, 9, 5, 5}, {4, 10, 14, 5, 10}, {5, 15, 15, 1, 15}};
        for (int[] f : fits) {
            PopPan x = Pans.with("h50x99");
            x.grain(0, 40, 10, 3, 0);
            x.heard(0, f[0]);
            due("26: the least for " + f[0], x.fits(0), f[1]);
            due("26: the greatest for " + f[0], x.fits(1), f[2]);
            due("26: how many for " + f[0], x.fits(2), f[3]);
            due("26: the nearest for " + f[0], x.fits(3), f[4]);
            due("26: off for " + f[0], x.fits(4), 0);
            due("26: STRENGTH stays", x.set(1, 5), 10);
            due("26: it is of no matter", x.fits(0), f[1]);
        }
        PopPan all = Pans.with("h50x2;h99x1");
        all.grain(0, 99, 1, 1, 0);
        all.heard(0, 2);
        due("26: all fit, the least", all.fits(0), 5);
        due("26: all fit, the greatest", all.fits(1), 15);
        due("26: all fit, how many", all.fits(2), 11);
        PopPan weakest = Pans.with("h50x3");
        weakest.grain(0, 40, 8, 3, 0);
        weakest.heard(0, 2);
        // Push 32 is 5 times 6, but not 6 times 6.
        due("26: the weakest alone, least", weakest.fits(0), 5);
        due("26: the weakest alone, greatest", weakest.fits(1), 5);
        due("26: the weakest alone, how many", weakest.fits(2), 1);
    }

    /** 26: 'all that were HEARD go just then': one of two does not; NONE. */
    private static void fitsNone() {
        PopPan x = Pans.with("h50x99");
        x.grain(0, 40, 10, 3, 0);
        x.grain(1, 40, 10, 3, 0);
        x.heard(0, 4);
        x.heard(1, 4);
        due("26: both, the least", x.fits(0), 10);
        x.heard(1, 5);
        due("26: not both, the least", x.fits(0), NONE);
        due("26: not both, the greatest", x.fits(1), NONE);
        due("26: not both, how many", x.fits(2), 0);
        due("26: nothing was HEARD", new PopPan().fits(0), NOT);
        PopPan y = Pans.with("h50x99");
        y.grain(0, 0, 20, 1, 0);
        y.grain(1, 40, 10, 3, 0);
        y.heard(1, 4);
        due("26: the GRAIN that was HEARD goes", y.fits(2), 5);
        y.heard(0, 4);
        due("26: the other never", y.fits(4), 200);
    }

    /** 26: 'of like ones the least' */
    private static void nearestOfLikeOnes() {
        PopPan x = Pans.with("h50x99");
        x.grain(0, 40, 10, 3, 0);
        x.heard(0, 3);
        x.heard(0, 5);
        // 5 to 9 are off by 0 and 2, 10 to 14 by 1 and 1, 15 by 2 and 0.
        due("26: all are like", x.fits(3), 5);
        due("26: off by", x.fits(4), 2);
        x.heard(0, 4);
        due("26: the middle ones", x.fits(3), 10);
        due("26: off by 2", x.fits(4), 2);
        x.heard(0, 5);
        x.heard(0, 5);
        // 5 to 9: 0, 2, 1, 2, 2; 10 to 14: 1, 1, 0, 1, 1; 15: 2, 0, 1, 0, 0.
        due("26: the strongest", x.fits(3), 15);
        due("26: off by 3", x.fits(4), 3);
    }

    /** 26: '(200 for one that does not go)': more than any that goes can be off. */
    private static void offByTwoHundred() {
        PopPan x = new PopPan();
        x.grain(0, 0, 1, 1, 0);
        int[] seconds = {0, 100, 199};
        for (int i = 0; i < seconds.length; i++) {
            x.heard(0, seconds[i]);
            due("26: off by 200 for each", x.fits(4), 200 * (i + 1));
            due("26: of like ones the least", x.fits(3), 5);
            due("26: none fits", x.fits(2), 0);
        }
        PopPan y = Pans.with("h50x4");
        y.grain(0, 40, 10, 3, 0);
        y.heard(0, 199);
        // In second 3 with 5 to 9; with more it does not go.
        due("26: off by 196 is nearer", y.fits(4), 196);
        due("26: that STRENGTH", y.fits(3), 5);
    }

    /** 26: twelve that were HEARD, each counted. */
    private static void offByTwelve() {
        PopPan x = new PopPan();
        for (int g = 0; g < 12; g++) {
            x.grain(g % 4, 0, 1, 1, 0);
            x.heard(g, g);
        }
        due("26: the most it can be off", x.fits(4), 2400);
        PopPan y = Pans.with("h50x99");
        y.grain(0, 40, 10, 3, 0);
        for (int i = 0; i < 12; i++) {
            y.heard(0, 4);
        }
        due("26: twelve times the same fits", y.fits(2), 5);
    }
}
