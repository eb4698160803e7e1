/**
 * Boundary cases that the document names for promises 11 and 12: WARMTH, PRESS, HOLD, going, burning, leaking, rows.
 * Two seconds of heat 50 give the lowest one WARMTH 49 and 96; a third of heat h gives 96 and h less its 32nd (cut).
 */
public final class EdgesOfHeatTest {
    private static final int NONE = Pans.NONE;
    private static final int WARMTH = 0, WATER = 1, PRESS = 2, STATE = 3, WENT = 4, LARGE = 5;
    private static final int WHOLE = 0, OPEN = 1, BURNT = 2;

    private EdgesOfHeatTest() {
    }

    public static void main(String[] args) {
        nothingGone();
        heatOfTheLowest();
        halfOfWhatTheOneBelowGot();
        lossByThirtyTwo();
        lossByTheLid();
        lossToTheEnd();
        pressOfAHundred();
        pressIsCut();
        justAtLeast();
        theLeastThatGoes();
        largeIsCut();
        holdByTwentieths();
        holdIsOneAtLeast();
        settingsAtTheirEnds();
        burntBeyond250();
        goingBeforeBurning();
        leaksByAHundred();
        leaksToNothing();
        openOnesRise();
        burntOnesStay();
        shakenRows();
        shakenSingleAndNone();
        lastSecond();
        soundsOfSeconds();
        twelveSounds();
        Check.end();
    }

    private static void due(String call, long got, long want) {
        Check.due(call, got, want);
    }

    /** Alone in a pan; the heat of the third second is told. */
    private static PopPan third(int heat, int water, int skin, int size, int crack) {
        PopPan x = Pans.with("h50x2;h" + heat + "x1");
        x.grain(0, water, skin, size, crack);
        return x;
    }

    /** 11: t 0 to 200, PRESS '0 at first', the SECOND 'NONE', LARGE '0'; WARMTH '(0 at first)'. */
    private static void nothingGone() {
        PopPan x = Pans.with("s;h99x99");
        x.grain(0, 99, 1, 9, 9);
        int[] first = {0, 99, 0, WHOLE, NONE, 0};
        for (int what = 0; what <= 5; what++) {
            due("11: after 0 seconds, " + what, x.after(0, 0, what), first[what]);
        }
        for (int what = 0; what <= 5; what++) {
            due("11: it went in second 1", x.after(0, 200, 4), 1);
            due("11: after 0 seconds, asked behind 200, " + what, x.after(0, 0, what), first[what]);
        }
        int[] dry = {0, 0, 0, WHOLE, NONE, 0};
        PopPan cold = new PopPan();
        cold.grain(3, 0, 20, 9, 9);
        for (int what = 0; what <= 5; what++) {
            due("11: 200 cold seconds, " + what, cold.after(0, 200, what), dry[what]);
        }
    }

    /** 11: 'the lowest one gets as much WARMTH as the HEAT' (0 to 99) */
    private static void heatOfTheLowest() {
        int[] heats = {0, 1, 31, 32, 63, 64, 95, 96, 99};
        int[] warmth = {0, 1, 31, 31, 62, 62, 93, 93, 96};
        for (int i = 0; i < heats.length; i++) {
            PopPan x = Pans.with("h" + heats[i] + "x1");
            x.grain(1, 0, 20, 1, 0);
            due("11: heat " + heats[i], x.after(0, 1, WARMTH), warmth[i]);
        }
    }

    /** 11: 'each one above it half (cut) of what the one below got': not of what is left to it. */
    private static void halfOfWhatTheOneBelowGot() {
        int[] heats = {1, 2, 3, 7, 65, 99};
        int[][] got = {{1, 0, 0}, {2, 1, 0}, {3, 1, 0}, {7, 3, 1}, {65 - 2, 32 - 1, 16}, {99 - 3, 49 - 1, 24}};
        for (int i = 0; i < heats.length; i++) {
            PopPan x = Pans.with("h" + heats[i] + "x1");
            for (int g = 0; g < 3; g++) {
                x.grain(0, 0, 20, 1, 0);
            }
            for (int g = 0; g < 3; g++) {
                due("11: heat " + heats[i] + ", grain " + g, x.after(g, 1, WARMTH), got[i][g]);
            }
        }
    }

    /** 11: 'then each loses WARMTH by 32 (cut ..)': 31 loses none, 32 loses 1, 63 loses 1, 64 loses 2. */
    private static void lossByThirtyTwo() {
        PopPan x = Pans.with("h31x1;h1x1;h32x1;h2x1");
        x.grain(0, 0, 20, 1, 0);
        int[] warmth = {0, 31, 32 - 1, 63 - 1, 64 - 2};
        for (int t = 0; t < warmth.length; t++) {
            due("11: without the lid after " + t, x.after(0, t, WARMTH), warmth[t]);
        }
    }

    /** 11: '(.. by 64 with the lid on)': 63 loses none, 64 loses 1; by the lid of that very second. */
    private static void lossByTheLid() {
        PopPan x = Pans.with("l;h63x1;h1x1;h64x1;h1x1");
        x.grain(0, 0, 20, 1, 0);
        int[] warmth = {0, 63, 64 - 1, 127 - 1, 127 - 1};
        for (int t = 0; t < warmth.length; t++) {
            due("11: with the lid after " + t, x.after(0, t, WARMTH), warmth[t]);
        }
        Check.retype(x, 0, "h64x1;l;h2x1;o;h0x1");
        due("11: the lid is not on yet", x.after(0, 1, WARMTH), 62);
        due("11: on", x.after(0, 2, WARMTH), 64 - 1);
        due("11: off again", x.after(0, 3, WARMTH), 63 - 1);
        Check.retype(x, 0, "h99x1;l");
        due("11: the lid behind the heat", x.after(0, 2, WARMTH), 96 - 1);
    }

    /** 11: what is below 32 (64 with the lid) loses no more. */
    private static void lossToTheEnd() {
        PopPan x = Pans.with("h99x1");
        x.grain(0, 0, 20, 1, 0);
        due("11: 31 stay", x.after(0, 200, WARMTH), 31);
        Check.retype(x, 0, "l;h99x1");
        due("11: 63 stay with the lid", x.after(0, 200, WARMTH), 63);
    }

    /** 11: 'PRESS is (WARMTH less 100) times WATER by 40 (cut; 0, if WARMTH is 100 or less)' */
    private static void pressOfAHundred() {
        int[] heats = {0, 5, 6, 7, 8, 9};
        int[] warmth = {93, 98, 99, 100, 101, 102};
        int[] press = {0, 0, 0, 0, 2, 4};
        for (int i = 0; i < heats.length; i++) {
            PopPan x = third(heats[i], 99, 20, 1, 9);
            due("11: WARMTH by heat " + heats[i], x.after(0, 3, WARMTH), warmth[i]);
            due("11: PRESS of " + warmth[i], x.after(0, 3, PRESS), press[i]);
            due("11: WATER by " + warmth[i], x.after(0, 3, WATER), 99);
        }
    }

    /** 11: PRESS is cut: WARMTH 101 and WATER 39, 40, 79, 80; no WATER, no PRESS. */
    private static void pressIsCut() {
        int[] waters = {0, 39, 40, 79, 80, 99};
        int[] press = {0, 0, 1, 1, 2, 2};
        for (int i = 0; i < waters.length; i++) {
            due("11: PRESS by WATER " + waters[i], third(8, waters[i], 20, 1, 0).after(0, 3, PRESS), press[i]);
        }
        PopPan x = Pans.with("h99x3");
        x.grain(0, 0, 20, 1, 0);
        due("11: very warm, but dry", x.after(0, 3, PRESS), 0);
        due("11: it burns", x.after(0, 3, STATE), BURNT);
    }

    /** 11: 'It GOES, if PRESS less AIR is at least STRENGTH times HOLD': 86 in second 3, 8 times 10. */
    private static void justAtLeast() {
        for (int air = 5; air <= 8; air++) {
            PopPan x = Pans.with("h50x4");
            x.grain(0, 40, 10, 3, 0);
            x.set(0, air);
            due("11: PRESS", x.after(0, 4, PRESS), 86);
            due("11: with AIR " + air, x.after(0, 4, STATE), air <= 6 ? OPEN : WHOLE);
            due("11: its SECOND with AIR " + air, x.after(0, 4, WENT), air <= 6 ? 3 : NONE);
            due("11: LARGE with AIR " + air, x.after(0, 4, LARGE), air <= 6 ? 24 : 0);
        }
    }

    /** 11: the least STRENGTH, HOLD and AIR: PRESS 5 goes, 4 does not. */
    private static void theLeastThatGoes() {
        for (int heat = 11; heat <= 12; heat++) {
            PopPan x = third(heat, 40, 1, 9, 0);
            x.set(0, 0);
            x.set(1, 5);
            due("11: PRESS by " + heat, x.after(0, 3, PRESS), heat - 7);
            due("11: it goes by " + heat, x.after(0, 3, STATE), heat == 12 ? OPEN : WHOLE);
            x.set(0, 1);
            due("11: AIR 1 keeps it by " + heat, x.after(0, 3, STATE), WHOLE);
        }
        PopPan dry = Pans.with("h50x5");
        dry.grain(0, 0, 1, 9, 0);
        dry.set(0, 0);
        dry.set(1, 5);
        due("11: without PRESS it never goes", dry.after(0, 5, STATE), WHOLE);
    }

    /** 11: 'LARGE is SIZE times (PRESS less AIR) by 10 (cut)': of 5, SIZE 1 makes none. */
    private static void largeIsCut() {
        int[] large = {0, 0, 1, 1, 2, 2, 3, 3, 4, 4};
        for (int size = 1; size <= 9; size++) {
            PopPan x = third(12, 40, 1, size, 0);
            x.set(0, 0);
            x.set(1, 5);
            due("11: OPEN, SIZE " + size, x.after(0, 3, STATE), OPEN);
            due("11: LARGE by SIZE " + size, x.after(0, 3, LARGE), large[size]);
            due("11: PRESS is without AIR and SIZE", x.after(0, 3, PRESS), 5);
        }
    }

    /** 11: 'HOLD being SKIN, less a 20th (cut) of WATER': 19 and 20, 39 and 40, 59 and 60, 79 and 80. */
    private static void holdByTwentieths() {
        int[] heats = {52, 37, 37, 37};
        int[] warmths = {144, 129, 129, 129};
        int[] waters = {20, 40, 60, 80};
        int[] skins = {3, 4, 6, 8};
        for (int i = 0; i < heats.length; i++) {
            // With as much PRESS as is told the one with a 20th more goes, the other would need STRENGTH more.
            PopPan more = third(heats[i], waters[i], skins[i], 1, 0);
            PopPan less = third(heats[i], waters[i] - 1, skins[i], 1, 0);
            int hold = skins[i] - waters[i] / 20;
            int strength = Math.min(15, (warmths[i] - 100) * (waters[i] - 1) / 40 / hold);
            more.set(0, 0);
            less.set(0, 0);
            more.set(1, strength);
            less.set(1, strength);
            due("11: enough for the lesser HOLD", less.after(0, 3, PRESS) >= strength * hold ? 1 : 0, 1);
            due("11: HOLD by WATER " + waters[i], more.after(0, 3, STATE), OPEN);
            due("11: HOLD by WATER " + (waters[i] - 1), less.after(0, 3, STATE), WHOLE);
        }
    }

    /** 11: 'HOLD .. 1 at least': with WATER 99 SKINS 1 to 5 hold 1, SKIN 6 holds 2. */
    private static void holdIsOneAtLeast() {
        int[] skins = {1, 2, 4, 5, 6, 6};
        int[] least = {12, 12, 12, 12, 22, 22};
        int[] heats = {12, 12, 12, 12, 16, 16};
        for (int i = 0; i < skins.length; i++) {
            PopPan goes = third(heats[i], 99, skins[i], 1, 0);
            PopPan stays = third(heats[i] - 1, 99, skins[i], 1, 0);
            goes.set(0, 0);
            stays.set(0, 0);
            due("11: SKIN " + skins[i] + ", PRESS", goes.after(0, 3, PRESS), least[i]);
            due("11: SKIN " + skins[i] + " goes", goes.after(0, 3, STATE), OPEN);
            due("11: SKIN " + skins[i] + " by less", stays.after(0, 3, STATE), WHOLE);
        }
    }

    /** 11: 'AIR (0 to 99)', 'STRENGTH (5 to 15)': PRESS 42, 86, 129 in seconds 2, 3, 4, HOLD 8, 2 or 3. */
    private static void settingsAtTheirEnds() {
        PopPan x = Pans.with("h50x5");
        x.grain(0, 40, 10, 3, 0);
        int[] airs = {0, 9, 10, 99};
        int[] went = {4, 4, NONE, NONE};
        x.set(1, 15);
        for (int i = 0; i < airs.length; i++) {
            x.set(0, airs[i]);
            due("11: STRENGTH 15, AIR " + airs[i], x.after(0, 5, WENT), went[i]);
        }
        x.set(1, 5);
        int[] weaker = {2, 3, 3, NONE};
        for (int i = 0; i < airs.length; i++) {
            x.set(0, airs[i]);
            due("11: STRENGTH 5, AIR " + airs[i], x.after(0, 5, WENT), weaker[i]);
        }
        x.change(0, 1, 4);
        due("11: AIR 99, HOLD 2", x.after(0, 5, WENT), 4);
        due("11: LARGE with AIR 99", x.after(0, 5, LARGE), 9);
        x.set(1, 15);
        due("11: 30 is just enough", x.after(0, 5, WENT), 4);
        x.change(0, 1, 5);
        due("11: 45 is not", x.after(0, 5, WENT), NONE);
    }

    /** 11: 'Else, if WARMTH is more than 250, it is BURNT' */
    private static void burntBeyond250() {
        int[] heats = {28, 29, 30, 31};
        int[] warmth = {249, 250, 251, 252};
        for (int i = 0; i < heats.length; i++) {
            PopPan x = Pans.with("h50x5;h" + heats[i] + "x1");
            x.grain(0, 0, 1, 9, 9);
            due("11: WARMTH", x.after(0, 6, WARMTH), warmth[i]);
            due("11: BURNT at " + warmth[i], x.after(0, 6, STATE), warmth[i] > 250 ? BURNT : WHOLE);
            due("11: no SECOND in which it went", x.after(0, 6, WENT), NONE);
            due("11: no LARGE", x.after(0, 6, LARGE), 0);
            due("11: cooled down it is as it was", x.after(0, 200, STATE), warmth[i] > 250 ? BURNT : WHOLE);
        }
    }

    /** 11: going comes before burning; a BURNT one never goes, a hotter pan or not. */
    private static void goingBeforeBurning() {
        // Heat 99: warmth 96, 189, 279; WATER 40: PRESS 89, then 179.
        int[] skins = {18, 19, 20};
        int[] airs = {19, 9, 0};
        for (int i = 0; i < skins.length; i++) {
            PopPan x = Pans.with("h99x9");
            x.grain(0, 40, skins[i], 1, 0);
            x.set(0, airs[i]);
            due("11: " + skins[i] + " goes though it is 279 warm", x.after(0, 3, STATE), i < 2 ? OPEN : BURNT);
            if (i == 2) {
                due("11: it would need 180", x.after(0, 3, PRESS), 179);
                due("11: PRESS of its last SECOND as a WHOLE one", x.after(0, 9, PRESS), 179);
                due("11: it stays BURNT", x.after(0, 9, STATE), BURNT);
                due("11: it still gets warm", x.after(0, 4, WARMTH), 279 + 99 - 11);
            }
        }
    }

    /** 11: 'else its WATER becomes less by PRESS times CRACK by 100 (cut)': 95, 96, 99, 100 and 190, 200. */
    private static void leaksByAHundred() {
        int[] press = {19, 24, 11, 20, 25, 33, 38, 40, 50};
        int[] cracks = {5, 4, 9, 5, 4, 3, 5, 5, 2};
        int[] leaks = {0, 0, 0, 1, 1, 0, 1, 2, 1};
        for (int i = 0; i < press.length; i++) {
            int heat = heatFor(100 + press[i]);
            PopPan x = third(heat, 40, 20, 1, cracks[i]);
            due("11: PRESS", x.after(0, 3, PRESS), press[i]);
            due("11: a leak of " + press[i] + " times " + cracks[i], x.after(0, 3, WATER), 40 - leaks[i]);
            x.change(0, 3, 0);
            due("11: without a CRACK none", x.after(0, 3, WATER), 40);
        }
    }

    /** The heat by which 96 becomes as warm as told, above 96. */
    private static int heatFor(int warmth) {
        for (int heat = 0; heat <= 99; heat++) {
            if (96 + heat - (96 + heat) / 32 == warmth) {
                return heat;
            }
        }
        return NONE;
    }

    /** 11: WATER '0 at least', and little WATER that no longer leaks. */
    private static void leaksToNothing() {
        PopPan x = Pans.with("h50x3;h7x99;h7x97");
        for (int water = 0; water <= 99; water += 9) {
            x.empty();
            x.grain(0, water, 20, 1, 9);
            int before = water;
            boolean falls = true;
            for (int t = 0; t <= 200; t += 10) {
                int now = x.after(0, t, WATER);
                falls &= now >= 0 && now <= before;
                before = now;
            }
            Check.holds("11: WATER of " + water + " falls, but never below 0", falls);
        }
        x.empty();
        x.grain(0, 1, 20, 1, 9);
        due("11: a last drop has too little PRESS", x.after(0, 200, WATER), 1);
    }

    /** 11: 'OPEN ones rise: from the next SECOND on they are not in the row (and get no WARMTH, and lose none)' */
    private static void openOnesRise() {
        PopPan x = Pans.with("h50x7");
        x.grain(0, 40, 10, 3, 0);
        x.grain(0, 0, 20, 1, 0);
        x.grain(0, 0, 20, 1, 0);
        // By 25: 25, 49, 72, 94, 116; by 12: 12, 24, 35, 46, 57; then by 50 and 25.
        int[] second = {0, 25, 49, 72, 94, 116, 161, 205};
        int[] third = {0, 12, 24, 35, 46, 57, 80, 102};
        for (int t = 0; t < second.length; t++) {
            due("11: the one above, after " + t, x.after(1, t, WARMTH), second[t]);
            due("11: the one above that, after " + t, x.after(2, t, WARMTH), third[t]);
        }
        due("11: it went in 4", x.after(0, 7, WENT), 4);
        due("11: it gets none", x.after(0, 7, WARMTH), 229);
        due("11: it loses none", x.after(0, 200, WARMTH), 229);
        int[] kept = {229, 40, 129, OPEN, 4, 35};
        for (int what = 0; what <= 5; what++) {
            due("11: all stays of an OPEN one, " + what, x.after(0, 5, what), kept[what]);
            due("11: to the end, " + what, x.after(0, 200, what), kept[what]);
        }
    }

    /** 11: 'BURNT ones stay in it': the one above still gets half, and they are shaken. */
    private static void burntOnesStay() {
        PopPan x = Pans.with("h99x3;h40x1");
        x.grain(0, 0, 1, 1, 0);
        x.grain(0, 0, 1, 1, 0);
        due("11: BURNT in second 2", x.after(0, 3, STATE), BURNT);
        int upper = x.after(1, 3, WARMTH);
        due("11: half of 99 thrice", upper, 139);
        due("11: half of 40 above it", x.after(1, 4, WARMTH), 159 - 4);
        Check.retype(x, 0, "h99x3;s;h40x1");
        due("11: the BURNT one came to the top", x.after(1, 4, WARMTH), 179 - 5);
        due("11: where it gets half", x.after(0, 4, WARMTH), 299 - 9);
    }

    /** 11: 'if it is SHAKEN (once for each s), in each PLACE the lowest one comes to the top, the others one down' */
    private static void shakenRows() {
        int[] first = {96, 48, 24};
        for (int times = 0; times <= 7; times++) {
            PopPan x = Pans.with("s;".repeat(times) + "h99x1");
            for (int i = 0; i < 3; i++) {
                x.grain(0, 0, 1, 1, 0);
                x.grain(3, 0, 1, 1, 0);
            }
            for (int g = 0; g < 6; g++) {
                int height = Math.floorMod(g / 2 - times, 3);
                due("11: grain " + g + " shaken " + times + " times", x.after(g, 1, WARMTH), first[height]);
            }
        }
        fullRows();
    }

    /** All twelve in one place, shaken once, once around, and once more. */
    private static void fullRows() {
        int[] row = {96, 48, 24, 12, 6, 3, 1, 0, 0, 0, 0, 0};
        int[] shaken = {1, 11, 12, 13};
        for (int place = 0; place <= 3; place++) {
            for (int times : shaken) {
                PopPan x = Pans.with("s;".repeat(times) + "h99x1");
                for (int g = 0; g < 12; g++) {
                    x.grain(place, 0, 1, 1, 0);
                }
                for (int g = 0; g < 12; g++) {
                    int height = Math.floorMod(g - times, 12);
                    due("11: of twelve in " + place + ", shaken " + times + " times", x.after(g, 1, WARMTH), row[height]);
                }
            }
        }
    }

    /** 11: a row of one, rows of none, and rows from which all have risen. */
    private static void shakenSingleAndNone() {
        PopPan x = Pans.with("s;s;s;h50x5;s;s;h50x1");
        x.grain(2, 40, 10, 3, 0);
        due("11: one alone is shaken", x.after(0, 5, WENT), 4);
        due("11: shaken without any in the row", x.after(0, 200, WARMTH), 229);
        x.grain(2, 0, 20, 1, 0);
        x.grain(2, 0, 20, 1, 0);
        // Thrice: the second is the lowest, then the third, then the first again.
        due("11: the lowest again", x.after(0, 5, WENT), 4);
        due("11: shaken twice, the two above change back", x.after(1, 6, WARMTH), 161);
    }

    /** 11, 12: the SECOND 199 is the last of 200. */
    private static void lastSecond() {
        PopPan x = Pans.with("h0x99;h0x96;h50x9");
        x.grain(0, 40, 10, 3, 0);
        due("11: not after 199", x.after(0, 199, STATE), WHOLE);
        due("11: after 200", x.after(0, 200, STATE), OPEN);
        due("11: in second 199", x.after(0, 200, WENT), 199);
        due("12: in 199", x.sounds(199, false), 1);
        due("12: up to 199", x.sounds(199, true), 1);
        due("12: up to 198", x.sounds(198, true), 0);
        Check.retype(x, 0, "h0x99;h0x97;h50x9");
        due("11: one second later it is too late", x.after(0, 200, STATE), WHOLE);
        due("11: no SECOND", x.after(0, 200, WENT), NONE);
        due("12: no SOUND", x.sounds(199, true), 0);
    }

    /** 12: 'SOUNDS of a SECOND: how many GO in it', 'up to it'; BURNT ones make none. */
    private static void soundsOfSeconds() {
        PopPan x = Pans.ready();
        x.grain(1, 0, 1, 1, 0);
        int[] each = {0, 0, 1, 0, 1, 0, 0};
        int all = 0;
        for (int second = 0; second < each.length; second++) {
            all += each[second];
            due("12: in " + second, x.sounds(second, false), each[second]);
            due("12: up to " + second, x.sounds(second, true), all);
        }
        due("12: one was BURNT without a SOUND", x.after(3, 6, STATE), BURNT);
        x.empty();
        due("12: of none", x.sounds(199, true), 0);
    }

    /** 12: three in each place that go one by one, twelve in all; four in one SECOND. */
    private static void twelveSounds() {
        PopPan x = Pans.with("h50x99");
        for (int g = 0; g < 12; g++) {
            x.grain(g % 4, 40, 1, 1, 0);
        }
        due("12: four at once", x.sounds(2, false), 4);
        due("12: all twelve", x.sounds(199, true), 12);
        int sum = 0;
        for (int second = 0; second < 200; second++) {
            sum += x.sounds(second, false);
        }
        due("12: each once", sum, 12);
    }
}
