/** Boundary cases that the document names for promises 13 and 14: where RULES stop, what is told then, the BEST. */
public final class EdgesOfRulesTest {
    private static final int NONE = Pans.NONE;
    private static final int SECONDS = 0, LEFT = 1, LARGE = 2, BURNT = 3, BROWNED = 4, WORTH = 5;

    private EdgesOfRulesTest() {
    }

    public static void main(String[] args) {
        silenceBehindTheFirstSound();
        silenceOneAfterTheOther();
        silenceToTheEnd();
        noSounds();
        soundsInAll();
        secondsThatAreGone();
        theFirstOfConditions();
        theThirdOfLikeOnes();
        atTheLatest();
        justGoneOrNotYet();
        moreThanBrown();
        worthByNothing();
        worthLikeARefusal();
        worthAtItsEnds();
        bestOfLikeOnes();
        bestWithoutAFault();
        Check.end();
    }

    private static void due(String call, long got, long want) {
        Check.due(call, got, want);
    }

    /** Grains that go in seconds 2 (one) and 4 (two). */
    private static PopPan three() {
        PopPan x = Pans.with("h50x99");
        x.grain(0, 40, 10, 3, 0);
        x.grain(1, 40, 10, 5, 0);
        x.grain(2, 40, 1, 5, 0);
        return x;
    }

    /** One grain that goes in a second from 4 on. */
    private static PopPan oneIn(int second) {
        PopPan x = new PopPan();
        StringBuilder pan = new StringBuilder();
        for (int left = second - 4; left > 0; left -= 99) {
            pan.append("h0x").append(Math.min(99, left)).append(';');
        }
        Check.type(x, 0, pan + "h50x5");
        x.grain(0, 40, 10, 3, 0);
        due("13: it goes in", x.after(0, 200, 4), second);
        return x;
    }

    private static void stops(PopPan x, String rule, int want) {
        Check.retype(x, 1, rule);
        due("13: SECONDS of '" + rule + "'", x.stop(0, SECONDS), want);
    }

    /** 13: 'g ..: behind the first SOUND that many SECONDS one after the other have none': not before it. */
    private static void silenceBehindTheFirstSound() {
        PopPan x = oneIn(50);
        stops(x, "g1", 52);
        stops(x, "g2", 53);
        stops(x, "g10", 61);
        stops(x, "g99", 150);
        PopPan y = oneIn(4);
        stops(y, "g1", 6);
        stops(y, "g99", 104);
    }

    /** 13: a SOUND begins the count anew. */
    private static void silenceOneAfterTheOther() {
        PopPan x = three();
        stops(x, "g1", 4);
        stops(x, "g2", 7);
        stops(x, "g3", 8);
        // In seconds 2 and 4 alone: the silence of second 3 is not counted to that from 5 on.
        stops(x, "g98", 103);
    }

    /** 13: 99 silent SECONDS behind second 100 are just gone with 200. */
    private static void silenceToTheEnd() {
        stops(oneIn(99), "g99", 199);
        stops(oneIn(100), "g99", 200);
        stops(oneIn(101), "g99", 200);
        stops(oneIn(198), "g1", 200);
        stops(oneIn(199), "g1", 200);
        stops(oneIn(197), "g1", 199);
    }

    /** 13: without a SOUND no silence counts, and no number is reached. */
    private static void noSounds() {
        PopPan x = new PopPan();
        stops(x, "g1", 200);
        stops(x, "n1", 200);
        stops(x, "g1|n1", 200);
        stops(x, "g1|n1|t1", 1);
        x.grain(0, 0, 1, 1, 0);
        stops(x, "g1|n1", 200);
    }

    /** 13: 'n ..: as many SOUNDS were heard in all' (two may come in one SECOND) */
    private static void soundsInAll() {
        PopPan x = three();
        stops(x, "n1", 3);
        stops(x, "n2", 5);
        stops(x, "n3", 5);
        stops(x, "n4", 200);
        stops(x, "n99", 200);
        PopPan twelve = Pans.with("h50x99");
        for (int g = 0; g < 12; g++) {
            twelve.grain(g % 4, 40, 1, 1, 0);
        }
        int last = 0;
        for (int g = 0; g < 12; g++) {
            last = Math.max(last, twelve.after(g, 200, 4));
        }
        stops(twelve, "n12", last + 1);
        stops(twelve, "n13", 200);
        stops(oneIn(199), "n1", 200);
        stops(oneIn(198), "n1", 199);
    }

    /** 13: 't, a number (.. 1 to 200): so many SECONDS are gone' */
    private static void secondsThatAreGone() {
        PopPan x = three();
        int[] seconds = {1, 2, 9, 10, 99, 100, 199, 200};
        for (int t : seconds) {
            stops(x, "t" + t, t);
        }
        stops(x, "t001", 1);
        stops(x, "t010", 10);
    }

    /** 13: 'One stops behind the first SECOND at which some condition is so' */
    private static void theFirstOfConditions() {
        PopPan x = three();
        stops(x, "g1|n1|t4", 3);
        stops(x, "t4|n2|g1", 4);
        stops(x, "n3|g2|t6", 5);
        stops(x, "n4|g2|t8", 7);
        stops(x, "n4|g9|t8", 8);
        stops(x, "t2|n1", 2);
        stops(x, "t3|n1", 3);
        stops(x, "n1|t3", 3);
    }

    /** 13: several of one kind, the least in any place. */
    private static void theThirdOfLikeOnes() {
        PopPan x = three();
        stops(x, "t9|t7|t8", 7);
        stops(x, "t7|t8|t9", 7);
        stops(x, "t8|t9|t7", 7);
        stops(x, "n3|n1|n2", 3);
        stops(x, "g3|g2|g4", 7);
        stops(x, "g9|".repeat(8) + "n1|t99", 3);
    }

    /** 13: 'behind 200 SECONDS at the latest'; '(an empty text is well)' */
    private static void atTheLatest() {
        PopPan x = three();
        stops(x, "", 200);
        stops(x, "n99|t200", 200);
        due("13: an empty RULE stops there, too", x.stop(1, SECONDS), 200);
        due("13: LEFT at the latest", x.stop(1, LEFT), 0);
        // (42 less 10) times 5, 119 times 3, 119 times 5, each by 10.
        due("13: LARGE at the latest", x.stop(1, LARGE), 16 + 35 + 59);
    }

    /** 13: behind t SECONDS second t less 1 is the last that counts. */
    private static void justGoneOrNotYet() {
        PopPan x = three();
        x.grain(3, 0, 1, 1, 0);
        int[] seconds = {2, 3, 4, 5, 6};
        int[] left = {4, 3, 3, 1, 0};
        int[] large = {0, 16, 16, 110, 110};
        int[] burnt = {0, 0, 0, 0, 1};
        for (int i = 0; i < seconds.length; i++) {
            Check.retype(x, 3, "t" + seconds[i]);
            due("13: LEFT after " + seconds[i], x.stop(2, LEFT), left[i]);
            due("13: LARGE after " + seconds[i], x.stop(2, LARGE), large[i]);
            due("13: BURNT after " + seconds[i], x.stop(2, BURNT), burnt[i]);
            due("13: BROWNED after " + seconds[i], x.stop(2, BROWNED), 0);
        }
        PopPan last = oneIn(199);
        due("13: in second 199 it goes", last.stop(0, LEFT), 0);
        Check.retype(last, 1, "t199");
        due("13: before that it is LEFT", last.stop(0, LEFT), 1);
    }

    /** 13: 'BROWNED ..: OPEN ones for which t less the SECOND in which they went is more than BROWN' (1 to 99) */
    private static void moreThanBrown() {
        int[] browns = {1, 2, 20, 98, 99};
        for (int brown : browns) {
            PopPan x = oneIn(4);
            x.set(2, brown);
            Check.retype(x, 1, "t" + (4 + brown));
            due("13: just BROWN " + brown, x.stop(0, BROWNED), 0);
            Check.retype(x, 1, "t" + (5 + brown));
            due("13: more than BROWN " + brown, x.stop(0, BROWNED), 1);
            due("13: it is not LEFT", x.stop(0, LEFT), 0);
            due("13: nor BURNT", x.stop(0, BURNT), 0);
            due("13: LARGE is kept", x.stop(0, LARGE), 35);
        }
        PopPan burnt = Pans.with("h99x9");
        burnt.grain(0, 0, 1, 1, 0);
        due("13: a BURNT one is not BROWNED", burnt.stop(0, BROWNED), 0);
        due("13: it is BURNT", burnt.stop(0, BURNT), 1);
        PopPan whole = new PopPan();
        whole.grain(0, 0, 1, 1, 0);
        due("13: a WHOLE one is not BROWNED", whole.stop(0, BROWNED), 0);
    }

    /** 13: 'WORTH: WIN times LARGE, less LOSE times LEFT, less HARM times BURNT and BROWNED together', each by itself. */
    private static void worthByNothing() {
        PopPan x = three();
        x.grain(3, 0, 1, 1, 0);
        x.grain(3, 0, 1, 1, 0);
        x.set(2, 2);
        Check.type(x, 1, "t6");
        int[] parts = {110, -1, -2};
        // One is LEFT; one is BURNT; of those that went in 2, 4, 4 the first is BROWNED.
        due("13: LEFT", x.stop(0, LEFT), 1);
        due("13: BURNT", x.stop(0, BURNT), 1);
        due("13: BROWNED", x.stop(0, BROWNED), 1);
        for (int what = 0; what < 3; what++) {
            for (int other = 3; other <= 5; other++) {
                x.set(other, 0);
            }
            due("13: WORTH by nothing", x.stop(0, WORTH), 0);
            x.set(3 + what, 1);
            due("13: WORTH by setting " + (3 + what), x.stop(0, WORTH), parts[what]);
            x.set(3 + what, 99);
            due("13: WORTH by the most of " + (3 + what), x.stop(0, WORTH), 99 * parts[what]);
        }
    }

    /** 13: '(5; as any number)': a WORTH of -1 to -4 is no refusal. */
    private static void worthLikeARefusal() {
        for (int grains = 1; grains <= 4; grains++) {
            PopPan x = new PopPan();
            x.set(4, 1);
            for (int g = 0; g < grains; g++) {
                x.grain(0, 0, 1, 1, 0);
            }
            due("13: WORTH is less than 0", x.stop(0, WORTH), -grains);
            Check.type(x, 1, "g0");
            due("13: with a FAULT", x.stop(0, WORTH), Pans.ANY_NOT);
            due("13: no such RULE", x.stop(3, WORTH), Pans.ANY_BAD);
        }
    }

    /** 13: twelve LEFT, BURNT or BROWNED by 99. */
    private static void worthAtItsEnds() {
        PopPan x = new PopPan();
        x.set(4, 99);
        x.set(5, 99);
        for (int g = 0; g < 12; g++) {
            x.grain(g % 4, 0, 20, 1, 0);
        }
        due("13: all are LEFT", x.stop(0, WORTH), -99 * 12);
        Check.type(x, 0, "h99x99;h99x99;h99x2");
        due("13: all are BURNT", x.stop(0, BURNT), 12);
        due("13: WORTH of BURNT ones", x.stop(0, WORTH), -99 * 12);
    }

    /** 14: 'the one with the most WORTH, of like ones the first' */
    private static void bestOfLikeOnes() {
        PopPan x = three();
        due("14: three like ones", x.best(), 0);
        String[] rules = {"t1", "t5", "t5"};
        for (int first = 0; first <= 2; first++) {
            PopPan y = three();
            for (int rule = 0; rule <= 2; rule++) {
                Check.type(y, 1 + rule, rules[(rule + first) % 3]);
            }
            due("14: WORTH of the worst", y.stop((3 - first) % 3, WORTH), -15);
            due("14: of two like ones, turned by " + first, y.best(), first == 0 ? 1 : 0);
        }
        PopPan below = new PopPan();
        below.grain(0, 0, 1, 1, 0);
        due("14: all below 0", below.best(), 0);
        due("14: no grains, all 0", new PopPan().best(), 0);
    }

    /** 14: 'BEST of RULES without a FAULT ..; NONE' */
    private static void bestWithoutAFault() {
        for (int faults = 0; faults <= 7; faults++) {
            PopPan x = new PopPan();
            int first = NONE;
            for (int rule = 2; rule >= 0; rule--) {
                boolean faulty = (faults >> rule & 1) == 1;
                Check.type(x, 1 + rule, faulty ? "t" : "t1");
                first = faulty ? first : rule;
            }
            due("14: FAULTS " + faults, x.best(), first);
        }
        PopPan x = three();
        Check.type(x, 1, "t5|");
        Check.type(x, 2, "t1");
        Check.type(x, 3, "t3");
        due("14: the better one has a FAULT", x.best(), 2);
        x.wipe(1);
        Check.type(x, 1, "t5");
        due("14: without it", x.best(), 0);
    }
}
