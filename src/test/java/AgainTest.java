import java.util.ArrayList;
import java.util.List;

/**
 * Questions (promises 9 to 24, 26, 33, 34) change nothing: what was asked before, of which pan and for how long, is of no
 * matter to the next answer. Each answer of an object that was asked much is compared with that of a new one.
 */
public final class AgainTest {
    private static final String[] PANS = {"h0x99;h0x94;h50x9", "h50x99", "h99x3;s;h40x9", "", "l;h30x20;s;s;o;h60x9", "h50x9;q",
        "h20x30;s;h20x30;s;h20x30"};
    private static final int[] SECONDS = {200, 1, 60, 7, 12};

    private AgainTest() {
    }

    public static void main(String[] args) {
        onePanAfterTheOther();
        longThenShort();
        moreGrainsThenFewer();
        shakenLateThenEarly();
        Check.end();
    }

    private static void addGrains(PopPan x, int many) {
        int[][] traits = {{0, 0, 20, 9, 0}, {0, 40, 10, 3, 0}, {0, 60, 5, 4, 6}, {1, 20, 9, 1, 3}, {1, 99, 20, 9, 9}, {3, 40, 1, 5, 0}};
        for (int g = 0; g < many; g++) {
            x.grain(traits[g][0], traits[g][1], traits[g][2], traits[g][3], traits[g][4]);
        }
        if (many > 1) {
            x.heard(1, 4);
        }
    }

    private static List<Long> answers(PopPan x, int t) {
        List<Long> all = new ArrayList<>();
        for (int g = 0; g < x.count(0); g++) {
            for (int what = 0; what <= 5; what++) {
                all.add((long) x.after(g, what % 2 == 0 ? t : 0, what));
            }
            all.add((long) x.after(g, 0, 2));
            all.add((long) x.late(g));
        }
        for (int what = 0; what <= 5; what++) {
            all.add((long) x.stop(what / 2, what));
            all.add((long) x.even(t, what % 3));
            all.add((long) x.front(t, what - 1));
            all.add((long) x.sieved(3, t, what % 4));
            all.add((long) x.air(t, what % 2));
            all.add((long) x.shaken(t, what % 2));
            all.add((long) x.fits(what % 5));
        }
        all.add((long) x.sounds(t - 1, true));
        all.add((long) x.best());
        all.add(x.digest());
        return all;
    }

    private static void alike(String remark, PopPan asked, PopPan unasked, int t) {
        List<Long> had = answers(asked, t);
        List<Long> due = answers(unasked, t);
        for (int i = 0; i < due.size(); i++) {
            Check.due(remark + ", answer " + i, had.get(i), due.get(i));
        }
        Check.due(remark + ", so many", had.size(), due.size());
    }

    // Two rounds of questions for each object: more would come near the 512 calls for which one is used.
    private static void onePanAfterTheOther() {
        for (int i = 0; i < PANS.length; i++) {
            for (int j = 0; j < PANS.length; j++) {
                int t = SECONDS[(i + j) % SECONDS.length];
                PopPan x = Pans.with(PANS[i]);
                addGrains(x, 6);
                answers(x, 200);
                Check.retype(x, 0, PANS[j]);
                PopPan y = Pans.with(PANS[j]);
                addGrains(y, 6);
                alike("9 to 34: '" + PANS[j] + "' for " + t, x, y, t);
            }
        }
    }

    private static void longThenShort() {
        for (String pan : PANS) {
            for (int i = 0; i < SECONDS.length; i++) {
                PopPan x = Pans.with(pan);
                addGrains(x, 6);
                answers(x, SECONDS[i]);
                int t = SECONDS[(i + 1) % SECONDS.length];
                PopPan y = Pans.with(pan);
                addGrains(y, 6);
                alike("9 to 34: " + t + " seconds of '" + pan + "'", x, y, t);
            }
        }
    }

    /** 18: the lowest one goes in second 4, then a shake helps the third; before that it was asked for second 199. */
    private static void shakenLateThenEarly() {
        PopPan x = Pans.with("s;s;h0x99;h0x96;h50x5");
        // It needs all of 129 less 9: shaken before it goes, it never does.
        x.set(0, 9);
        x.grain(0, 40, 14, 3, 0);
        x.grain(0, 0, 20, 1, 0);
        x.grain(0, 40, 10, 3, 0);
        Check.due("18: one is OPEN without a shake", x.shaken(200, 1), 1);
        Check.retype(x, 0, "h50x5;h90x2");
        Check.due("18: the SECOND after the first went", x.shaken(7, 0), 5);
        Check.due("18: both are OPEN", x.shaken(7, 1), 2);
    }

    private static void moreGrainsThenFewer() {
        for (String pan : PANS) {
            PopPan x = Pans.with(pan);
            for (int many = 6; many >= 0; many -= 2) {
                x.empty();
                addGrains(x, many);
                PopPan y = Pans.with(pan);
                addGrains(y, many);
                alike("5: " + many + " grains in '" + pan + "'", x, y, 60);
            }
        }
    }
}
