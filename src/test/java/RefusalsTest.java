/**
 * Refused calls, promise by promise: each answer, which refusal comes first if several fit, and that nothing is changed
 * (FINDINGS: but count() 8). Each is tried on an object with room and on one that is full.
 */
public final class RefusalsTest {
    private static final int BAD = Pans.BAD, NOT = Pans.NOT, FULL = Pans.FULL;
    private static final int NULL = Pans.NULL, INDEX = Pans.INDEX, CAST = Pans.CAST, STORE = Pans.STORE, SIZE = Pans.SIZE;
    private static final int ANY_BAD = Pans.ANY_BAD, ANY_NOT = Pans.ANY_NOT, LOW = Pans.LOW, HIGH = Pans.HIGH;
    private static final int NO_FINDING = 0;

    private RefusalsTest() {
    }

    public static void main(String[] args) {
        grains();
        grainsWithoutRoom();
        settings();
        texts();
        textsWithoutRoom();
        questions();
        choices();
        jarsAndBags();
        heardOnes();
        nothingHeard();
        faults();
        lostSheets();
        otherFindings();
        badSheets();
        firstThatFits();
        latestFinding();
        Check.end();
    }

    private static void refused(String remark, Ask ask, int v, long answer, int finding) {
        PopPan x = Pans.ready();
        Check.due(remark + " " + v, ask.of(x, v), answer);
        Pans.unchanged(remark + " " + v, x, Pans.ready(), finding);
        PopPan full = Pans.full();
        Check.due(remark + " " + v + ", full", ask.of(full, v), answer);
        Pans.unchanged(remark + " " + v + ", full", full, Pans.full(), finding);
    }

    private static void bad(String remark, Ask ask, int... wrong) {
        for (int v : wrong) {
            refused(remark, ask, v, BAD, NO_FINDING);
        }
    }

    private static void grains() {
        bad("2: PLACE", (x, v) -> x.grain(v, 1, 1, 1, 1), -1, 4);
        bad("2: WATER", (x, v) -> x.grain(0, v, 1, 1, 1), -1, 100);
        bad("2: SKIN", (x, v) -> x.grain(0, 1, v, 1, 1), 0, 21);
        bad("2: SIZE", (x, v) -> x.grain(0, 1, 1, v, 1), 0, 10);
        bad("2: CRACK", (x, v) -> x.grain(0, 1, 1, 1, v), -1, 10);
        bad("3: SHEET", (x, v) -> x.read(v, 0), -1, 4);
        bad("3: PLACE", (x, v) -> x.read(0, v), -1, 4);
        bad("4: GRAIN", (x, v) -> x.change(v, 0, 50), -1, 12);
        bad("4: what", (x, v) -> x.change(0, v, 5), -1, 4);
        bad("4: WATER", (x, v) -> x.change(1, 0, v), -1, 100);
        bad("4: SKIN", (x, v) -> x.change(1, 1, v), 0, 21);
        bad("4: SIZE", (x, v) -> x.change(1, 2, v), 0, 10);
        bad("4: CRACK", (x, v) -> x.change(1, 3, v), -1, 10);
    }

    private static void grainsWithoutRoom() {
        PopPan x = Pans.full();
        Check.due("2: the 13th GRAIN", x.grain(3, 50, 10, 5, 5), FULL);
        Pans.unchanged("2: the 13th GRAIN", x, Pans.full(), NO_FINDING);
        PopPan y = Pans.full();
        Check.due("3: no room is no refusal", y.read(0, 3), 0);
        Pans.unchanged("3: no room", y, Pans.full(), NO_FINDING);
    }

    private static void settings() {
        bad("6: what", (x, v) -> x.set(v, 11), -1, 6);
        bad("6: AIR", (x, v) -> x.set(0, v), -1, 100);
        bad("6: STRENGTH", (x, v) -> x.set(1, v), 4, 16);
        bad("6: BROWN", (x, v) -> x.set(2, v), 0, 100);
        bad("6: WIN", (x, v) -> x.set(3, v), -1, 100);
        bad("6: LOSE", (x, v) -> x.set(4, v), -1, 100);
        bad("6: HARM", (x, v) -> x.set(5, v), -1, 100);
    }

    private static void texts() {
        bad("7: text", (x, v) -> x.type(v, 'q'), -1, 4);
        for (int text = 0; text <= 3; text++) {
            int of = text;
            bad("7: byte of text " + of, (x, v) -> x.type(of, v), -1, 256);
        }
        bad("8: text", (x, v) -> x.wipe(v), -1, 4);
        bad("9: text", (x, v) -> x.fault(v), -1, 4);
        bad("10: SECOND", (x, v) -> x.pan(v, 0), -1, 200);
        bad("10: what", (x, v) -> x.pan(0, v), -1, 3);
    }

    private static void textsWithoutRoom() {
        for (int text = 0; text <= 3; text++) {
            PopPan x = Pans.full();
            Check.due("7: text " + text + " is full", x.count(text + 1), text == 0 ? 60 : 30);
            Check.due("7: text " + text + " is well", x.fault(text), Pans.NONE);
            Check.due("7: no room in text " + text, x.type(text, 'q'), FULL);
            Check.due("7: BAD before FULL, text " + text, x.type(text, 256), BAD);
            Pans.unchanged("7: no room in text " + text, x, Pans.full(), NO_FINDING);
        }
    }

    private static void questions() {
        bad("11: GRAIN", (x, v) -> x.after(v, 9, 0), -1, 12);
        bad("11: t", (x, v) -> x.after(0, v, 0), -1, 201);
        bad("11: what", (x, v) -> x.after(0, 9, v), -1, 6);
        bad("12: SECOND", (x, v) -> x.sounds(v, true), -1, 200);
        int[] rules = {-1, 3};
        int[] whats = {-1, 6};
        for (int i = 0; i <= 1; i++) {
            refused("13: RULE", (x, v) -> x.stop(v, 0), rules[i], ANY_BAD, NO_FINDING);
            refused("13: what", (x, v) -> x.stop(0, v), whats[i], ANY_BAD, NO_FINDING);
        }
    }

    private static void choices() {
        bad("15: t", (x, v) -> x.even(v, 0), 0, 201);
        bad("15: what", (x, v) -> x.even(9, v), -1, 3);
        bad("16: t", (x, v) -> x.front(v, 0), 0, 201);
        bad("16: i", (x, v) -> x.front(9, v), -2);
        bad("17: t", (x, v) -> x.air(v, 0), 0, 201);
        bad("17: what", (x, v) -> x.air(9, v), -1, 2);
        bad("18: t", (x, v) -> x.shaken(v, 0), 0, 201);
        bad("18: what", (x, v) -> x.shaken(9, v), -1, 2);
        refused("19: GRAIN", (x, v) -> x.late(v), -1, ANY_BAD, NO_FINDING);
        refused("19: GRAIN", (x, v) -> x.late(v), 12, ANY_BAD, NO_FINDING);
        bad("20: SIZE", (x, v) -> x.sieved(v, 9, 0), 0, 10);
        bad("20: t", (x, v) -> x.sieved(1, v, 0), 0, 201);
        bad("20: what", (x, v) -> x.sieved(1, 9, v), -1, 4);
    }

    private static void jarsAndBags() {
        bad("21: days", (x, v) -> x.jar(9, 9, v), -1, 61);
        bad("22: from more than to", (x, v) -> x.length(9, 9, v, v - 1), 1, 99);
        refused("23: N", (x, v) -> x.cracked(v, 0, 0, 0, 0), 0, Pans.LONG_BAD, NO_FINDING);
        refused("23: N", (x, v) -> x.cracked(v, 0, 0, 0, 1), 31, Pans.LONG_BAD, NO_FINDING);
        bad("24: N", (x, v) -> x.span(v, 0, 0, 0, 0), 0, 31);
        bad("24: x", (x, v) -> x.span(9, 3, 1, v, 0), -1, 256);
    }

    private static void heardOnes() {
        bad("25: GRAIN", (x, v) -> x.heard(v, 9), -1, 12);
        bad("25: SECOND", (x, v) -> x.heard(1, v), -1, 200);
        bad("26: what", (x, v) -> x.fits(v), -1, 5);
        PopPan x = Pans.full();
        Check.due("25: the 13th that is HEARD", x.heard(0, 9), FULL);
        Check.due("25: BAD before FULL, GRAIN", x.heard(12, 9), BAD);
        Check.due("25: BAD before FULL, SECOND", x.heard(0, 200), BAD);
        Pans.unchanged("25: the 13th that is HEARD", x, Pans.full(), NO_FINDING);
    }

    private static void nothingHeard() {
        PopPan x = new PopPan();
        x.grain(0, 40, 10, 3, 0);
        for (int what = 0; what <= 4; what++) {
            Check.due("26: nothing was HEARD, " + what, x.fits(what), NOT);
        }
        Check.due("26: BAD before NOT", x.fits(5), BAD);
        Check.due("26: BAD before NOT, below", x.fits(-1), BAD);
        x.heard(0, 0);
        Check.due("26: one was HEARD", x.fits(2), 0);
        x.empty();
        Check.due("26: it is forgotten", x.fits(2), NOT);
    }

    private static PopPan faulty() {
        PopPan x = Pans.ready();
        x.type(2, '|');
        return x;
    }

    /** 'a FAULT of a text that is asked, but of THE PAN' */
    private static void faults() {
        PopPan x = faulty();
        for (int what = 0; what <= 5; what++) {
            Check.due("13: a RULE with a FAULT, " + what, x.stop(1, what), ANY_NOT);
        }
        Check.due("13: BAD before NOT", x.stop(1, 6), ANY_BAD);
        Check.due("13: a RULE beside it", x.stop(2, 0), 3);
        Pans.unchanged("13: a RULE with a FAULT", x, faulty(), NO_FINDING);
        PopPan y = faulty();
        y.type(0, ';');
        Check.due("13: THE PAN with a FAULT refuses no RULE", y.stop(2, 0), 200);
        Check.due("11: nor after()", y.after(0, 200, 0), 0);
        Check.due("12: nor sounds()", y.sounds(199, true), 0);
        Check.due("14: nor best()", y.best(), 0);
        Check.due("17: nor air()", y.air(200, 1), 0);
        Check.due("18: nor shaken()", y.shaken(200, 0), Pans.NONE);
        Check.due("19: late() is NOT, as the grain does not go", y.late(0), ANY_NOT);
        Check.due("20: nor sieved()", y.sieved(1, 200, 2), 3);
        Check.due("26: nor fits()", y.fits(4), 200);
        Check.due("10: nor pan()", y.pan(0, 0), 0);
        Check.due("32: nor write()", y.write(0, 0), 4);
    }

    private static void lostSheets() {
        refused("3: the SHEET is LOST", (x, v) -> x.read(v, 0), 2, NULL, 1);
        refused("28: the SHEET is LOST", (x, v) -> x.lose(v), 2, NULL, 1);
        refused("29: the SHEET is LOST", (x, v) -> x.lay(v, 2, 0, 1), 2, NULL, 1);
        refused("30: the SHEET is LOST", (x, v) -> x.get(v, 2, 0), 2, LOW, 1);
        refused("31: s is LOST", (x, v) -> x.copy(v, 0, 3, 0, 1), 2, NULL, 1);
        refused("31: t is LOST", (x, v) -> x.copy(3, 0, v, 0, 1), 2, NULL, 1);
        refused("31: both are LOST", (x, v) -> x.copy(v, 0, v, 0, 0), 2, NULL, 1);
        refused("32: the SHEET is LOST", (x, v) -> x.write(0, v), 2, NULL, 1);
    }

    private static void otherFindings() {
        refused("27: SIZE", (x, v) -> x.sheet(3, 0, v), -1, SIZE, 5);
        refused("27: SIZE, far", (x, v) -> x.sheet(2, 0, v), LOW, SIZE, 5);
        refused("29: CAST", (x, v) -> x.lay(3, v, 0, 1), 1, CAST, 3);
        refused("29: INDEX", (x, v) -> x.lay(3, 2, v, 1), 60, INDEX, 2);
        refused("29: INDEX", (x, v) -> x.lay(3, 2, v, 1), -1, INDEX, 2);
        refused("30: CAST", (x, v) -> x.get(3, v, 0), 0, LOW, 3);
        refused("30: INDEX", (x, v) -> x.get(3, 2, v), 60, LOW, 2);
        refused("30: INDEX", (x, v) -> x.get(3, 2, v), -1, LOW, 2);
        refused("31: STORE", (x, v) -> x.copy(0, 0, v, 0, 1), 3, STORE, 4);
        refused("31: STORE with none", (x, v) -> x.copy(0, 0, v, 0, 0), 1, STORE, 4);
        refused("31: INDEX, i", (x, v) -> x.copy(3, v, 3, 2, 2), 59, INDEX, 2);
        refused("31: INDEX, j", (x, v) -> x.copy(3, 0, 3, v, 2), 59, INDEX, 2);
        refused("31: INDEX, i below 0", (x, v) -> x.copy(3, v, 3, 2, 2), -1, INDEX, 2);
        refused("31: INDEX, j below 0", (x, v) -> x.copy(3, 0, 3, v, 2), -1, INDEX, 2);
        refused("31: INDEX, n below 0", (x, v) -> x.copy(3, 5, 3, 2, v), -1, INDEX, 2);
        refused("31: INDEX, n far", (x, v) -> x.copy(3, 5, 3, 2, v), HIGH, INDEX, 2);
        refused("31: INDEX, i far", (x, v) -> x.copy(3, v, 3, 2, 1), HIGH, INDEX, 2);
    }

    private static void badSheets() {
        bad("27: SHEET", (x, v) -> x.sheet(v, 0, 1), -1, 4);
        bad("27: FORM", (x, v) -> x.sheet(0, v, 1), -1, 3);
        bad("27: above 60", (x, v) -> x.sheet(0, 0, v), 61);
        bad("28: SHEET", (x, v) -> x.lose(v), -1, 4);
        bad("29: SHEET", (x, v) -> x.lay(v, 0, 0, 1), -1, 4);
        bad("29: FORM", (x, v) -> x.lay(0, v, 0, 1), -1, 3);
        int[] sheets = {-1, 4};
        int[] forms = {-1, 3};
        for (int i = 0; i <= 1; i++) {
            refused("30: SHEET", (x, v) -> x.get(v, 0, 0), sheets[i], LOW, NO_FINDING);
            refused("30: FORM", (x, v) -> x.get(0, v, 0), forms[i], LOW, NO_FINDING);
        }
        bad("31: s", (x, v) -> x.copy(v, 0, 0, 0, 1), -1, 4);
        bad("31: t", (x, v) -> x.copy(0, 0, v, 0, 1), -1, 4);
        bad("32: SHEET", (x, v) -> x.write(0, v), -1, 4);
        bad("32: SECOND", (x, v) -> x.write(v, 0), -1, 200);
        bad("33: what", (x, v) -> x.count(v), -1, 9);
    }

    /** 'Refusals, the first that fits': BAD, NULL, NOT, FULL, other FINDINGS; of these as told at each act. */
    private static void firstThatFits() {
        bad("2: BAD before FULL", (x, v) -> x.grain(0, 1, 1, 1, v), 10);
        bad("3: BAD before NULL", (x, v) -> x.read(2, v), -1, 4);
        bad("27: SHEET before SIZE", (x, v) -> x.sheet(v, 0, -1), -1, 4);
        bad("27: FORM before SIZE", (x, v) -> x.sheet(0, v, -1), -1, 3);
        bad("29: FORM before NULL", (x, v) -> x.lay(2, v, 0, 1), -1, 3);
        bad("31: s before NULL", (x, v) -> x.copy(v, 0, 2, 0, 1), -1, 4);
        bad("31: t before NULL", (x, v) -> x.copy(2, 0, v, 0, 1), -1, 4);
        bad("32: SECOND before NULL", (x, v) -> x.write(v, 2), -1, 200);
        refused("29: NULL before INDEX", (x, v) -> x.lay(2, 2, v, 1), -1, NULL, 1);
        refused("29: CAST before INDEX", (x, v) -> x.lay(3, 0, v, 1), 60, CAST, 3);
        refused("30: FORM before NULL", (x, v) -> x.get(2, v, 0), 3, LOW, NO_FINDING);
        refused("30: NULL before INDEX", (x, v) -> x.get(2, 2, v), -1, LOW, 1);
        refused("30: CAST before INDEX", (x, v) -> x.get(3, 0, v), 60, LOW, 3);
        refused("31: NULL before STORE and INDEX", (x, v) -> x.copy(0, v, 2, v, v), -1, NULL, 1);
        refused("31: STORE before INDEX", (x, v) -> x.copy(0, v, 3, v, v), -1, STORE, 4);
    }

    /** 'the number of the latest FINDING (0 before any)': refusals that are no FINDINGS and what goes well leave it. */
    private static void latestFinding() {
        PopPan x = Pans.ready();
        Check.due("33: before any", x.count(8), 0);
        x.sheet(0, 0, -1);
        Check.due("33: 5", x.count(8), 5);
        x.copy(0, 0, 3, 0, 1);
        Check.due("33: 4", x.count(8), 4);
        x.get(0, 1, 0);
        Check.due("33: 3", x.count(8), 3);
        x.get(0, 0, 4);
        Check.due("33: 2", x.count(8), 2);
        x.lose(2);
        Check.due("33: 1", x.count(8), 1);
        x.get(0, 3, 4);
        x.grain(4, 1, 1, 1, 1);
        x.stop(0, 6);
        x.count(9);
        Check.due("33: BAD leaves it", x.count(8), 1);
        x.lay(0, 0, 0, 1);
        x.sheet(2, 2, 2);
        x.empty();
        x.wipe(0);
        Check.due("33: what goes well leaves it", x.count(8), 1);
        x.fits(0);
        Check.due("33: NOT leaves it", x.count(8), 1);
        x.copy(2, 0, 0, 0, 1);
        Check.due("33: the next one", x.count(8), 4);
    }
}
