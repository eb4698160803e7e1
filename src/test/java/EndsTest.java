/**
 * For each number of each call: the last that is allowed and the first that is not, on both ends.
 * The promise's number leads each remark. What is allowed is asked of new objects of Pans.ready().
 */
public final class EndsTest {
    private static final int NONE = Pans.NONE, BAD = Pans.BAD, ANY_BAD = Pans.ANY_BAD;
    private static final int LOW = Pans.LOW, HIGH = Pans.HIGH;

    private EndsTest() {
    }

    public static void main(String[] args) {
        grains();
        settings();
        texts();
        goneOn();
        choices();
        jars();
        bags();
        heardOnes();
        sheets();
        items();
        soundsOnSheets();
        Check.end();
    }

    /** What is due at the least and at the most number; beside and far beyond them the call is refused. */
    private static void ends(String remark, Ask ask, int least, long atLeast, int most, long atMost, long refusal) {
        allowed(remark, ask, least, atLeast);
        allowed(remark, ask, most, atMost);
        int[] beyond = {least - 1, most + 1, LOW, HIGH};
        for (int v : beyond) {
            refused(remark, ask, v, refusal);
        }
    }

    private static void allowed(String remark, Ask ask, int v, long want) {
        Check.due(remark + " " + v, ask.of(Pans.ready(), v), want);
    }

    private static void refused(String remark, Ask ask, int v, long refusal) {
        Check.due(remark + " " + v + " is refused", ask.of(Pans.ready(), v), refusal);
    }

    private static void grains() {
        ends("2: PLACE", (x, v) -> x.grain(v, 1, 1, 1, 1), 0, 3, 3, 3, BAD);
        ends("2: WATER", (x, v) -> x.grain(0, v, 1, 1, 1), 0, 3, 99, 3, BAD);
        ends("2: SKIN", (x, v) -> x.grain(0, 1, v, 1, 1), 1, 3, 20, 3, BAD);
        ends("2: SIZE", (x, v) -> x.grain(0, 1, 1, v, 1), 1, 3, 9, 3, BAD);
        ends("2: CRACK", (x, v) -> x.grain(0, 1, 1, 1, v), 0, 3, 9, 3, BAD);
        // Sheet 3 has 60 items, but the first four make no grain (SIZE 0).
        ends("3: SHEET", (x, v) -> x.read(v, 0), 0, 1, 3, 0, BAD);
        ends("3: PLACE", (x, v) -> x.read(0, v), 0, 1, 3, 1, BAD);
        ends("4: GRAIN", (x, v) -> x.change(v, 1, 7), 0, 10, 2, 1, BAD);
        ends("4: what", (x, v) -> x.change(0, v, 5), 0, 40, 3, 0, BAD);
        ends("4: WATER", (x, v) -> x.change(0, 0, v), 0, 40, 99, 40, BAD);
        ends("4: SKIN", (x, v) -> x.change(0, 1, v), 1, 10, 20, 10, BAD);
        ends("4: SIZE", (x, v) -> x.change(0, 2, v), 1, 3, 9, 3, BAD);
        ends("4: CRACK", (x, v) -> x.change(0, 3, v), 0, 0, 9, 0, BAD);
    }

    private static void settings() {
        ends("6: what", (x, v) -> x.set(v, 10), 0, 10, 5, 9, BAD);
        ends("6: AIR", (x, v) -> x.set(0, v), 0, 10, 99, 10, BAD);
        ends("6: STRENGTH", (x, v) -> x.set(1, v), 5, 10, 15, 10, BAD);
        ends("6: BROWN", (x, v) -> x.set(2, v), 1, 20, 99, 20, BAD);
        ends("6: WIN", (x, v) -> x.set(3, v), 0, 1, 99, 1, BAD);
        ends("6: LOSE", (x, v) -> x.set(4, v), 0, 5, 99, 5, BAD);
        ends("6: HARM", (x, v) -> x.set(5, v), 0, 9, 99, 9, BAD);
    }

    private static void texts() {
        ends("7: text", (x, v) -> x.type(v, 's'), 0, 7, 3, 3, BAD);
        ends("7: byte of THE PAN", (x, v) -> x.type(0, v), 0, 7, 255, 7, BAD);
        ends("7: byte of a RULE", (x, v) -> x.type(1, v), 0, 1, 255, 1, BAD);
        ends("8: text", (x, v) -> x.wipe(v), 0, 6, 3, 2, BAD);
        ends("9: text", (x, v) -> x.fault(v), 0, NONE, 3, NONE, BAD);
        ends("10: SECOND", (x, v) -> x.pan(v, 0), 0, 50, 199, 0, BAD);
        ends("10: what", (x, v) -> x.pan(0, v), 0, 50, 2, 0, BAD);
    }

    private static void goneOn() {
        ends("11: GRAIN", (x, v) -> x.after(v, 5, 4), 0, 4, 2, 2, BAD);
        ends("11: t", (x, v) -> x.after(0, v, 0), 0, 0, 200, 229, BAD);
        ends("11: what", (x, v) -> x.after(0, 5, v), 0, 229, 5, 35, BAD);
        ends("12: SECOND", (x, v) -> x.sounds(v, false), 0, 0, 199, 0, BAD);
        ends("12: SECOND, up to it", (x, v) -> x.sounds(v, true), 0, 0, 199, 2, BAD);
        ends("13: RULE", (x, v) -> x.stop(v, 0), 0, 200, 2, 3, ANY_BAD);
        // After 5 seconds 35 and 16 are LARGE, one is LEFT.
        ends("13: what", (x, v) -> x.stop(1, v), 0, 5, 5, 35 + 16 - 5, ANY_BAD);
    }

    private static void choices() {
        ends("15: t", (x, v) -> x.even(v, 1), 1, 0, 200, 2, BAD);
        ends("15: what", (x, v) -> x.even(1, v), 0, 1, 2, 0, BAD);
        ends("16: t", (x, v) -> x.front(v, 99), 1, NONE, 200, NONE, BAD);
        allowed("16: i", (x, v) -> x.front(1, v), -1, 99);
        refused("16: i", (x, v) -> x.front(1, v), -2, BAD);
        refused("16: i", (x, v) -> x.front(1, v), LOW, BAD);
        allowed("16: i", (x, v) -> x.front(1, v), 0, 1);
        allowed("16: i", (x, v) -> x.front(1, v), 98, 99);
        allowed("16: i", (x, v) -> x.front(1, v), 99, NONE);
        allowed("16: i", (x, v) -> x.front(1, v), HIGH, NONE);
        // With AIR 33 presses 129 and 86: 96 times 3 and 53 times 5 by 10.
        ends("17: t", (x, v) -> x.air(v, 1), 1, 0, 200, 28 + 26, BAD);
        ends("17: what", (x, v) -> x.air(200, v), 0, 33, 1, 28 + 26, BAD);
        ends("18: t", (x, v) -> x.shaken(v, 1), 1, 0, 200, 2, BAD);
        ends("18: what", (x, v) -> x.shaken(5, v), 0, NONE, 1, 2, BAD);
        ends("19: GRAIN", (x, v) -> x.late(v), 0, 0, 2, 0, ANY_BAD);
        ends("20: SIZE", (x, v) -> x.sieved(v, 5, 0), 1, 2, 9, 0, BAD);
        ends("20: t", (x, v) -> x.sieved(1, v, 0), 1, 0, 200, 2, BAD);
        ends("20: what", (x, v) -> x.sieved(1, 5, v), 0, 2, 3, 0, BAD);
    }

    private static void jars() {
        ends("21: WATER", (x, v) -> x.jar(v, 0, 0), 0, 0, 99, 99, BAD);
        ends("21: DAMP", (x, v) -> x.jar(50, v, 60), 0, 0, 99, 99, BAD);
        ends("21: days", (x, v) -> x.jar(99, 0, v), 0, 99, 60, 0, BAD);
        ends("22: WATER", (x, v) -> x.length(v, 50, 0, 99), 0, 0, 99, 0, BAD);
        ends("22: DAMP", (x, v) -> x.length(50, v, 0, 99), 0, 0, 99, 0, BAD);
        // 50, 37, 27, 20, 15, 11, 8, 6, 4, 3, 2, 1, 0.
        ends("22: from", (x, v) -> x.length(50, 0, v, 99), 0, 0, 99, NONE, BAD);
        ends("22: to", (x, v) -> x.length(50, 0, 0, v), 0, 12, 99, 0, BAD);
        ends("22: from no more than to", (x, v) -> x.length(50, 0, v, 50), 0, 0, 50, 0, BAD);
        ends("22: to no less than from", (x, v) -> x.length(50, 0, 50, v), 50, 0, 99, 0, BAD);
    }

    private static void bags() {
        long bad = Pans.LONG_BAD;
        ends("23: N", (x, v) -> x.cracked(v, 0, 0, 0, 0), 1, 1, 30, 1, bad);
        ends("23: c of 30", (x, v) -> x.cracked(30, v, 1, 1, 0), 0, 0, 30, 1, bad);
        ends("23: c of 1", (x, v) -> x.cracked(1, v, 1, 1, 0), 0, 0, 1, 1, bad);
        ends("23: n of 30", (x, v) -> x.cracked(30, 1, v, 0, 0), 0, 1, 30, 0, bad);
        ends("23: n of 1", (x, v) -> x.cracked(1, 1, v, 0, 0), 0, 1, 1, 0, bad);
        ends("23: k of 15", (x, v) -> x.cracked(30, 15, 15, v, 1), 0, 155117520, 15, 155117520, bad);
        ends("23: k of 0", (x, v) -> x.cracked(30, 15, 0, v, 0), 0, 1, 0, 1, bad);
        ends("23: what", (x, v) -> x.cracked(5, 2, 2, 1, v), 0, 3, 1, 5, bad);
        ends("24: N", (x, v) -> x.span(v, 0, 0, 0, 1), 1, 1, 30, 30, BAD);
        ends("24: n of 30", (x, v) -> x.span(30, v, 0, 0, 1), 0, 30, 30, 0, BAD);
        ends("24: n of 1", (x, v) -> x.span(1, v, 0, 0, 1), 0, 1, 1, 0, BAD);
        ends("24: k of 15", (x, v) -> x.span(30, 15, v, 0, 0), 0, 0, 15, 15, BAD);
        ends("24: k of 0", (x, v) -> x.span(30, 0, v, 0, 0), 0, 0, 0, 0, BAD);
        ends("24: x", (x, v) -> x.span(2, 1, 1, v, 0), 0, 1, 255, 2, BAD);
        ends("24: end", (x, v) -> x.span(5, 2, 1, 0, v), 0, 1, 1, 4, BAD);
    }

    private static void heardOnes() {
        ends("25: GRAIN", (x, v) -> x.heard(v, 7), 0, 2, 2, 2, BAD);
        ends("25: SECOND", (x, v) -> x.heard(0, v), 0, 2, 199, 2, BAD);
        ends("26: what", (x, v) -> x.fits(v), 0, 10, 4, 0, BAD);
    }

    private static void sheets() {
        ends("27: SHEET", (x, v) -> x.sheet(v, 0, 7), 0, 7, 3, 7, BAD);
        ends("27: FORM", (x, v) -> x.sheet(0, v, 7), 0, 7, 2, 7, BAD);
        for (int form = 0; form <= 2; form++) {
            int f = form;
            allowed("27: items of FORM " + f, (x, v) -> x.sheet(0, f, v), 0, 0);
            allowed("27: items of FORM " + f, (x, v) -> x.sheet(0, f, v), 60, 60);
            refused("27: items of FORM " + f, (x, v) -> x.sheet(0, f, v), 61, BAD);
            refused("27: items of FORM " + f, (x, v) -> x.sheet(0, f, v), HIGH, BAD);
            refused("27: items of FORM " + f, (x, v) -> x.sheet(0, f, v), -1, Pans.SIZE);
            refused("27: items of FORM " + f, (x, v) -> x.sheet(0, f, v), LOW, Pans.SIZE);
        }
        ends("28: SHEET", (x, v) -> x.lose(v), 0, 4, 3, 60, BAD);
        ends("33: what", (x, v) -> x.count(v), 0, 3, 8, 0, BAD);
    }

    private static void items() {
        // Sheet 0 is of FORM 0, sheet 3 of FORM 2.
        ends("29: SHEET", (x, v) -> x.lay(v, v == 0 ? 0 : 2, 0, 1), 0, 1, 3, 1, BAD);
        ends("29: FORM", (x, v) -> x.lay(0, v, 0, 1), 0, 1, 2, Pans.CAST, BAD);
        ends("29: item of 60", (x, v) -> x.lay(3, 2, v, 1), 0, 1, 59, 1, Pans.INDEX);
        ends("29: item of 4", (x, v) -> x.lay(0, 0, v, 1), 0, 1, 3, 1, Pans.INDEX);
        ends("30: SHEET", (x, v) -> x.get(v, v == 0 ? 0 : 2, 0), 0, 30, 3, 30, LOW);
        ends("30: FORM", (x, v) -> x.get(3, v, 0), 2, 30, 2, 30, LOW);
        ends("30: item of 60", (x, v) -> x.get(3, 2, v), 0, 30, 59, 77, LOW);
        ends("30: item of 4", (x, v) -> x.get(0, 0, v), 0, 30, 3, 3, LOW);
        ends("31: from SHEET", (x, v) -> x.copy(v, 0, v == 0 ? 0 : 3, 0, 1), 0, 1, 3, 1, BAD);
        ends("31: to SHEET", (x, v) -> x.copy(v == 0 ? 0 : 3, 0, v, 0, 1), 0, 1, 3, 1, BAD);
        ends("31: from item, one of 60", (x, v) -> x.copy(3, v, 3, 0, 1), 0, 1, 59, 1, Pans.INDEX);
        ends("31: to item, one of 60", (x, v) -> x.copy(3, 0, 3, v, 1), 0, 1, 59, 1, Pans.INDEX);
        ends("31: from item, none of 60", (x, v) -> x.copy(3, v, 3, 0, 0), 0, 1, 60, 1, Pans.INDEX);
        ends("31: to item, none of 60", (x, v) -> x.copy(3, 0, 3, v, 0), 0, 1, 60, 1, Pans.INDEX);
        ends("31: how many of 60", (x, v) -> x.copy(3, 0, 3, 0, v), 0, 1, 60, 1, Pans.INDEX);
        ends("31: how many, from 20 on", (x, v) -> x.copy(3, 20, 3, 0, v), 0, 1, 40, 1, Pans.INDEX);
        ends("31: how many, to 20 on", (x, v) -> x.copy(3, 0, 3, 20, v), 0, 1, 40, 1, Pans.INDEX);
        ends("31: how many, behind the last", (x, v) -> x.copy(3, 60, 3, 60, v), 0, 1, 0, 1, Pans.INDEX);
    }

    private static void soundsOnSheets() {
        ends("32: SECOND", (x, v) -> x.write(v, 3), 0, 60, 199, 1, BAD);
        ends("32: SHEET", (x, v) -> x.write(0, v), 0, 4, 3, 60, BAD);
    }
}
