/** Boundary cases that the document names for promises 1 to 6: new objects, grains, settings. */
public final class EdgesOfGrainsTest {
    private static final int NONE = Pans.NONE, BAD = Pans.BAD, FULL = Pans.FULL;
    private static final int[] LEAST = {0, 1, 1, 0};
    private static final int[] MOST = {99, 20, 9, 9};

    private EdgesOfGrainsTest() {
    }

    public static void main(String[] args) {
        newObject();
        newSettings();
        twelveGrains();
        fourPlaces();
        oneAboveTheOther();
        wholeGrainsOfASheet();
        grainsThatMayBe();
        roomForRead();
        readLeavesTheSheet();
        asAtFirst();
        emptyOnes();
        heardIsForgotten();
        whatItWas();
        fiveHundredAndTwelveCalls();
        Check.end();
    }

    private static void due(String call, long got, long want) {
        Check.due(call, got, want);
    }

    /** 1: 'No GRAINS; all SHEETS are LOST.' */
    private static void newObject() {
        for (int what = 0; what <= 8; what++) {
            due("1: count " + what, new PopPan().count(what), 0);
        }
        PopPan x = new PopPan();
        for (int s = 0; s <= 3; s++) {
            due("1: sheet " + s + " is LOST", x.lose(s), Pans.NULL);
            due("1: text " + s + " is empty and well", x.fault(s), NONE);
        }
        for (int rule = 0; rule <= 2; rule++) {
            int[] told = {200, 0, 0, 0, 0, 0};
            for (int what = 0; what <= 5; what++) {
                due("1: rule " + rule + ", " + what, x.stop(rule, what), told[what]);
            }
        }
        for (int what = 0; what <= 2; what++) {
            due("1: the pan is cold, not shaken, without a lid, " + what, x.pan(0, what) + x.pan(199, what), 0);
        }
        due("1: no GRAIN 0", x.after(0, 0, 0), BAD);
        due("1: no SOUND", x.sounds(199, true), 0);
        due("1: nothing was HEARD", x.fits(0), Pans.NOT);
        due("1: none to take out", x.empty(), 0);
    }

    /** 1, 6: 'AIR (10 at first), STRENGTH (10), BROWN (20)'; 'WIN, LOSE, HARM (1, 5, 9 at first)'. */
    private static void newSettings() {
        PopPan x = new PopPan();
        int[] first = {10, 10, 20, 1, 5, 9};
        for (int what = 0; what <= 5; what++) {
            due("6: at first, " + what, x.set(what, 7), first[what]);
            due("6: another object's, " + what, new PopPan().set(what, 7), first[what]);
        }
    }

    /** 2: 'GRAINS, 12 at most'; also if all lie in one place. */
    private static void twelveGrains() {
        for (int place = 0; place <= 3; place++) {
            PopPan x = new PopPan();
            for (int g = 0; g < 12; g++) {
                due("2: grain " + g + " in place " + place, x.grain(place, 50, 10, 5, 5), g);
            }
            due("2: the 13th in place " + place, x.grain(place, 50, 10, 5, 5), FULL);
            due("2: the 13th in another", x.grain(3 - place, 50, 10, 5, 5), FULL);
            due("2: twelve stay", x.count(0), 12);
            due("2: the last one is there", x.after(11, 0, 1), 50);
            due("2: no number 12", x.after(12, 0, 1), BAD);
            due("5: all twelve are taken out", x.empty(), 12);
            due("2: room again", x.grain(place, 50, 10, 5, 5), 0);
        }
    }

    /** 2: 'lie in PLACES 0 to 3': four that do not touch one another. */
    private static void fourPlaces() {
        PopPan x = Pans.with("h99x1");
        for (int place = 0; place <= 3; place++) {
            x.grain(place, 0, 1, 1, 0);
        }
        for (int place = 0; place <= 3; place++) {
            x.grain(3 - place, 0, 1, 1, 0);
        }
        for (int place = 0; place <= 3; place++) {
            due("2: the lowest of place " + place, x.after(place, 1, 0), 96);
            due("2: the one above it in place " + (3 - place), x.after(4 + place, 1, 0), 48);
        }
    }

    /** 2: 'one above the other as they were told (the first at the bottom)': halves of 99 less their 32nd. */
    private static void oneAboveTheOther() {
        PopPan x = Pans.with("h99x1");
        int[] warmth = {96, 48, 24, 12, 6, 3, 1, 0, 0, 0, 0, 0};
        for (int g = 0; g < 12; g++) {
            x.grain(2, 0, 1, 1, 0);
        }
        for (int g = 0; g < 12; g++) {
            due("2: grain " + g + " of a full place", x.after(g, 1, 0), warmth[g]);
        }
    }

    private static void lay(PopPan x, int s, int form, int... items) {
        x.sheet(s, form, items.length);
        for (int i = 0; i < items.length; i++) {
            x.lay(s, form, i, items[i]);
        }
    }

    /** 3: 'its items, four for each, as many as are whole': 0, 3, 4, 7, 8, 11, 12 items. */
    private static void wholeGrainsOfASheet() {
        int[] items = {0, 1, 3, 4, 5, 7, 8, 11, 12, 47, 48};
        for (int n : items) {
            PopPan x = new PopPan();
            x.sheet(0, 0, n);
            for (int i = 0; i < n; i++) {
                x.lay(0, 0, i, 1 + i % 4);
            }
            due("3: of " + n + " items", x.read(0, 3), n / 4);
            due("3: came of " + n, x.count(0), n / 4);
        }
        for (int form = 0; form <= 2; form++) {
            PopPan x = new PopPan();
            lay(x, 3, form, 99, 20, 9, 8, 1, 2, 3, 4);
            due("3: FORM " + form, x.read(3, 0), 2);
            int[] first = {99, 20, 9, 8};
            for (int what = 0; what <= 3; what++) {
                due("3: trait " + what + " by FORM " + form, x.change(0, what, 1), first[what]);
                due("3: of the second, trait " + what, x.change(1, what, 1), what + 1);
            }
        }
    }

    /** 3: 'as long as each may be': each of the four at its ends and beside them, in the second of three. */
    private static void grainsThatMayBe() {
        for (int what = 0; what <= 3; what++) {
            int[] values = {LEAST[what] - 1, LEAST[what], MOST[what], MOST[what] + 1, -32768, 32767};
            int[] came = {1, 3, 3, 1, 1, 1};
            for (int i = 0; i < values.length; i++) {
                PopPan x = new PopPan();
                int[] items = {1, 1, 1, 1, 2, 2, 2, 2, 3, 3, 3, 3};
                items[4 + what] = values[i];
                lay(x, 0, 1, items);
                due("3: trait " + what + " is " + values[i], x.read(0, 1), came[i]);
                due("3: so many lie there", x.count(0), came[i]);
                due("3: it is no FINDING", x.count(8), 0);
            }
        }
        PopPan x = new PopPan();
        lay(x, 0, 2, 1 << 16, 1, 1, 1);
        due("3: an int is taken as it is", x.read(0, 0), 0);
        lay(x, 0, 0, 228, 1, 1, 1);
        due("3: a byte with its sign", x.read(0, 0), 0);
    }

    /** 3: 'and there is room': 0, 1, 10, 11, 12 lie there already. */
    private static void roomForRead() {
        int[] before = {0, 1, 9, 10, 11, 12};
        for (int n : before) {
            PopPan x = new PopPan();
            for (int g = 0; g < n; g++) {
                x.grain(0, 1, 1, 1, 1);
            }
            x.sheet(0, 0, 60);
            for (int i = 0; i < 60; i++) {
                x.lay(0, 0, i, 5);
            }
            due("3: 15 for room behind " + n, x.read(0, 3), 12 - n);
            due("3: full behind " + n, x.count(0), 12);
            due("3: again", x.read(0, 3), 0);
            due("3: still full", x.count(0), 12);
        }
    }

    /** 3: the SHEET stays as it was, and the first that came is the lowest. */
    private static void readLeavesTheSheet() {
        PopPan x = Pans.with("h99x1");
        lay(x, 0, 0, 0, 5, 4, 3, 0, 7, 8, 9);
        due("3: two", x.read(0, 1), 2);
        int[] items = {0, 5, 4, 3, 0, 7, 8, 9};
        for (int i = 0; i < items.length; i++) {
            due("3: item " + i + " stays", x.get(0, 0, i), items[i]);
        }
        due("3: the first is the lowest", x.after(0, 1, 0), 96);
        due("3: the second above it", x.after(1, 1, 0), 48);
        due("3: two more, above these", x.read(0, 1), 2);
        due("3: the third", x.after(2, 1, 0), 24);
        due("3: still eight items", x.lose(0), 8);
    }

    /** 4: 'of a GRAIN, as at first: what it was': what it has by now in the pan is not told or changed. */
    private static void asAtFirst() {
        PopPan x = Pans.with("h50x3");
        x.grain(0, 40, 20, 1, 5);
        x.grain(1, 7, 20, 1, 5);
        due("4: it has leaked", x.after(0, 3, 1), 38);
        due("4: what it was at first", x.change(0, 0, 40), 40);
        due("4: again", x.change(0, 0, 99), 40);
        due("33: WATER at first together", x.count(7), 106);
        due("4: by the new one", x.after(0, 0, 1), 99);
        due("4: the other stays", x.after(1, 0, 1), 7);
        for (int what = 0; what <= 3; what++) {
            x.change(0, what, MOST[what]);
            due("4: a like one, " + what, x.change(0, what, MOST[what]), MOST[what]);
            due("4: the least, " + what, x.change(0, what, LEAST[what]), MOST[what]);
            due("4: the most, " + what, x.change(0, what, MOST[what]), LEAST[what]);
        }
        due("4: its place stays", x.after(0, 1, 0), 49);
    }

    /** 5: 'All GRAINS are taken out: how many there were'; sheets, texts, settings and the finding stay. */
    private static void emptyOnes() {
        PopPan x = Pans.ready();
        x.lose(2);
        x.set(0, 33);
        due("5: three", x.empty(), 3);
        due("5: none", x.empty(), 0);
        int[] counts = {0, 6, 0, 2, 2, 99, 0, 0, 1};
        for (int what = 0; what <= 8; what++) {
            due("5: count " + what, x.count(what), counts[what]);
        }
        due("5: a sheet stays", x.get(3, 2, 59), 77);
        due("5: AIR stays", x.set(0, 10), 33);
        due("5: no GRAIN 0", x.change(0, 0, 1), BAD);
        due("5: none LEFT", x.stop(0, 1), 0);
    }

    /** 5: '(what was HEARD is forgotten, too)': it does not come back with new grains. */
    private static void heardIsForgotten() {
        PopPan x = Pans.full();
        due("5: twelve were HEARD", x.count(6), 12);
        x.empty();
        due("5: none was HEARD", x.count(6), 0);
        due("5: fits() is NOT", x.fits(3), Pans.NOT);
        x.grain(0, 40, 10, 3, 0);
        due("5: still none", x.fits(3), Pans.NOT);
        due("5: the first again", x.heard(0, 5), 1);
    }

    /** 'An object is used for at most 512 calls': the 512th still answers as the first did. */
    private static void fiveHundredAndTwelveCalls() {
        PopPan x = new PopPan();
        int calls = 0;
        for (int i = 0; i < 3; i++) {
            x.grain(i, 40, 10, 3, 0);
            calls++;
        }
        String pan = "h50x99";
        Check.type(x, 0, pan);
        calls += pan.length();
        long first = x.digest();
        calls++;
        while (calls < 511) {
            due("11: call " + calls, x.after(calls % 3, 200, 4), 4);
            calls++;
        }
        due("34: call 512", x.digest(), first);
    }

    /** 6: each setting is kept by itself. */
    private static void whatItWas() {
        PopPan x = new PopPan();
        for (int what = 0; what <= 5; what++) {
            x.set(what, 6 + what);
        }
        for (int what = 0; what <= 5; what++) {
            due("6: what it was, " + what, x.set(what, 15 - what), 6 + what);
            due("6: a refused one, " + what, x.set(what, 100), BAD);
            due("6: it is kept, " + what, x.set(what, 12), 15 - what);
        }
    }
}
