import java.math.BigInteger;

/** Boundary cases that the document names for promises 27 to 34: sheets, counts, the digest. */
public final class EdgesOfSheetsTest {
    private static final int NULL = Pans.NULL, INDEX = Pans.INDEX, CAST = Pans.CAST, STORE = Pans.STORE;
    private static final int LOW = Pans.LOW, HIGH = Pans.HIGH;

    private EdgesOfSheetsTest() {
    }

    public static void main(String[] args) {
        noItemsAndSixty();
        aNewRow();
        lostOnes();
        sheetsOfTheirOwn();
        bytesWrapAround();
        shortsWrapAround();
        intsStay();
        otherForms();
        noSuchItem();
        copyAll();
        copyNone();
        copyNotSoMany();
        copyAsTheyWere();
        copyBetween();
        copyUnlikeForms();
        writeToTheLastSecond();
        writeToTheLastItem();
        writeByForms();
        writeLeavesTheRest();
        countsAtTheirEnds();
        latestFindings();
        digestOfNothing();
        digestThatWraps();
        digestBySeconds();
        digestChangesNothing();
        Check.end();
    }

    private static void due(String call, long got, long want) {
        Check.due(call, got, want);
    }

    /** 27: 'of 0 to 60 items (0 at first)' */
    private static void noItemsAndSixty() {
        for (int form = 0; form <= 2; form++) {
            PopPan x = new PopPan();
            due("27: none", x.sheet(3, form, 0), 0);
            due("30: no item 0 of none", x.get(3, form, 0), LOW);
            due("33: INDEX", x.count(8), 2);
            due("28: none were in it", x.lose(3), 0);
            due("27: sixty", x.sheet(3, form, 60), 60);
            for (int i = 0; i < 60; i++) {
                due("27: item " + i + " at first", x.get(3, form, i), 0);
            }
            due("28: sixty were in it", x.lose(3), 60);
            due("27: one", x.sheet(0, form, 1), 1);
            due("29: the only item", x.lay(0, form, 0, 5), 1);
            due("29: no second item", x.lay(0, form, 1, 5), INDEX);
        }
    }

    /** 27: 'A SHEET is a new row': what was in it is gone, and so are its FORM and length; a refused one changes nothing. */
    private static void aNewRow() {
        PopPan x = new PopPan();
        x.sheet(1, 0, 60);
        x.lay(1, 0, 0, 5);
        x.lay(1, 0, 59, 6);
        due("27: SIZE", x.sheet(1, 2, -1), Pans.SIZE);
        due("27: above 60", x.sheet(1, 2, 61), Pans.BAD);
        due("27: item 59 stays", x.get(1, 0, 59), 6);
        due("27: a shorter one", x.sheet(1, 2, 1), 1);
        due("27: 0 at first", x.get(1, 2, 0), 0);
        due("27: it has no item 59", x.get(1, 2, 59), LOW);
        due("27: a longer one", x.sheet(1, 2, 60), 60);
        due("27: item 59 is 0", x.get(1, 2, 59), 0);
        x.lay(1, 2, 59, 6);
        due("27: the same again", x.sheet(1, 2, 60), 60);
        due("27: its item 59 is 0", x.get(1, 2, 59), 0);
    }

    /** 28: 'It is LOST: how many items it had. BAD; NULL.' */
    private static void lostOnes() {
        PopPan x = new PopPan();
        x.sheet(2, 1, 9);
        x.lay(2, 1, 8, 7);
        due("28: nine", x.lose(2), 9);
        due("28: again", x.lose(2), NULL);
        due("29: nothing to lay", x.lay(2, 1, 0, 1), NULL);
        due("30: nothing to get", x.get(2, 1, 0), LOW);
        due("31: nothing to copy", x.copy(2, 0, 2, 0, 0), NULL);
        due("32: nothing to write to", x.write(0, 2), NULL);
        due("3: nothing to read", x.read(2, 0), NULL);
        x.sheet(2, 1, 9);
        due("28: what was lost does not come back", x.get(2, 1, 8), 0);
    }

    /** 27 to 29: SHEETS 0 to 3 are four rows. */
    private static void sheetsOfTheirOwn() {
        PopPan x = new PopPan();
        for (int s = 0; s <= 3; s++) {
            x.sheet(s, 2, 10 + s);
            x.lay(s, 2, 0, 100 + s);
        }
        for (int s = 0; s <= 3; s++) {
            due("29: item 0 of " + s, x.get(s, 2, 0), 100 + s);
        }
        for (int s = 0; s <= 3; s++) {
            due("28: items of " + s, x.lose(s), 10 + s);
        }
    }

    private static void wraps(int form, int v, int want) {
        PopPan x = new PopPan();
        x.sheet(0, form, 3);
        x.lay(0, form, 0, 1);
        x.lay(0, form, 2, 1);
        due("29: lay " + v + " of FORM " + form, x.lay(0, form, 1, v), 1);
        due("30: get " + v + " of FORM " + form, x.get(0, form, 1), want);
        due("30: beside it", x.get(0, form, 0) + x.get(0, form, 2), 2);
    }

    /** 29: '(the lowest bits that it has, with its sign)', of bytes. */
    private static void bytesWrapAround() {
        int[] values = {0, 1, -1, 127, 128, 255, 256, 257, -128, -129, -255, -256, -257, 32767, 32768, HIGH, LOW, 0x12345680};
        int[] kept = {0, 1, -1, 127, -128, -1, 0, 1, -128, 127, 1, 0, -1, -1, 0, -1, 0, -128};
        for (int i = 0; i < values.length; i++) {
            wraps(0, values[i], kept[i]);
        }
    }

    /** 29: the same of shorts. */
    private static void shortsWrapAround() {
        int[] values = {0, -1, 255, 256, 32767, 32768, 65535, 65536, 65537, -32768, -32769, -65535, -65536, HIGH, LOW, 0x12348000};
        int[] kept = {0, -1, 255, 256, 32767, -32768, -1, 0, 1, -32768, 32767, 1, 0, -1, 0, -32768};
        for (int i = 0; i < values.length; i++) {
            wraps(1, values[i], kept[i]);
        }
    }

    /** 29: ints have all bits; the least int is told as it is, without a finding. */
    private static void intsStay() {
        int[] values = {0, -1, 128, 32768, 65536, HIGH, LOW, LOW + 1, 0x12345678};
        for (int v : values) {
            wraps(2, v, v);
        }
        PopPan x = new PopPan();
        x.sheet(0, 2, 1);
        x.lay(0, 2, 0, LOW);
        due("30: the least int", x.get(0, 2, 0), LOW);
        due("33: it is no FINDING", x.count(8), 0);
        x.get(0, 2, 1);
        due("33: but this is", x.count(8), 2);
    }

    /** 29, 30: 'treated as of a FORM': CAST with each other one, and nothing is laid. */
    private static void otherForms() {
        for (int form = 0; form <= 2; form++) {
            for (int as = 0; as <= 2; as++) {
                PopPan x = new PopPan();
                x.sheet(0, form, 2);
                due("29: " + form + " as " + as, x.lay(0, as, 1, 7), form == as ? 1 : CAST);
                due("33: the finding of it", x.count(8), form == as ? 0 : 3);
                due("30: what lies there", x.get(0, form, 1), form == as ? 7 : 0);
                due("30: " + form + " as " + as, x.get(0, as, 0), form == as ? 0 : LOW);
                due("33: the finding of that", x.count(8), form == as ? 0 : 3);
            }
        }
    }

    /** 29, 30: 'INDEX: there is no such item' */
    private static void noSuchItem() {
        int[] lengths = {0, 1, 7, 60};
        for (int n : lengths) {
            int[] items = {-1, 0, n - 1, n, n + 1, 60, LOW, HIGH};
            for (int i : items) {
                PopPan x = new PopPan();
                x.sheet(0, 1, n);
                boolean there = i >= 0 && i < n;
                due("29: item " + i + " of " + n, x.lay(0, 1, i, 9), there ? 1 : INDEX);
                due("30: item " + i + " of " + n, x.get(0, 1, i), there ? 9 : LOW);
                due("33: the finding", x.count(8), there ? 0 : 2);
            }
        }
    }

    /** Sheet s of ints with items 1, 2, .. */
    private static PopPan counted(int n) {
        PopPan x = new PopPan();
        x.sheet(0, 2, n);
        for (int i = 0; i < n; i++) {
            x.lay(0, 2, i, i + 1);
        }
        return x;
    }

    /** 31: all 60, of one SHEET to another and to itself. */
    private static void copyAll() {
        PopPan x = counted(60);
        x.sheet(3, 2, 60);
        due("31: sixty", x.copy(0, 0, 3, 0, 60), 1);
        due("31: to itself", x.copy(0, 0, 0, 0, 60), 1);
        for (int i = 0; i < 60; i++) {
            due("31: item " + i, x.get(3, 2, i), i + 1);
            due("31: its own item " + i, x.get(0, 2, i), i + 1);
        }
        due("31: 61", x.copy(0, 0, 3, 0, 61), INDEX);
    }

    /** 31: '(with n 0, too, if i or j is above how many there are)' */
    private static void copyNone() {
        PopPan x = counted(5);
        x.sheet(1, 2, 3);
        x.sheet(2, 2, 0);
        due("31: none from 0 to 0", x.copy(0, 0, 1, 0, 0), 1);
        due("31: none from the end to the end", x.copy(0, 5, 1, 3, 0), 1);
        due("31: none from above", x.copy(0, 6, 1, 3, 0), INDEX);
        due("31: none to above", x.copy(0, 5, 1, 4, 0), INDEX);
        due("31: none from below", x.copy(0, -1, 1, 0, 0), INDEX);
        due("31: none to below", x.copy(0, 0, 1, -1, 0), INDEX);
        due("31: none of none", x.copy(2, 0, 2, 0, 0), 1);
        due("31: none of none, above", x.copy(2, 1, 2, 0, 0), INDEX);
        due("31: none of none, to above", x.copy(2, 0, 2, 1, 0), INDEX);
        due("31: one of none", x.copy(2, 0, 0, 0, 1), INDEX);
        due("31: one to none", x.copy(0, 0, 2, 0, 1), INDEX);
        due("31: none far above", x.copy(0, HIGH, 1, 0, 0), INDEX);
        due("31: none far below", x.copy(0, LOW, 1, 0, 0), INDEX);
        for (int i = 0; i < 5; i++) {
            due("31: all as it was, " + i, x.get(0, 2, i), i + 1);
        }
    }

    /** 31: 'INDEX: below 0, not so many', with sums that would wrap around. */
    private static void copyNotSoMany() {
        int[][] refused = {{0, 0, 6}, {1, 0, 5}, {0, 1, 5}, {4, 0, 2}, {0, 4, 2}, {5, 0, 1}, {0, 5, 1}, {0, 0, -1}, {0, 0, LOW},
            {0, 0, HIGH}, {1, 1, HIGH}, {5, 5, HIGH}, {HIGH, 0, 1}, {0, HIGH, 1}, {HIGH, HIGH, HIGH}, {HIGH, HIGH, 2}, {LOW, 0, 1},
            {0, LOW, 1}, {LOW, LOW, LOW}, {5, 5, -1}, {6, 0, -1}, {0, 6, -1}, {1, 1, -2}};
        for (int[] r : refused) {
            PopPan x = counted(5);
            due("31: from " + r[0] + " to " + r[1] + ", " + r[2], x.copy(0, r[0], 0, r[1], r[2]), INDEX);
            due("33: the finding", x.count(8), 2);
            for (int i = 0; i < 5; i++) {
                due("31: nothing came, " + i, x.get(0, 2, i), i + 1);
            }
        }
        int[][] well = {{0, 0, 5}, {1, 0, 4}, {0, 1, 4}, {4, 0, 1}, {0, 4, 1}, {2, 2, 3}};
        for (int[] w : well) {
            due("31: so many, from " + w[0] + " to " + w[1], counted(5).copy(0, w[0], 0, w[1], w[2]), 1);
        }
    }

    /** 31: '(perhaps s, as they were)': each way over itself. */
    private static void copyAsTheyWere() {
        for (int from = 0; from <= 6; from++) {
            for (int to = 0; to <= 6; to++) {
                int most = 6 - Math.max(from, to);
                for (int n = 0; n <= most; n++) {
                    PopPan x = counted(6);
                    due("31: over itself", x.copy(0, from, 0, to, n), 1);
                    for (int i = 0; i < 6; i++) {
                        int want = i >= to && i < to + n ? from + (i - to) + 1 : i + 1;
                        due("31: " + n + " from " + from + " to " + to + ", item " + i, x.get(0, 2, i), want);
                    }
                }
            }
        }
    }

    /** 31: SHEETS of unlike lengths: each by its own. */
    private static void copyBetween() {
        PopPan x = counted(6);
        x.sheet(1, 2, 3);
        due("31: three of six", x.copy(0, 3, 1, 0, 3), 1);
        due("31: four to three", x.copy(0, 0, 1, 0, 4), INDEX);
        due("31: four of three", x.copy(1, 0, 0, 0, 4), INDEX);
        due("31: from 3, which the other has not", x.copy(0, 5, 1, 2, 1), 1);
        due("31: to 5, which the other has not", x.copy(1, 0, 0, 5, 1), 1);
        int[] items = {4, 5, 6};
        for (int i = 0; i < 3; i++) {
            due("31: item " + i, x.get(1, 2, i), items[i]);
        }
        due("31: the last of six", x.get(0, 2, 5), 4);
        due("31: they are two rows", x.lay(1, 2, 0, 99) + x.get(0, 2, 3), 5);
    }

    /** 31: 'STORE: unlike FORMS', each pair; like FORMS keep their numbers. */
    private static void copyUnlikeForms() {
        for (int from = 0; from <= 2; from++) {
            for (int to = 0; to <= 2; to++) {
                PopPan x = new PopPan();
                x.sheet(0, from, 2);
                x.sheet(1, to, 2);
                x.lay(0, from, 1, -7);
                due("31: FORM " + from + " to " + to, x.copy(0, 1, 1, 0, 1), from == to ? 1 : STORE);
                due("31: what came", x.get(1, to, 0), from == to ? -7 : 0);
                due("33: the finding", x.count(8), from == to ? 0 : 4);
            }
        }
    }

    /** One that goes in second 199, one in 198. */
    private static PopPan lateOnes() {
        PopPan x = Pans.with("h0x99;h0x96;h50x5");
        x.grain(0, 40, 10, 3, 0);
        x.grain(1, 40, 8, 3, 0);
        due("12: in 198", x.sounds(198, false), 1);
        due("12: in 199", x.sounds(199, false), 1);
        return x;
    }

    /** 32: 'as many as there are items and SECONDS to 199' */
    private static void writeToTheLastSecond() {
        int[] seconds = {139, 140, 141, 197, 198, 199};
        int[] many = {60, 60, 59, 3, 2, 1};
        for (int i = 0; i < seconds.length; i++) {
            PopPan x = lateOnes();
            x.sheet(0, 2, 60);
            due("32: from " + seconds[i], x.write(seconds[i], 0), many[i]);
            for (int item = 0; item < 60; item++) {
                int second = seconds[i] + item;
                due("32: second " + second, x.get(0, 2, item), second == 198 || second == 199 ? 1 : 0);
            }
        }
    }

    /** 32: 0, 1, 2 items, and those of seconds 2 and 4. */
    private static void writeToTheLastItem() {
        int[] sounds = {0, 0, 1, 0, 1, 0};
        for (int n = 0; n <= 6; n++) {
            PopPan x = Pans.ready();
            x.sheet(0, 0, n);
            due("32: " + n + " items", x.write(0, 0), n);
            for (int i = 0; i < n; i++) {
                due("32: item " + i + " of " + n, x.get(0, 0, i), sounds[i]);
            }
            due("32: no item more", x.get(0, 0, n), LOW);
        }
        PopPan x = Pans.ready();
        due("32: from 199 to four items", x.write(199, 0), 1);
        due("32: from 4 on", x.write(4, 0), 4);
        due("32: second 4", x.get(0, 0, 0), 1);
    }

    /** 32: twelve in one SECOND would be the most; four here, in each FORM. */
    private static void writeByForms() {
        for (int form = 0; form <= 2; form++) {
            PopPan x = Pans.with("h50x99");
            for (int g = 0; g < 4; g++) {
                x.grain(g, 40, 10, 3, 0);
            }
            x.sheet(form, form, 2);
            due("32: two of FORM " + form, x.write(3, form), 2);
            due("32: none in 3", x.get(form, form, 0), 0);
            due("32: four in 4", x.get(form, form, 1), 4);
        }
    }

    /** 32: items behind the last SECOND stay as they were; those before are overwritten, by 0 too. */
    private static void writeLeavesTheRest() {
        PopPan x = counted(5);
        due("32: two", x.write(198, 0), 2);
        int[] items = {0, 0, 3, 4, 5};
        for (int i = 0; i < 5; i++) {
            due("32: item " + i, x.get(0, 2, i), items[i]);
        }
    }

    /** 33: each count at 0 and at the most. */
    private static void countsAtTheirEnds() {
        PopPan x = new PopPan();
        for (int what = 0; what <= 8; what++) {
            due("33: at first, " + what, x.count(what), 0);
        }
        PopPan full = Pans.full();
        int water = 0;
        for (int g = 0; g < 12; g++) {
            water += full.change(g, 0, 99);
        }
        due("33: WATER before", water, 12 * 10 + 7 * 66);
        int[] most = {12, 60, 30, 30, 30, 140, 12, 12 * 99, 0};
        for (int what = 0; what <= 8; what++) {
            due("33: of a full one, " + what, full.count(what), most[what]);
        }
        for (int g = 0; g < 12; g++) {
            full.change(g, 0, 0);
        }
        due("33: no WATER", full.count(7), 0);
        due("33: twelve dry ones", full.count(0), 12);
    }

    /** 33: '8 the number of the latest FINDING (0 before any)': 1 to 5, and the same again. */
    private static void latestFindings() {
        PopPan x = new PopPan();
        x.sheet(0, 0, 2);
        x.sheet(1, 1, 2);
        for (int i = 0; i < 2; i++) {
            due("33: NULL", x.lose(3) + 10 + x.count(8), 0);
            due("33: INDEX", x.lay(0, 0, 2, 0) + 10 + x.count(8), 0);
            due("33: CAST", x.lay(0, 1, 0, 0) + 10 + x.count(8), 0);
            due("33: STORE", x.copy(0, 0, 1, 0, 0) + 10 + x.count(8), 0);
            due("33: SIZE", x.sheet(0, 0, -1) + 10 + x.count(8), 0);
        }
        due("33: SIZE is 5", x.count(8), 5);
        x.lose(3);
        due("33: NULL is 1", x.count(8), 1);
    }

    private static BigInteger mixed(BigInteger h, long v) {
        return h.multiply(BigInteger.valueOf(31)).add(BigInteger.valueOf(v));
    }

    /** 34: 'h is 17; h becomes 31 h and each of ..', without wrapping; the lowest 64 bits are what is due. */
    private static BigInteger unwrapped(PopPan x) {
        BigInteger h = BigInteger.valueOf(17);
        for (int what = 0; what <= 7; what++) {
            h = mixed(h, x.count(what));
        }
        for (int text = 0; text <= 3; text++) {
            h = mixed(h, x.fault(text));
        }
        for (int g = 0; g < x.count(0); g++) {
            for (int what = 0; what <= 5; what++) {
                h = mixed(h, x.after(g, 100, what));
            }
        }
        for (int i = 0; i < 18; i++) {
            h = mixed(h, x.stop(i / 6, i % 6));
        }
        h = mixed(h, x.best());
        for (int what = 0; what <= 2; what++) {
            h = mixed(h, x.even(60, what));
        }
        for (int what = 0; what <= 3; what++) {
            h = mixed(h, x.sieved(3, 100, what));
        }
        for (int what = 0; what <= 4; what++) {
            h = mixed(h, x.fits(what));
        }
        return h;
    }

    /** 34: of a new object: 43 numbers, of which most are 0. */
    private static void digestOfNothing() {
        PopPan x = new PopPan();
        BigInteger h = BigInteger.valueOf(17);
        int[] told = {0, 0, 0, 0, 0, 0, 0, 0, -1, -1, -1, -1, 200, 0, 0, 0, 0, 0, 200, 0, 0, 0, 0, 0, 200, 0, 0, 0, 0, 0, 0,
            1, 0, 0, 0, 0, 0, 0, -3, -3, -3, -3, -3};
        for (int v : told) {
            h = mixed(h, v);
        }
        due("34: of nothing", x.digest(), h.longValue());
    }

    /** 34: 'as longs that wrap'; 'stop() (as it is told)', 'fits() (as it is told)' */
    private static void digestThatWraps() {
        PopPan[] all = {new PopPan(), Pans.ready(), Pans.full(), lateOnes()};
        for (int i = 0; i < all.length; i++) {
            due("34: object " + i, all[i].digest(), unwrapped(all[i]).longValue());
            for (int text = 0; text <= 3; text++) {
                all[i].wipe(text);
                all[i].type(text, 'q');
                due("34: object " + i + " with a FAULT of " + text, all[i].digest(), unwrapped(all[i]).longValue());
            }
            all[i].empty();
            due("34: object " + i + " without grains", all[i].digest(), unwrapped(all[i]).longValue());
        }
        Check.holds("34: it is more than a long", unwrapped(Pans.full()).bitLength() > 64);
    }

    /** 34: 'after() 100 SECONDS', 'even(60, ..)', 'sieved(3, 100, ..)': what one second more or less would change. */
    private static void digestBySeconds() {
        // A grain that goes in second 99 or 100; SIZE 3 is just large enough, SIZE 2 is not.
        for (int lead = 95; lead <= 96; lead++) {
            for (int size = 2; size <= 3; size++) {
                PopPan x = Pans.with("h0x" + lead + ";h50x9");
                x.grain(0, 40, 10, size, 0);
                due("34: OPEN after 100", x.after(0, 100, 3), lead == 95 ? 1 : 0);
                due("34: sieved", x.sieved(3, 100, 0), lead == 95 && size == 3 ? 1 : 0);
                due("34: by seconds", x.digest(), unwrapped(x).longValue());
            }
        }
        // The even heat for 60 seconds is another one than for 59 here, and another than for 61 there.
        int[] waters = {65, 60};
        for (int water : waters) {
            PopPan x = new PopPan();
            x.grain(0, 0, 20, 9, 0);
            x.grain(0, 0, 20, 9, 0);
            x.grain(0, water, 5, 5, 0);
            Check.holds("34: unlike even heats", x.even(59, 0) != x.even(61, 0));
            Check.holds("34: that of 60", x.even(60, 0) == (water == 65 ? x.even(61, 0) : x.even(59, 0)));
            due("34: by even heat", x.digest(), unwrapped(x).longValue());
        }
    }

    /** 34: asking changes nothing, and neither SHEETS nor findings are part of it. */
    private static void digestChangesNothing() {
        PopPan x = Pans.ready();
        long before = x.digest();
        due("34: twice", x.digest(), before);
        Pans.unchanged("34: nothing else", x, Pans.ready(), 0);
        PopPan y = Pans.ready();
        y.lose(0);
        y.lose(0);
        y.sheet(2, 2, 60);
        due("34: sheets and findings are no part", y.digest(), before);
        due("33: the finding stays", y.count(8), 1);
    }
}
