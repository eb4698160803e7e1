import java.util.Arrays;

/** Corn that goes off in a pan; the document's promises are named by their numbers in the tests. */
public final class PopPan {
    public static final int NONE = -1, BAD = -2, NOT = -3, FULL = -4;

    private static final int PLACES = 4, GRAINS = 12;
    private static final int WATER = 0, SKIN = 1, SIZE = 2, CRACK = 3, TRAITS = 4;
    private static final int[] TRAIT_LEAST = {0, 1, 1, 0};
    private static final int[] TRAIT_MOST = {99, 20, 9, 9};

    private static final int AIR = 0, STRENGTH = 1, BROWN = 2, WIN = 3, LOSE = 4, HARM = 5, SETTINGS = 6;
    private static final int[] SETTING_LEAST = {0, 5, 1, 0, 0, 0};
    private static final int[] SETTING_MOST = {99, 15, 99, 99, 99, 99};
    private static final int[] SETTING_FIRST = {10, 10, 20, 1, 5, 9};

    private static final int TEXTS = 4, RULES = 3, PAN_BYTES = 60, RULE_BYTES = 30;
    private static final int SECONDS = 200, HEATS = 99, AIRS = 99;
    private static final int DAMPEST = 99, DAYS = 60, BAG = 30, CHANCE_PARTS = 256;

    private static final int WHOLE = 0, OPEN = 1, BURNT = 2, OUTSIDE = 3;

    private static final int SHEETS = 4, FORMS = 3, ITEMS = 60, BYTES = 0, SHORTS = 1;
    private static final int NULL = 1, INDEX = 2, CAST = 3, STORE = 4, BELOW_ZERO = 5;

    // Answers that may be any number need refusals beyond every true answer.
    private static final int ANY_NUMBER = -100000;
    private static final int LEAST_INT = 1 << 31;
    private static final long LEAST_LONG = 1L << 63;

    private final Grains grains = new Grains();
    private final int[] settings = SETTING_FIRST.clone();
    private final Text[] texts = new Text[TEXTS];
    private final Heating heating = new Heating();
    private final Rule[] rules = new Rule[RULES];
    private final Batch batch = new Batch();
    private final Batch trial = new Batch();
    private final Evens evens = new Evens();
    private final Hearing hearing = new Hearing();
    private final Sheet[] sheets = new Sheet[SHEETS];
    private int latestFinding = 0;

    public PopPan() {
        texts[0] = new Text(PAN_BYTES);
        for (int r = 0; r < RULES; r++) {
            texts[r + 1] = new Text(RULE_BYTES);
            rules[r] = new Rule();
        }
        for (int s = 0; s < SHEETS; s++) {
            sheets[s] = new Sheet();
        }
    }

    // ---- grains, texts

    public int grain(int place, int water, int skin, int size, int crack) {
        if (isOutside(place, 0, PLACES - 1) || !mayAllBe(water, skin, size, crack)) {
            return BAD;
        }
        if (grains.isFull()) {
            return FULL;
        }
        return grains.add(place, water, skin, size, crack);
    }

    public int read(int s, int place) {
        if (isOutside(s, 0, SHEETS - 1) || isOutside(place, 0, PLACES - 1)) {
            return BAD;
        }
        Sheet sheet = sheets[s];
        if (sheet.isLost()) {
            return finding(NULL);
        }
        int came = 0;
        for (int i = 0; i + TRAITS <= sheet.size && !grains.isFull(); i += TRAITS) {
            int[] items = sheet.items;
            if (!mayAllBe(items[i + WATER], items[i + SKIN], items[i + SIZE], items[i + CRACK])) {
                return came;
            }
            grains.add(place, items[i + WATER], items[i + SKIN], items[i + SIZE], items[i + CRACK]);
            came++;
        }
        return came;
    }

    public int change(int grain, int what, int v) {
        if (!grains.has(grain) || isOutside(what, 0, TRAITS - 1) || !mayBe(what, v)) {
            return BAD;
        }
        int was = grains.trait(grain, what);
        grains.put(grain, what, v);
        return was;
    }

    public int empty() {
        int were = grains.number;
        grains.number = 0;
        hearing.number = 0;
        return were;
    }

    public int set(int what, int v) {
        if (isOutside(what, 0, SETTINGS - 1) || isOutside(v, SETTING_LEAST[what], SETTING_MOST[what])) {
            return BAD;
        }
        int was = settings[what];
        settings[what] = v;
        return was;
    }

    public int type(int text, int b) {
        if (isOutside(text, 0, TEXTS - 1) || isOutside(b, 0, 255)) {
            return BAD;
        }
        if (texts[text].isFull()) {
            return FULL;
        }
        texts[text].add(b);
        understand(text);
        return texts[text].size;
    }

    public int wipe(int text) {
        if (isOutside(text, 0, TEXTS - 1)) {
            return BAD;
        }
        int had = texts[text].size;
        texts[text].size = 0;
        understand(text);
        return had;
    }

    public int fault(int text) {
        if (isOutside(text, 0, TEXTS - 1)) {
            return BAD;
        }
        return texts[text].flaw;
    }

    public int pan(int second, int what) {
        if (isOutside(second, 0, SECONDS - 1) || isOutside(what, 0, 2)) {
            return BAD;
        }
        if (what == 0) {
            return heating.heats[second];
        }
        if (what == 1) {
            return heating.shakes[second];
        }
        return heating.lids[second] ? 1 : 0;
    }

    // ---- gone on

    public int after(int grain, int t, int what) {
        if (!grains.has(grain) || isOutside(t, 0, SECONDS) || isOutside(what, 0, 5)) {
            return BAD;
        }
        fillPan();
        batch.goOn(heating, t);
        return batch.tell(grain, what);
    }

    public int sounds(int second, boolean all) {
        if (isOutside(second, 0, SECONDS - 1)) {
            return BAD;
        }
        cook(SECONDS);
        return all ? batch.openAt(second + 1) : batch.goneIn(second);
    }

    public int stop(int rule, int what) {
        if (isOutside(rule, 0, RULES - 1) || isOutside(what, 0, 5)) {
            return ANY_NUMBER + BAD;
        }
        cook(SECONDS);
        return tellRule(rule, what);
    }

    public int best() {
        cook(SECONDS);
        return bestRule();
    }

    // ---- what is best

    public int even(int t, int what) {
        if (isOutside(t, 1, SECONDS) || isOutside(what, 0, 2)) {
            return BAD;
        }
        tryHeats(t);
        return evens.tell(what);
    }

    public int front(int t, int i) {
        if (isOutside(t, 1, SECONDS) || i < NONE) {
            return BAD;
        }
        tryHeats(t);
        return i == NONE ? evens.frontSize() : evens.frontHeat(i);
    }

    public int air(int t, int what) {
        if (isOutside(t, 1, SECONDS) || isOutside(what, 0, 1)) {
            return BAD;
        }
        int bestAir = NONE;
        int most = NONE;
        for (int a = 0; a <= AIRS; a++) {
            batch.fill(grains, settings[STRENGTH], a);
            batch.settle(heating, t);
            int large = batch.largeAt(t);
            if (large > most) {
                bestAir = a;
                most = large;
            }
        }
        return what == 0 ? bestAir : most;
    }

    public int shaken(int t, int what) {
        if (isOutside(t, 1, SECONDS) || isOutside(what, 0, 1)) {
            return BAD;
        }
        cook(t);
        int most = batch.openAt(t);
        int bestSecond = NONE;
        fillPan();
        for (int k = 0; k < t && most < grains.number && batch.whole > 0; k++) {
            trial.become(batch);
            trial.second(heating.heats[k], heating.shakes[k] + 1, heating.lids[k]);
            trial.settle(heating, t);
            if (trial.openAt(t) > most) {
                bestSecond = k;
                most = trial.openAt(t);
            }
            batch.second(heating.heats[k], heating.shakes[k], heating.lids[k]);
        }
        return what == 0 ? bestSecond : most;
    }

    public int late(int grain) {
        if (!grains.has(grain)) {
            return ANY_NUMBER + BAD;
        }
        cook(SECONDS);
        int among = batch.tell(grain, 4);
        fillPan();
        for (int g = 0; g < grains.number; g++) {
            if (g != grain) {
                batch.takeOut(g);
            }
        }
        batch.settle(heating, SECONDS);
        int alone = batch.tell(grain, 4);
        return among == NONE || alone == NONE ? ANY_NUMBER + NOT : among - alone;
    }

    public int sieved(int size, int t, int what) {
        if (isOutside(size, TRAIT_LEAST[SIZE], TRAIT_MOST[SIZE]) || isOutside(t, 1, SECONDS) || isOutside(what, 0, 3)) {
            return BAD;
        }
        sieve(size, t);
        return tellSieved(t, what);
    }

    // ---- jars, bags, strengths

    public int jar(int water, int damp, int days) {
        if (isNoWater(water) || isOutside(damp, 0, DAMPEST) || isOutside(days, 0, DAYS)) {
            return BAD;
        }
        int now = water;
        for (int day = 0; day < days; day++) {
            now = nextDay(now, damp);
        }
        return now;
    }

    public int length(int water, int damp, int from, int to) {
        if (isNoWater(water) || isOutside(damp, 0, DAMPEST) || isNoWater(from) || isNoWater(to) || from > to) {
            return BAD;
        }
        int now = water;
        for (int day = 0; day <= DAYS; day++) {
            if (!isOutside(now, from, to)) {
                return day;
            }
            now = nextDay(now, damp);
        }
        return NONE;
    }

    public long cracked(int all, int c, int n, int k, int what) {
        if (isNoTrial(all, n, k) || isOutside(c, 0, all) || isOutside(what, 0, 1)) {
            return LEAST_LONG - BAD;
        }
        long above = ways(all, c, n, k);
        long below = choose(all, n);
        long shared = Math.max(1, commonDivisor(above, below));
        return what == 0 ? above / shared : below / shared;
    }

    public int span(int all, int n, int k, int x, int end) {
        if (isNoTrial(all, n, k) || isOutside(x, 0, CHANCE_PARTS - 1) || isOutside(end, 0, 1)) {
            return BAD;
        }
        for (int i = 0; i <= all; i++) {
            int c = end == 0 ? i : all - i;
            long some = end == 0 ? waysFromTo(all, c, n, k, n) : waysFromTo(all, c, n, 0, k);
            if (some * CHANCE_PARTS > x * choose(all, n)) {
                return c;
            }
        }
        return NONE;
    }

    public int heard(int grain, int second) {
        if (!grains.has(grain) || isOutside(second, 0, SECONDS - 1)) {
            return BAD;
        }
        if (hearing.isFull()) {
            return FULL;
        }
        hearing.add(grain, second);
        return hearing.number;
    }

    public int fits(int what) {
        if (isOutside(what, 0, 4)) {
            return BAD;
        }
        if (hearing.number == 0) {
            return NOT;
        }
        tryStrengths();
        return hearing.tell(what);
    }

    // ---- sheets

    public int sheet(int s, int form, int n) {
        if (isOutside(s, 0, SHEETS - 1) || isOutside(form, 0, FORMS - 1) || n > ITEMS) {
            return BAD;
        }
        if (n < 0) {
            return finding(BELOW_ZERO);
        }
        sheets[s].renew(form, n);
        return n;
    }

    public int lose(int s) {
        if (isOutside(s, 0, SHEETS - 1)) {
            return BAD;
        }
        if (sheets[s].isLost()) {
            return finding(NULL);
        }
        sheets[s].form = NONE;
        return sheets[s].size;
    }

    public int lay(int s, int form, int i, int v) {
        if (isOutside(s, 0, SHEETS - 1) || isOutside(form, 0, FORMS - 1)) {
            return BAD;
        }
        int objection = sheets[s].objection(form, i);
        if (objection != 0) {
            return finding(objection);
        }
        sheets[s].put(i, v);
        return 1;
    }

    public int get(int s, int form, int i) {
        if (isOutside(s, 0, SHEETS - 1) || isOutside(form, 0, FORMS - 1)) {
            return LEAST_INT;
        }
        int objection = sheets[s].objection(form, i);
        if (objection != 0) {
            latestFinding = objection;
            return LEAST_INT;
        }
        return sheets[s].items[i];
    }

    public int copy(int s, int i, int t, int j, int n) {
        if (isOutside(s, 0, SHEETS - 1) || isOutside(t, 0, SHEETS - 1)) {
            return BAD;
        }
        Sheet from = sheets[s];
        Sheet to = sheets[t];
        if (from.isLost() || to.isLost()) {
            return finding(NULL);
        }
        if (from.form != to.form) {
            return finding(STORE);
        }
        if (!from.hasStretch(i, n) || !to.hasStretch(j, n)) {
            return finding(INDEX);
        }
        System.arraycopy(from.items, i, to.items, j, n);
        return 1;
    }

    public int write(int second, int s) {
        if (isOutside(second, 0, SECONDS - 1) || isOutside(s, 0, SHEETS - 1)) {
            return BAD;
        }
        Sheet sheet = sheets[s];
        if (sheet.isLost()) {
            return finding(NULL);
        }
        cook(SECONDS);
        int many = Math.min(sheet.size, SECONDS - second);
        for (int i = 0; i < many; i++) {
            sheet.put(i, batch.goneIn(second + i));
        }
        return many;
    }

    public int count(int what) {
        if (isOutside(what, 0, 8)) {
            return BAD;
        }
        switch (what) {
            case 0:
                return grains.number;
            case 5:
                return heating.seconds;
            case 6:
                return hearing.number;
            case 7:
                return grains.allWater();
            case 8:
                return latestFinding;
            default:
                return texts[what - 1].size;
        }
    }

    public long digest() {
        long h = 17;
        for (int what = 0; what <= 7; what++) {
            h = 31 * h + count(what);
        }
        for (int text = 0; text < TEXTS; text++) {
            h = 31 * h + texts[text].flaw;
        }
        h = digestGrains(h, 100);
        h = digestRules(h);
        tryHeats(60);
        for (int what = 0; what <= 2; what++) {
            h = 31 * h + evens.tell(what);
        }
        sieve(3, 100);
        for (int what = 0; what <= 3; what++) {
            h = 31 * h + tellSieved(100, what);
        }
        return digestFits(h);
    }

    // ---- what the calls share

    private static boolean isOutside(int v, int least, int most) {
        return v < least || v > most;
    }

    private static boolean mayBe(int what, int v) {
        return !isOutside(v, TRAIT_LEAST[what], TRAIT_MOST[what]);
    }

    private static boolean mayAllBe(int water, int skin, int size, int crack) {
        return mayBe(WATER, water) && mayBe(SKIN, skin) && mayBe(SIZE, size) && mayBe(CRACK, crack);
    }

    private static boolean isNoWater(int v) {
        return !mayBe(WATER, v);
    }

    private int finding(int number) {
        latestFinding = number;
        return -10 - number;
    }

    private void understand(int text) {
        if (text == 0) {
            heating.follow(texts[0]);
        } else {
            rules[text - 1].follow(texts[text]);
        }
    }

    private void fillPan() {
        batch.fill(grains, settings[STRENGTH], settings[AIR]);
    }

    private void cook(int t) {
        fillPan();
        batch.settle(heating, t);
    }

    private void sieve(int size, int t) {
        fillPan();
        for (int g = 0; g < grains.number; g++) {
            if (grains.trait(g, SIZE) < size) {
                batch.takeOut(g);
            }
        }
        batch.settle(heating, t);
    }

    private int tellSieved(int t, int what) {
        switch (what) {
            case 0:
                return batch.openAt(t);
            case 1:
                return batch.largeAt(t);
            case 2:
                return batch.wholeAt(t);
            default:
                return batch.burntAt(t);
        }
    }

    // These two read what cook(SECONDS) left in the batch.
    private int tellRule(int rule, int what) {
        if (texts[rule + 1].flaw != NONE) {
            return ANY_NUMBER + NOT;
        }
        int t = rules[rule].secondsUntilStop(batch);
        switch (what) {
            case 0:
                return t;
            case 1:
                return batch.wholeAt(t);
            case 2:
                return batch.largeAt(t);
            case 3:
                return batch.burntAt(t);
            case 4:
                return batch.brownedAt(t, settings[BROWN]);
            default:
                return worth(t);
        }
    }

    private int bestRule() {
        int bestSoFar = NONE;
        int most = 0;
        for (int r = 0; r < RULES; r++) {
            if (texts[r + 1].flaw == NONE) {
                int worth = tellRule(r, 5);
                if (bestSoFar == NONE || worth > most) {
                    bestSoFar = r;
                    most = worth;
                }
            }
        }
        return bestSoFar;
    }

    private int worth(int t) {
        int harmed = batch.burntAt(t) + batch.brownedAt(t, settings[BROWN]);
        return settings[WIN] * batch.largeAt(t) - settings[LOSE] * batch.wholeAt(t) - settings[HARM] * harmed;
    }

    private void tryHeats(int t) {
        for (int heat = 1; heat <= HEATS; heat++) {
            fillPan();
            batch.settleEvenly(heat, t);
            evens.open[heat] = batch.openAt(t);
            evens.burnt[heat] = batch.burntAt(t);
        }
    }

    private void tryStrengths() {
        hearing.begin();
        for (int strength = SETTING_LEAST[STRENGTH]; strength <= SETTING_MOST[STRENGTH]; strength++) {
            batch.fill(grains, strength, settings[AIR]);
            batch.settle(heating, SECONDS);
            hearing.judge(strength, batch);
        }
    }

    private long digestGrains(long before, int t) {
        long h = before;
        fillPan();
        batch.goOn(heating, t);
        for (int g = 0; g < grains.number; g++) {
            for (int what = 0; what <= 5; what++) {
                h = 31 * h + batch.tell(g, what);
            }
        }
        return h;
    }

    private long digestRules(long before) {
        long h = before;
        cook(SECONDS);
        for (int rule = 0; rule < RULES; rule++) {
            for (int what = 0; what <= 5; what++) {
                h = 31 * h + tellRule(rule, what);
            }
        }
        return 31 * h + bestRule();
    }

    private long digestFits(long before) {
        long h = before;
        boolean any = hearing.number > 0;
        if (any) {
            tryStrengths();
        }
        for (int what = 0; what <= 4; what++) {
            h = 31 * h + (any ? hearing.tell(what) : NOT);
        }
        return h;
    }

    private static int nextDay(int water, int damp) {
        int step = (Math.abs(damp - water) + 3) / 4;
        return damp > water ? water + step : water - step;
    }

    private static boolean isNoTrial(int all, int n, int k) {
        return isOutside(all, 1, BAG) || isOutside(n, 0, all) || isOutside(k, 0, n);
    }

    private static long choose(int n, int k) {
        if (k < 0 || k > n) {
            return 0;
        }
        long ways = 1;
        for (int i = 1; i <= k; i++) {
            ways = ways * (n - k + i) / i;
        }
        return ways;
    }

    private static long ways(int all, int c, int n, int k) {
        return choose(c, k) * choose(all - c, n - k);
    }

    private static long waysFromTo(int all, int c, int n, int from, int to) {
        long sum = 0;
        for (int k = from; k <= to; k++) {
            sum += ways(all, c, n, k);
        }
        return sum;
    }

    // Numbers here are below 2^28, which Euclid's steps end far within the bound.
    private static long commonDivisor(long a, long b) {
        long greater = a;
        long less = b;
        for (int steps = 0; steps < 100 && less != 0; steps++) {
            long rest = greater % less;
            greater = less;
            less = rest;
        }
        return greater;
    }

    /** What was told of each grain, as at first. */
    private static final class Grains {
        private final int[] places = new int[GRAINS];
        private final int[] traits = new int[GRAINS * TRAITS];
        private int number = 0;

        boolean isFull() {
            return number >= GRAINS;
        }

        boolean has(int grain) {
            return grain >= 0 && grain < number;
        }

        int add(int place, int water, int skin, int size, int crack) {
            int grain = number;
            number++;
            places[grain] = place;
            put(grain, WATER, water);
            put(grain, SKIN, skin);
            put(grain, SIZE, size);
            put(grain, CRACK, crack);
            return grain;
        }

        void put(int grain, int what, int v) {
            traits[grain * TRAITS + what] = v;
        }

        int trait(int grain, int what) {
            return traits[grain * TRAITS + what];
        }

        int allWater() {
            int sum = 0;
            for (int g = 0; g < number; g++) {
                sum += trait(g, WATER);
            }
            return sum;
        }
    }

    /** A text that is typed byte by byte, with a place to which it is understood so far. */
    private static final class Text {
        private final int[] bytes;
        private int size = 0;
        private int at = 0;
        private int flaw = NONE;

        Text(int most) {
            bytes = new int[most];
        }

        boolean isFull() {
            return size >= bytes.length;
        }

        void add(int b) {
            bytes[size] = b;
            size++;
        }

        void rewind() {
            at = 0;
            flaw = NONE;
        }

        void failAt(int place) {
            if (flaw == NONE) {
                flaw = place;
            }
        }

        boolean takes(int sign) {
            if (flaw != NONE || at >= size || bytes[at] != sign) {
                return false;
            }
            at++;
            return true;
        }

        void needs(int sign) {
            if (!takes(sign)) {
                failAt(at);
            }
        }

        /** Whether another part follows; at the end none need follow. */
        boolean goesOnBehind(int sign) {
            if (flaw != NONE || at >= size) {
                return false;
            }
            needs(sign);
            return flaw == NONE;
        }

        int number(int figures, int least, int most) {
            if (flaw != NONE) {
                return least;
            }
            int start = at;
            int value = 0;
            while (at < size && at - start < figures && bytes[at] >= '0' && bytes[at] <= '9') {
                value = 10 * value + bytes[at] - '0';
                at++;
            }
            if (at == start || value < least || value > most) {
                failAt(start);
            }
            return value;
        }
    }

    /** THE PAN, second by second; nothing but cold where its text has a fault. */
    private static final class Heating {
        private final int[] heats = new int[SECONDS];
        private final int[] shakes = new int[SECONDS];
        private final boolean[] lids = new boolean[SECONDS];
        private int seconds = 0;

        void follow(Text text) {
            coolDown();
            text.rewind();
            boolean more = text.size > 0;
            for (int parts = 0; more && parts <= PAN_BYTES; parts++) {
                addPart(text);
                more = text.goesOnBehind(';');
            }
            if (text.flaw != NONE) {
                coolDown();
            }
        }

        private void coolDown() {
            seconds = 0;
            Arrays.fill(heats, 0);
            Arrays.fill(shakes, 0);
            putLid(false);
        }

        private void addPart(Text text) {
            if (text.takes('h')) {
                int heat = text.number(2, 0, HEATS);
                text.needs('x');
                int span = text.number(2, 1, 99);
                addHeat(heat, text.flaw == NONE ? span : 0);
            } else if (text.takes('s')) {
                if (seconds < SECONDS) {
                    shakes[seconds]++;
                }
            } else if (text.takes('l')) {
                putLid(true);
            } else if (text.takes('o')) {
                putLid(false);
            } else {
                text.failAt(text.at);
            }
        }

        private void addHeat(int heat, int span) {
            for (int s = seconds; s < seconds + span && s < SECONDS; s++) {
                heats[s] = heat;
            }
            seconds += span;
        }

        private void putLid(boolean on) {
            for (int s = seconds; s < SECONDS; s++) {
                lids[s] = on;
            }
        }
    }

    /** Of conditions of one kind the least number is met first, so that one of each kind is kept. */
    private static final class Rule {
        private static final int NEVER = 1000;
        private int silence = NEVER;
        private int sum = NEVER;
        private int time = NEVER;

        void follow(Text text) {
            silence = NEVER;
            sum = NEVER;
            time = NEVER;
            text.rewind();
            boolean more = text.size > 0;
            for (int parts = 0; more && parts <= RULE_BYTES; parts++) {
                addCondition(text);
                more = text.goesOnBehind('|');
            }
        }

        private void addCondition(Text text) {
            if (text.takes('g')) {
                silence = Math.min(silence, text.number(2, 1, 99));
            } else if (text.takes('n')) {
                sum = Math.min(sum, text.number(2, 1, 99));
            } else if (text.takes('t')) {
                time = Math.min(time, text.number(3, 1, SECONDS));
            } else {
                text.failAt(text.at);
            }
        }

        int secondsUntilStop(Batch batch) {
            int heardInAll = 0;
            int silent = 0;
            for (int second = 0; second < SECONDS; second++) {
                int now = batch.goneIn(second);
                heardInAll += now;
                silent = now > 0 || heardInAll == 0 ? 0 : silent + 1;
                if (silent >= silence || heardInAll >= sum || second + 1 >= time) {
                    return second + 1;
                }
            }
            return SECONDS;
        }
    }

    /** Grains that are heated; how many had gone or burnt by each earlier second can still be asked. */
    private static final class Batch {
        private final int[] skin = new int[GRAINS];
        private final int[] size = new int[GRAINS];
        private final int[] crack = new int[GRAINS];
        private final int[] warmth = new int[GRAINS];
        private final int[] water = new int[GRAINS];
        private final int[] press = new int[GRAINS];
        private final int[] state = new int[GRAINS];
        private final int[] ended = new int[GRAINS];
        private final int[] large = new int[GRAINS];
        private final int[] rows = new int[PLACES * GRAINS];
        private final int[] heights = new int[PLACES];
        private int number = 0;
        private int strength = 0;
        private int air = 0;
        private int whole = 0;
        private int gone = 0;
        private boolean risen = false;

        void fill(Grains told, int newStrength, int newAir) {
            number = told.number;
            strength = newStrength;
            air = newAir;
            whole = number;
            gone = 0;
            risen = false;
            Arrays.fill(heights, 0);
            for (int g = 0; g < number; g++) {
                skin[g] = told.trait(g, SKIN);
                size[g] = told.trait(g, SIZE);
                crack[g] = told.trait(g, CRACK);
                warmth[g] = 0;
                water[g] = told.trait(g, WATER);
                press[g] = 0;
                state[g] = WHOLE;
                ended[g] = NONE;
                large[g] = 0;
                putOnTop(g, told.places[g]);
            }
        }

        private void putOnTop(int g, int place) {
            rows[place * GRAINS + heights[place]] = g;
            heights[place]++;
        }

        void takeOut(int g) {
            state[g] = OUTSIDE;
            whole--;
            risen = true;
        }

        void become(Batch other) {
            number = other.number;
            strength = other.strength;
            air = other.air;
            whole = other.whole;
            gone = other.gone;
            risen = other.risen;
            System.arraycopy(other.skin, 0, skin, 0, GRAINS);
            System.arraycopy(other.size, 0, size, 0, GRAINS);
            System.arraycopy(other.crack, 0, crack, 0, GRAINS);
            System.arraycopy(other.warmth, 0, warmth, 0, GRAINS);
            System.arraycopy(other.water, 0, water, 0, GRAINS);
            System.arraycopy(other.press, 0, press, 0, GRAINS);
            System.arraycopy(other.state, 0, state, 0, GRAINS);
            System.arraycopy(other.ended, 0, ended, 0, GRAINS);
            System.arraycopy(other.large, 0, large, 0, GRAINS);
            System.arraycopy(other.rows, 0, rows, 0, PLACES * GRAINS);
            System.arraycopy(other.heights, 0, heights, 0, PLACES);
        }

        void goOn(Heating heating, int t) {
            for (int s = gone; s < t; s++) {
                second(heating.heats[s], heating.shakes[s], heating.lids[s]);
            }
        }

        /** Without whole ones nothing changes but the warmth of burnt ones, which no sum asks. */
        void settle(Heating heating, int t) {
            for (int s = gone; s < t && whole > 0; s++) {
                second(heating.heats[s], heating.shakes[s], heating.lids[s]);
            }
        }

        void settleEvenly(int heat, int t) {
            for (int s = gone; s < t && whole > 0; s++) {
                second(heat, 0, false);
            }
        }

        void second(int heat, int shakes, boolean lid) {
            if (risen) {
                clearRows();
            }
            for (int place = 0; place < PLACES; place++) {
                for (int i = 0; i < shakes; i++) {
                    turnRow(place);
                }
                warmRow(place, heat, lid ? 64 : 32);
            }
            for (int g = 0; g < number; g++) {
                if (state[g] == WHOLE) {
                    strain(g);
                }
            }
            gone++;
        }

        private void clearRows() {
            for (int place = 0; place < PLACES; place++) {
                int from = place * GRAINS;
                int kept = 0;
                for (int i = 0; i < heights[place]; i++) {
                    int g = rows[from + i];
                    if (state[g] == WHOLE || state[g] == BURNT) {
                        rows[from + kept] = g;
                        kept++;
                    }
                }
                heights[place] = kept;
            }
            risen = false;
        }

        private void turnRow(int place) {
            int height = heights[place];
            if (height > 1) {
                int from = place * GRAINS;
                int lowest = rows[from];
                System.arraycopy(rows, from + 1, rows, from, height - 1);
                rows[from + height - 1] = lowest;
            }
        }

        private void warmRow(int place, int heat, int keeping) {
            int gain = heat;
            int from = place * GRAINS;
            int to = from + heights[place];
            for (int i = from; i < to; i++) {
                int g = rows[i];
                int warm = warmth[g] + gain;
                warmth[g] = warm - warm / keeping;
                gain /= 2;
            }
        }

        private void strain(int g) {
            int wet = water[g];
            press[g] = warmth[g] > 100 ? (warmth[g] - 100) * wet / 40 : 0;
            int hold = Math.max(1, skin[g] - wet / 20);
            int push = press[g] - air;
            if (push >= strength * hold) {
                end(g, OPEN);
                large[g] = size[g] * push / 10;
                risen = true;
            } else if (warmth[g] > 250) {
                end(g, BURNT);
            } else {
                water[g] = Math.max(0, wet - press[g] * crack[g] / 100);
            }
        }

        private void end(int g, int newState) {
            state[g] = newState;
            ended[g] = gone;
            whole--;
        }

        int tell(int g, int what) {
            switch (what) {
                case 0:
                    return warmth[g];
                case 1:
                    return water[g];
                case 2:
                    return press[g];
                case 3:
                    return state[g];
                case 4:
                    return state[g] == OPEN ? ended[g] : NONE;
                default:
                    return large[g];
            }
        }

        private boolean isOpenAt(int g, int t) {
            return state[g] == OPEN && ended[g] < t;
        }

        int openAt(int t) {
            int many = 0;
            for (int g = 0; g < number; g++) {
                many += isOpenAt(g, t) ? 1 : 0;
            }
            return many;
        }

        int burntAt(int t) {
            int many = 0;
            for (int g = 0; g < number; g++) {
                many += state[g] == BURNT && ended[g] < t ? 1 : 0;
            }
            return many;
        }

        int wholeAt(int t) {
            int inPan = 0;
            for (int g = 0; g < number; g++) {
                inPan += state[g] != OUTSIDE ? 1 : 0;
            }
            return inPan - openAt(t) - burntAt(t);
        }

        int largeAt(int t) {
            int sum = 0;
            for (int g = 0; g < number; g++) {
                sum += isOpenAt(g, t) ? large[g] : 0;
            }
            return sum;
        }

        int brownedAt(int t, int brown) {
            int many = 0;
            for (int g = 0; g < number; g++) {
                many += isOpenAt(g, t) && t - ended[g] > brown ? 1 : 0;
            }
            return many;
        }

        int goneIn(int second) {
            int many = 0;
            for (int g = 0; g < number; g++) {
                many += state[g] == OPEN && ended[g] == second ? 1 : 0;
            }
            return many;
        }
    }

    /** How many each even heat opens and burns. */
    private static final class Evens {
        private final int[] open = new int[HEATS + 1];
        private final int[] burnt = new int[HEATS + 1];

        int tell(int what) {
            int heat = bestHeat();
            if (what == 0) {
                return heat;
            }
            return what == 1 ? open[heat] : burnt[heat];
        }

        private int bestHeat() {
            int best = 1;
            for (int heat = 2; heat <= HEATS; heat++) {
                if (open[heat] > open[best] || open[heat] == open[best] && burnt[heat] < burnt[best]) {
                    best = heat;
                }
            }
            return best;
        }

        private boolean isBetter(int one, int other) {
            return open[one] > open[other] && burnt[one] <= burnt[other]
                || open[one] == open[other] && burnt[one] < burnt[other];
        }

        private boolean isInFront(int heat) {
            for (int other = 1; other <= HEATS; other++) {
                if (isBetter(other, heat)) {
                    return false;
                }
            }
            return true;
        }

        int frontSize() {
            int many = 0;
            for (int heat = 1; heat <= HEATS; heat++) {
                many += isInFront(heat) ? 1 : 0;
            }
            return many;
        }

        int frontHeat(int i) {
            int before = 0;
            for (int heat = 1; heat <= HEATS; heat++) {
                if (isInFront(heat)) {
                    if (before == i) {
                        return heat;
                    }
                    before++;
                }
            }
            return NONE;
        }
    }

    /** What was heard, and which strengths fit it. */
    private static final class Hearing {
        private final int[] who = new int[GRAINS];
        private final int[] when = new int[GRAINS];
        private int number = 0;
        private int least = NONE;
        private int greatest = NONE;
        private int many = 0;
        private int nearest = NONE;
        private int off = 0;

        boolean isFull() {
            return number >= GRAINS;
        }

        void add(int grain, int second) {
            who[number] = grain;
            when[number] = second;
            number++;
        }

        void begin() {
            least = NONE;
            greatest = NONE;
            many = 0;
            nearest = NONE;
        }

        void judge(int strength, Batch batch) {
            int here = offIn(batch);
            if (here == 0) {
                least = least == NONE ? strength : least;
                greatest = strength;
                many++;
            }
            if (nearest == NONE || here < off) {
                nearest = strength;
                off = here;
            }
        }

        private int offIn(Batch batch) {
            int sum = 0;
            for (int i = 0; i < number; i++) {
                int went = batch.tell(who[i], 4);
                sum += went == NONE ? SECONDS : Math.abs(went - when[i]);
            }
            return sum;
        }

        int tell(int what) {
            switch (what) {
                case 0:
                    return least;
                case 1:
                    return greatest;
                case 2:
                    return many;
                case 3:
                    return nearest;
                default:
                    return off;
            }
        }
    }

    /** A row of a form; lost while its form is NONE. */
    private static final class Sheet {
        private final int[] items = new int[ITEMS];
        private int form = NONE;
        private int size = 0;

        boolean isLost() {
            return form == NONE;
        }

        void renew(int newForm, int n) {
            form = newForm;
            size = n;
            Arrays.fill(items, 0);
        }

        /** The finding that keeps item i from being used as of a form, or 0. */
        int objection(int asForm, int i) {
            if (isLost()) {
                return NULL;
            }
            if (form != asForm) {
                return CAST;
            }
            return i < 0 || i >= size ? INDEX : 0;
        }

        boolean hasStretch(int from, int n) {
            return from >= 0 && n >= 0 && from <= size && n <= size - from;
        }

        void put(int i, int v) {
            items[i] = form == BYTES ? (byte) v : form == SHORTS ? (short) v : v;
        }
    }
}
