import java.util.Arrays;

/** Camels, the bales and straws that come on them, and what becomes of it in 24 days. */
public final class CamelStraws {
    public static final int NONE = -1, BAD = -2, NOT = -3, FULL = -4;

    private static final int DAYS = 24, LAST_DAY = 23, DAYS_LAIN = 3;
    private static final int MOST_CAMELS = 8, MOST_BALES = 10, MOST_STRAWS = 8, MOST_SEEN = 8;
    private static final int SORTS = 3, YOUNG = 0, OLD = 1, SIGHING = 2, MOST_FIGURE = 9;
    private static final int MOST_LOAD_SEEN = 99, MOST_SPARED = 2, SIXTEEN = 16;

    /** What is kept of a camel behind each day: at() tells the first six. */
    private static final int LOAD = 0, STRENGTH = 1, LIES = 2, FEES = 3, THROUGH = 4, BROKE = 5,
            TOLD_BY_AT = 6, ROOM = 6, LOST = 7, KEPT = 8;

    private static final int TEXTS = 2, SHEETS = 4, FORMS = 3, BYTES = 0, SHORTS = 1, MOST_ITEMS = 60;

    /** The findings' numbers. */
    private static final int NULL = 1, INDEX = 2, CAST = 3, STORE = 4, SIZE = 5;

    private static final int LEAST_INT = 1 << 31;
    private static final long LEAST_LONG = 1L << 63;

    private final Camels camels = new Camels();
    private final Bales bales = new Bales();
    private final Text[] texts = new Text[] {camels, bales};
    private final Straws straws = new Straws();
    private final Straws drawn = new Straws();
    private final Caravan caravan = new Caravan(camels, bales, straws);
    private final Plans plans = new Plans(caravan);
    private final Guesses guesses = new Guesses(caravan);
    private final Odds odds = new Odds(caravan);
    private final Sheet[] sheets = new Sheet[] {new Sheet(), new Sheet(), new Sheet(), new Sheet()};
    private int latestFinding;

    public CamelStraws() {
    }

    // ---- camels, bales, straws

    public int type(int text, int b) {
        if (!isText(text) || b < 0 || b > 255) {
            return BAD;
        }
        return texts[text].append(b) ? texts[text].size : FULL;
    }

    public int wipe(int text) {
        if (!isText(text)) {
            return BAD;
        }
        int had = texts[text].size;
        texts[text].cutTo(0);
        return had;
    }

    public int undo(int text) {
        if (!isText(text)) {
            return BAD;
        }
        int had = texts[text].size;
        if (had == 0) {
            return NOT;
        }
        texts[text].cutTo(had - 1);
        return had - 1;
    }

    public int fault(int text) {
        return isText(text) ? texts[text].faultPlace : BAD;
    }

    public int camel(int camel, int what) {
        if (!isCamel(camel) || what < 0 || what > 1) {
            return BAD;
        }
        return what == 0 ? camels.sorts[camel] : strengthOf(camels.figures[camel]);
    }

    public int bale(int bale, int what) {
        if (!isBale(bale)) {
            return BAD;
        }
        switch (what) {
            case 0: return bales.camels[bale];
            case 1: return bales.weights[bale];
            case 2: return bales.days[bale];
            default: return BAD;
        }
    }

    public int straw(int day, int camel) {
        if (!isDay(day) || !isPlaceOfCamel(camel)) {
            return BAD;
        }
        return straws.append(day, camel) ? straws.number : FULL;
    }

    public int back() {
        if (straws.number == 0) {
            return NOT;
        }
        straws.number--;
        return straws.number;
    }

    public int read(int s) {
        if (!isSheet(s)) {
            return BAD;
        }
        Sheet sheet = sheets[s];
        if (sheet.isLost()) {
            return finding(NULL);
        }
        int came = 0;
        for (int i = 0; i + 1 < sheet.size; i += 2) {
            if (straw(sheet.items[i], sheet.items[i + 1]) < 0) {
                break;
            }
            came++;
        }
        return came;
    }

    // ---- days

    public int at(int day, int camel, int what) {
        if (!isDay(day) || !isCamel(camel) || what < 0 || what >= TOLD_BY_AT) {
            return BAD;
        }
        return caravan.march(camel).behind(day, what);
    }

    public int through() {
        return caravan.inAll(THROUGH);
    }

    public int lost() {
        return caravan.inAll(LOST);
    }

    public int first(int what) {
        if (what < 0 || what > 1) {
            return BAD;
        }
        int camel = caravan.firstToBreak();
        return what == 1 || camel == NONE ? camel : caravan.march(camel).firstFall;
    }

    public int best() {
        return caravan.bestCamel();
    }

    public int whole() {
        return caravan.wholeCamels();
    }

    public int tired() {
        return caravan.tiredDay();
    }

    // ---- plans

    public int last(int camel, int day) {
        if (!isCamel(camel) || !isDay(day)) {
            return BAD;
        }
        int room = caravan.march(camel).behind(day, ROOM);
        return room >= 1 && room <= 9 ? room : NONE;
    }

    public int bear(int bale, int what) {
        if (!isBale(bale) || what < 0 || what > 1) {
            return BAD;
        }
        plans.tryCamels(bale);
        return what == 0 ? plans.which : plans.howMuch;
    }

    public int when(int bale, int what) {
        if (!isBale(bale) || what < 0 || what > 1) {
            return BAD;
        }
        plans.tryDays(bale);
        return what == 0 ? plans.which : plans.howMuch;
    }

    public int spare(int i) {
        if (i != NONE && (i < 0 || i >= MOST_SPARED)) {
            return BAD;
        }
        int spared = plans.sparedStraws();
        if (spared == NONE) {
            return NONE;
        }
        if (i == NONE) {
            return Integer.bitCount(spared);
        }
        int left = i == 0 ? spared : spared & (spared - 1);
        return left == 0 ? NONE : Integer.numberOfTrailingZeros(left);
    }

    // ---- seen, chance, years

    public int seen(int day, int camel, int load) {
        if (!isDay(day) || !isPlaceOfCamel(camel) || load < 0 || load > MOST_LOAD_SEEN) {
            return BAD;
        }
        return guesses.append(day, camel, load) ? guesses.number : FULL;
    }

    public int forget() {
        int had = guesses.number;
        guesses.number = 0;
        return had;
    }

    public int never() {
        return guesses.strawsThatNeverWere();
    }

    public int was(int camel, int what) {
        if (!isCamel(camel) || what < 0 || what > 1) {
            return BAD;
        }
        return what == 0 ? guesses.valuesThatFit(camels.sorts, camel, 0, SORTS - 1)
                : guesses.valuesThatFit(camels.figures, camel, 1, MOST_FIGURE);
    }

    public int ask(int camel) {
        if (!isCamel(camel)) {
            return BAD;
        }
        int figures = guesses.valuesThatFit(camels.figures, camel, 1, MOST_FIGURE);
        return guesses.dayToLook(camel, figures);
    }

    public long chance(int c, int camel, int what) {
        if (c < 0 || c > SIXTEEN || !isCamel(camel) || what < 0 || what > 1) {
            return LEAST_LONG - BAD;
        }
        odds.ofBreaking(c, camel);
        return what == 0 ? odds.above : odds.below;
    }

    public int years(int seed, int n, int what) {
        if (n < 0 || n > MOST_STRAWS || what < 0 || what > 1) {
            return BAD;
        }
        drawn.draw(seed, n, camels.items);
        caravan.straws = drawn;
        int answer = caravan.inAll(what == 0 ? BROKE : THROUGH);
        caravan.straws = straws;
        return answer;
    }

    // ---- sheets

    public int sheet(int s, int form, int n) {
        if (!isSheet(s) || !isForm(form) || n > MOST_ITEMS) {
            return BAD;
        }
        if (n < 0) {
            return finding(SIZE);
        }
        sheets[s].renew(form, n);
        return n;
    }

    public int lose(int s) {
        if (!isSheet(s)) {
            return BAD;
        }
        if (sheets[s].isLost()) {
            return finding(NULL);
        }
        int had = sheets[s].size;
        sheets[s].renew(NONE, 0);
        return had;
    }

    public int put(int s, int form, int i, int v) {
        if (!isSheet(s) || !isForm(form)) {
            return BAD;
        }
        int found = sheets[s].whatForbids(form, i);
        if (found != 0) {
            return finding(found);
        }
        sheets[s].items[i] = lowestBits(form, v);
        return 1;
    }

    public int get(int s, int form, int i) {
        if (!isSheet(s) || !isForm(form)) {
            return LEAST_INT;
        }
        int found = sheets[s].whatForbids(form, i);
        if (found != 0) {
            latestFinding = found;
            return LEAST_INT;
        }
        return sheets[s].items[i];
    }

    public int copy(int s, int i, int t, int j, int n) {
        if (!isSheet(s) || !isSheet(t)) {
            return BAD;
        }
        Sheet from = sheets[s];
        Sheet to = sheets[t];
        if (from.isLost() || to.isLost()) {
            return finding(NULL);
        }
        if (from.form != to.form) {
            return finding(STORE);
        }
        if (!from.hasItems(i, n) || !to.hasItems(j, n)) {
            return finding(INDEX);
        }
        System.arraycopy(from.items, i, to.items, j, n);
        return 1;
    }

    public int write(int camel, int s) {
        if (!isCamel(camel) || !isSheet(s)) {
            return BAD;
        }
        Sheet sheet = sheets[s];
        if (sheet.isLost()) {
            return finding(NULL);
        }
        int n = Math.min(sheet.size, DAYS);
        Walk walk = caravan.march(camel);
        for (int day = 0; day < n; day++) {
            sheet.items[day] = lowestBits(sheet.form, walk.behind(day, STRENGTH));
        }
        return n;
    }

    public int count(int what) {
        switch (what) {
            case 0: return camels.items;
            case 1: return bales.items;
            case 2: return camels.size;
            case 3: return bales.size;
            case 4: return straws.number;
            case 5: return caravan.inAll(FEES);
            case 6: return caravan.inAll(BROKE);
            case 7: return guesses.number;
            case 8: return latestFinding;
            default: return BAD;
        }
    }

    public long digest() {
        long h = 17;
        for (int what = 0; what < 8; what++) {
            h = mix(h, count(what));
        }
        for (int text = 0; text < TEXTS; text++) {
            h = mix(h, fault(text));
        }
        for (int bale = 0; bale < bales.items; bale++) {
            h = mixBale(h, bale);
        }
        for (int camel = 0; camel < camels.items; camel++) {
            h = mixCamel(h, camel);
        }
        h = mix(mix(h, through()), lost());
        h = mix(mix(h, first(0)), first(1));
        h = mix(mix(mix(h, best()), whole()), tired());
        h = mix(mix(h, spare(NONE)), spare(0));
        h = mix(h, never());
        return mix(mix(h, years(7, 6, 0)), years(7, 6, 1));
    }

    private long mixBale(long before, int bale) {
        long h = before;
        for (int what = 0; what < 3; what++) {
            h = mix(h, bale(bale, what));
        }
        h = mix(mix(h, bear(bale, 0)), bear(bale, 1));
        return mix(mix(h, when(bale, 0)), when(bale, 1));
    }

    private long mixCamel(long before, int camel) {
        long h = mix(mix(before, camel(camel, 0)), camel(camel, 1));
        h = mixDay(h, 0, camel);
        h = mixDay(h, 7, camel);
        h = mixDay(h, 14, camel);
        h = mixDay(h, LAST_DAY, camel);
        h = mix(h, last(camel, 5));
        h = mix(mix(h, was(camel, 0)), was(camel, 1));
        h = mix(h, ask(camel));
        return mix(mix(h, chance(5, camel, 0)), chance(5, camel, 1));
    }

    private long mixDay(long before, int day, int camel) {
        long h = before;
        for (int what = 0; what < TOLD_BY_AT; what++) {
            h = mix(h, at(day, camel, what));
        }
        return h;
    }

    private static long mix(long h, long answer) {
        return 31 * h + answer;
    }

    private int finding(int number) {
        latestFinding = number;
        return -10 - number;
    }

    private boolean isCamel(int camel) {
        return camel >= 0 && camel < camels.items;
    }

    private boolean isBale(int bale) {
        return bale >= 0 && bale < bales.items;
    }

    private static boolean isText(int text) {
        return text >= 0 && text < TEXTS;
    }

    private static boolean isDay(int day) {
        return day >= 0 && day < DAYS;
    }

    /** Straws and sightings may name a camel that is not there (yet). */
    private static boolean isPlaceOfCamel(int camel) {
        return camel >= 0 && camel < MOST_CAMELS;
    }

    private static boolean isSheet(int s) {
        return s >= 0 && s < SHEETS;
    }

    private static boolean isForm(int form) {
        return form >= 0 && form < FORMS;
    }

    private static boolean isBetween(int b, char least, char most) {
        return b >= least && b <= most;
    }

    private static int strengthOf(int figure) {
        return 4 * figure;
    }

    private static int lowestBits(int form, int v) {
        if (form == BYTES) {
            return (byte) v;
        }
        return form == SHORTS ? (short) v : v;
    }

    /** A text told byte by byte: items of like length with ; between them. */
    private abstract static class Text {
        /** As long as the most items are, so that no item too many can begin in it. */
        final int[] bytes;
        /** How many bytes an item has, with the ; behind it. */
        final int period;
        int size;
        int faultPlace = NONE;
        /** How many items there are: none with a fault. */
        int items;

        Text(int mostItems, int period) {
            this.bytes = new int[mostItems * period - 1];
            this.period = period;
        }

        abstract boolean fits(int part, int b);

        abstract void learn(int item, int start);

        final boolean append(int b) {
            if (size >= bytes.length) {
                return false;
            }
            bytes[size] = b;
            size++;
            parse();
            return true;
        }

        final void cutTo(int left) {
            size = left;
            parse();
        }

        private void parse() {
            faultPlace = findFault();
            items = 0;
            if (faultPlace == NONE) {
                for (int start = 0; start < size; start += period) {
                    learn(items, start);
                    items++;
                }
            }
        }

        private int findFault() {
            int part = 0;
            for (int place = 0; place < size; place++) {
                if (!fits(part, bytes[place])) {
                    return place;
                }
                part = part == period - 1 ? 0 : part + 1;
            }
            boolean ended = size == 0 || part == period - 1;
            return ended ? NONE : size;
        }
    }

    private static final class Camels extends Text {
        final int[] sorts = new int[MOST_CAMELS];
        final int[] figures = new int[MOST_CAMELS];

        Camels() {
            super(MOST_CAMELS, 3);
        }

        boolean fits(int part, int b) {
            switch (part) {
                case 0: return b == 'y' || b == 'o' || b == 's';
                case 1: return isBetween(b, '1', '9');
                default: return b == ';';
            }
        }

        void learn(int item, int start) {
            int sort = bytes[start];
            sorts[item] = sort == 'y' ? YOUNG : sort == 'o' ? OLD : SIGHING;
            figures[item] = bytes[start + 1] - '0';
        }
    }

    private static final class Bales extends Text {
        final int[] camels = new int[MOST_BALES];
        final int[] weights = new int[MOST_BALES];
        final int[] days = new int[MOST_BALES];

        Bales() {
            super(MOST_BALES, 4);
        }

        boolean fits(int part, int b) {
            switch (part) {
                case 0: return isBetween(b, 'a', 'h');
                case 1: return isBetween(b, '1', '9');
                case 2: return isBetween(b, 'a', 'x');
                default: return b == ';';
            }
        }

        void learn(int item, int start) {
            camels[item] = bytes[start] - 'a';
            weights[item] = bytes[start + 1] - '0';
            days[item] = bytes[start + 2] - 'a';
        }
    }

    private static final class Straws {
        final int[] days = new int[MOST_STRAWS];
        final int[] camels = new int[MOST_STRAWS];
        int number;

        boolean append(int day, int camel) {
            if (number >= MOST_STRAWS) {
                return false;
            }
            days[number] = day;
            camels[number] = camel;
            number++;
            return true;
        }

        int onCamel(int camel) {
            int bits = 0;
            for (int i = 0; i < number; i++) {
                if (camels[i] == camel) {
                    bits |= 1 << i;
                }
            }
            return bits;
        }

        void draw(int seed, int n, int camelsThere) {
            number = 0;
            if (camelsThere <= 0) {
                return;
            }
            int s = seed;
            for (int i = 0; i < n; i++) {
                s = nextSeed(s);
                int day = (s >>> 16) % DAYS;
                s = nextSeed(s);
                append(day, (s >>> 16) % camelsThere);
            }
        }

        private static int nextSeed(int seed) {
            return 1103515245 * seed + 12345;
        }
    }

    /** One camel's way through the days, and what there was of it behind each. */
    private static final class Walk {
        private final int[] kept = new int[DAYS * KEPT];
        private int sort, strengthAtFirst, load, strength, dayOfFall, fees, brought, spilt, room;
        private boolean lies;
        int broke;
        int firstFall;

        void start(int sortOfCamel, int strengthOfCamel) {
            sort = sortOfCamel;
            strengthAtFirst = strengthOfCamel;
            strength = strengthOfCamel;
            load = 0;
            lies = false;
            fees = 0;
            brought = 0;
            spilt = 0;
            broke = 0;
            firstFall = NONE;
        }

        void rise(int day) {
            if (lies && day - dayOfFall >= DAYS_LAIN) {
                lies = false;
            }
        }

        void take(int weight) {
            if (!lies) {
                load += weight;
            }
        }

        void breakIfOver(int day) {
            if (load <= strength) {
                return;
            }
            lies = true;
            dayOfFall = day;
            if (firstFall == NONE) {
                firstFall = day;
            }
            broke++;
            spilt += load;
            load = 0;
            strength = strength > 3 ? strength - 3 : 0;
        }

        /** Behind a straw: was it the last? */
        void payIfLast() {
            if (!lies && load == strength) {
                fees += load;
            }
        }

        /** Behind all straws of a day, ahead of wear: what a straw more would find. */
        void measureRoom() {
            room = lies ? 0 : strength - load;
        }

        void wear(int day) {
            if (lies) {
                return;
            }
            if (load == 0) {
                strength = strength < strengthAtFirst ? strength + 1 : strengthAtFirst;
                return;
            }
            boolean tires = sort == SIGHING
                    || sort == YOUNG && day % 3 == 2
                    || sort == OLD && 2 * load > strength;
            if (tires && strength > 0) {
                strength--;
            }
        }

        void unloadAtWell(int day) {
            if (day % 8 == 7) {
                brought += load;
                load = 0;
            }
        }

        void keep(int day) {
            int row = day * KEPT;
            kept[row + LOAD] = load;
            kept[row + STRENGTH] = strength;
            kept[row + LIES] = lies ? 1 : 0;
            kept[row + FEES] = fees;
            kept[row + THROUGH] = brought;
            kept[row + BROKE] = broke;
            kept[row + ROOM] = room;
            kept[row + LOST] = spilt;
        }

        int behind(int day, int what) {
            return kept[day * KEPT + what];
        }
    }

    /**
     * Camels, bales and straws together. Who asks what would be, if something were otherwise,
     * changes it in the rows for a while and then sets it back.
     */
    private static final class Caravan {
        final Camels camels;
        final Bales bales;
        Straws straws;
        /** Straws that are taken as if they had not been, as bits. */
        int leftOut;
        private final Walk walk = new Walk();
        private final int[] strengths = new int[DAYS];

        Caravan(Camels camels, Bales bales, Straws straws) {
            this.camels = camels;
            this.bales = bales;
            this.straws = straws;
        }

        /** The walk of a camel that is there; the next march uses the same one again. */
        Walk march(int camel) {
            int busyDays = busyDaysOf(camel);
            walk.start(camels.sorts[camel], strengthOf(camels.figures[camel]));
            for (int day = 0; day < DAYS; day++) {
                walk.rise(day);
                boolean busy = (busyDays >> day & 1) != 0;
                for (int b = 0; busy && b < bales.items; b++) {
                    if (bales.days[b] == day && bales.camels[b] == camel) {
                        walk.take(bales.weights[b]);
                        walk.breakIfOver(day);
                    }
                }
                for (int i = 0; busy && i < straws.number; i++) {
                    if (straws.days[i] == day && straws.camels[i] == camel && (leftOut >> i & 1) == 0) {
                        walk.take(1);
                        walk.breakIfOver(day);
                        walk.payIfLast();
                    }
                }
                walk.measureRoom();
                walk.wear(day);
                walk.breakIfOver(day);
                walk.unloadAtWell(day);
                walk.keep(day);
            }
            return walk;
        }

        /** Days on which something comes on a camel, as bits: on most of them nothing does. */
        private int busyDaysOf(int camel) {
            int bits = 0;
            for (int b = 0; b < bales.items; b++) {
                if (bales.camels[b] == camel) {
                    bits |= 1 << bales.days[b];
                }
            }
            for (int i = 0; i < straws.number; i++) {
                if (straws.camels[i] == camel) {
                    bits |= 1 << straws.days[i];
                }
            }
            return bits;
        }

        int inAll(int what) {
            int sum = 0;
            for (int camel = 0; camel < camels.items; camel++) {
                sum += march(camel).behind(LAST_DAY, what);
            }
            return sum;
        }

        /** What a camel brings through: nothing, if it is not there. */
        int broughtBy(int camel) {
            return camel >= 0 && camel < camels.items ? march(camel).behind(LAST_DAY, THROUGH) : 0;
        }

        int firstToBreak() {
            int first = NONE;
            int firstDay = DAYS;
            for (int camel = 0; camel < camels.items; camel++) {
                int day = march(camel).firstFall;
                if (day != NONE && day < firstDay) {
                    firstDay = day;
                    first = camel;
                }
            }
            return first;
        }

        int bestCamel() {
            int best = NONE;
            int most = NONE;
            for (int camel = 0; camel < camels.items; camel++) {
                int brought = broughtBy(camel);
                if (brought > most) {
                    most = brought;
                    best = camel;
                }
            }
            return best;
        }

        int wholeCamels() {
            int bits = 0;
            for (int camel = 0; camel < camels.items; camel++) {
                if (march(camel).broke == 0) {
                    bits |= 1 << camel;
                }
            }
            return bits;
        }

        int tiredDay() {
            Arrays.fill(strengths, 0);
            for (int camel = 0; camel < camels.items; camel++) {
                march(camel);
                for (int day = 0; day < DAYS; day++) {
                    strengths[day] += walk.behind(day, STRENGTH);
                }
            }
            int tired = 0;
            for (int day = 1; day < DAYS; day++) {
                if (strengths[day] < strengths[tired]) {
                    tired = day;
                }
            }
            return tired;
        }
    }

    /** What had better be done. */
    private static final class Plans {
        private final Caravan caravan;
        /** The answers of tryCamels and tryDays. */
        int which, howMuch;

        Plans(Caravan caravan) {
            this.caravan = caravan;
        }

        void tryCamels(int bale) {
            int[] camelOf = caravan.bales.camels;
            int own = camelOf[bale];
            camelOf[bale] = NONE;
            int withoutIt = caravan.inAll(THROUGH);
            beginChoice();
            for (int camel = 0; camel < MOST_CAMELS; camel++) {
                camelOf[bale] = NONE;
                int others = withoutIt - caravan.broughtBy(camel);
                camelOf[bale] = camel;
                choose(camel, others + caravan.broughtBy(camel));
            }
            camelOf[bale] = own;
        }

        void tryDays(int bale) {
            int[] dayOf = caravan.bales.days;
            int own = dayOf[bale];
            int camel = caravan.bales.camels[bale];
            int others = caravan.inAll(THROUGH) - caravan.broughtBy(camel);
            beginChoice();
            for (int day = 0; day < DAYS; day++) {
                dayOf[bale] = day;
                choose(day, others + caravan.broughtBy(camel));
            }
            dayOf[bale] = own;
        }

        private void beginChoice() {
            which = NONE;
            howMuch = NONE;
        }

        private void choose(int candidate, int brought) {
            if (brought > howMuch) {
                which = candidate;
                howMuch = brought;
            }
        }

        /** The fewest straws without which none breaks, as bits; NONE where two are too few. */
        int sparedStraws() {
            if (allStandWithout(0)) {
                return 0;
            }
            int n = caravan.straws.number;
            for (int i = 0; i < n; i++) {
                if (allStandWithout(1 << i)) {
                    return 1 << i;
                }
            }
            for (int i = 0; i < n; i++) {
                for (int j = i + 1; j < n; j++) {
                    if (allStandWithout(1 << i | 1 << j)) {
                        return 1 << i | 1 << j;
                    }
                }
            }
            return NONE;
        }

        private boolean allStandWithout(int leftOut) {
            caravan.leftOut = leftOut;
            boolean stand = caravan.firstToBreak() == NONE;
            caravan.leftOut = 0;
            return stand;
        }
    }

    /** What was seen, and what may be guessed from it. */
    private static final class Guesses {
        private final Caravan caravan;
        private final int[] days = new int[MOST_SEEN];
        private final int[] places = new int[MOST_SEEN];
        private final int[] loads = new int[MOST_SEEN];
        int number;
        /** A camel's load behind each day, for each figure that it may have. */
        private final int[] loadsByFigure = new int[(MOST_FIGURE + 1) * DAYS];

        Guesses(Caravan caravan) {
            this.caravan = caravan;
        }

        boolean append(int day, int camel, int load) {
            if (number >= MOST_SEEN) {
                return false;
            }
            days[number] = day;
            places[number] = camel;
            loads[number] = load;
            number++;
            return true;
        }

        private boolean allComesOut() {
            for (int k = 0; k < number; k++) {
                if (places[k] >= caravan.camels.items) {
                    return false;
                }
                if (caravan.march(places[k]).behind(days[k], LOAD) != loads[k]) {
                    return false;
                }
            }
            return true;
        }

        int strawsThatNeverWere() {
            int bits = 0;
            for (int i = 0; i < caravan.straws.number; i++) {
                caravan.leftOut = 1 << i;
                if (allComesOut()) {
                    bits |= 1 << i;
                }
            }
            caravan.leftOut = 0;
            return bits;
        }

        /** Values in place of a camel's own, in the row of sorts or of figures, as bits. */
        int valuesThatFit(int[] row, int camel, int least, int most) {
            int own = row[camel];
            int bits = 0;
            for (int value = least; value <= most; value++) {
                row[camel] = value;
                if (allComesOut()) {
                    bits |= 1 << value;
                }
            }
            row[camel] = own;
            return bits;
        }

        /** The day whose load leaves the fewest of these figures open, at worst. */
        int dayToLook(int camel, int figures) {
            noteLoads(camel, figures);
            int best = 0;
            for (int day = 1; day < DAYS; day++) {
                if (mostAlike(day, figures) < mostAlike(best, figures)) {
                    best = day;
                }
            }
            return best;
        }

        private void noteLoads(int camel, int figures) {
            int[] row = caravan.camels.figures;
            int own = row[camel];
            for (int figure = 1; figure <= MOST_FIGURE; figure++) {
                if ((figures >> figure & 1) != 0) {
                    row[camel] = figure;
                    Walk walk = caravan.march(camel);
                    for (int day = 0; day < DAYS; day++) {
                        loadsByFigure[figure * DAYS + day] = walk.behind(day, LOAD);
                    }
                }
            }
            row[camel] = own;
        }

        private int mostAlike(int day, int figures) {
            int most = 0;
            for (int one = 1; one <= MOST_FIGURE; one++) {
                int alike = 0;
                for (int other = 1; other <= MOST_FIGURE; other++) {
                    boolean both = (figures >> one & figures >> other & 1) != 0;
                    if (both && loadsByFigure[one * DAYS + day] == loadsByFigure[other * DAYS + day]) {
                        alike++;
                    }
                }
                most = Math.max(most, alike);
            }
            return most;
        }
    }

    /** Chance, as a fraction in lowest terms. */
    private static final class Odds {
        private final Caravan caravan;
        long above, below;

        Odds(Caravan caravan) {
            this.caravan = caravan;
        }

        void ofBreaking(int c, int camel) {
            int own = caravan.straws.onCamel(camel);
            above = 0;
            for (int come = 0; come < 1 << MOST_STRAWS; come++) {
                // straws on other camels cannot make this one break: their chances add up to 1
                boolean ownAlone = (come & ~own) == 0;
                if (ownAlone && breaksWithout(own & ~come, camel)) {
                    above += power(c, Integer.bitCount(come))
                            * power(SIXTEEN - c, Integer.bitCount(own & ~come));
                }
            }
            below = power(SIXTEEN, Integer.bitCount(own));
            reduce();
        }

        private boolean breaksWithout(int leftOut, int camel) {
            caravan.leftOut = leftOut;
            boolean breaks = caravan.march(camel).broke > 0;
            caravan.leftOut = 0;
            return breaks;
        }

        private static long power(int base, int exponent) {
            long product = 1;
            for (int i = 0; i < exponent; i++) {
                product *= base;
            }
            return product;
        }

        /** What is below is a power of 2, so only halves can be taken out: of 0 until it is 0 by 1. */
        private void reduce() {
            for (int halvings = 0; halvings < 64 && below > 1 && above % 2 == 0; halvings++) {
                above /= 2;
                below /= 2;
            }
        }
    }

    /** A row of a form; the items are made once and used again. */
    private static final class Sheet {
        final int[] items = new int[MOST_ITEMS];
        /** NONE while the sheet is lost. */
        int form = NONE;
        int size;

        boolean isLost() {
            return form == NONE;
        }

        void renew(int newForm, int n) {
            form = newForm;
            size = n;
            Arrays.fill(items, 0);
        }

        /** The number of the finding for an item treated as of a form; 0 for none. */
        int whatForbids(int asForm, int i) {
            if (isLost()) {
                return NULL;
            }
            if (form != asForm) {
                return CAST;
            }
            return hasItems(i, 1) ? 0 : INDEX;
        }

        boolean hasItems(int start, int n) {
            return start >= 0 && n >= 0 && start <= size && n <= size - start;
        }
    }
}
