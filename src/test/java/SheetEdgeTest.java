/**
 * The edges of promises 29 to 36, with what the document says of SHEETS and FINDINGS: one test for each sentence
 * that names one. The sentence stands above its test.
 */
public final class SheetEdgeTest {
    private static final int BAD = CamelStraws.BAD, LEAST = Integer.MIN_VALUE, MOST = Integer.MAX_VALUE;
    private static final int NULL = -11, INDEX = -12, CAST = -13, STORE = -14, SIZE = -15;

    public static void main(String[] args) {
        lostAtFirst();
        zeroToSixtyItems();
        zeroAtFirst();
        sheetBadAheadOfSize();
        sheetSize();
        lose();
        putLowestBits();
        putOrder();
        putIndex();
        getLeastInt();
        getOfTheLeastInt();
        copyAsTheyWere();
        copyNoItems();
        copyOrder();
        copyIndex();
        writeAsManyAsThereAre();
        writeOrder();
        findings();
        count();
        countBad();
        latestFinding();
        digestOfANewOne();
        digestOfAll();
        digestByItsCalls();
        digestTellsNoSheets();
        Check.end();
    }

    private static void due(String call, long got, long want) {
        Check.due(call, got, want);
    }

    private static void dueFound(String call, CamelStraws x, long got, int want) {
        due(call, got, want);
        due("count(8) behind " + call, x.count(8), -10 - want);
    }

    private static CamelStraws row(int s, int form, int... items) {
        CamelStraws x = new CamelStraws();
        fill(x, s, form, items);
        return x;
    }

    private static void fill(CamelStraws x, int s, int form, int... items) {
        due("sheet(" + s + ", " + form + ", " + items.length + ")", x.sheet(s, form, items.length), items.length);
        for (int i = 0; i < items.length; i++) {
            due("put(" + s + ", " + form + ", " + i + ", " + items[i] + ")", x.put(s, form, i, items[i]), 1);
        }
    }

    private static void dueItems(String why, CamelStraws x, int s, int form, int... items) {
        for (int i = 0; i < items.length; i++) {
            due(why + ": get(" + s + ", " + form + ", " + i + ")", x.get(s, form, i), items[i]);
        }
    }

    /** "SHEETS 0 .. 3 are LOST (at first)" */
    private static void lostAtFirst() {
        for (int s = 0; s < 4; s++) {
            for (int form = 0; form < 3; form++) {
                CamelStraws x = Check.told("y1", "");
                dueFound("put of a lost one", x, x.put(s, form, 0, 0), NULL);
                dueFound("read of a lost one", x, x.read(s), NULL);
                dueFound("write to a lost one", x, x.write(0, s), NULL);
                dueFound("copy of a lost one", x, x.copy(s, 0, s, 0, 0), NULL);
                dueFound("lose of a lost one", x, x.lose(s), NULL);
                due("get of a lost one", x.get(s, form, 0), LEAST);
                due("count(8)", x.count(8), 1);
            }
        }
    }

    /** "of 0 to 60 items": "A SHEET is a new row of a FORM with n items: n." */
    private static void zeroToSixtyItems() {
        for (int form = 0; form < 3; form++) {
            for (int n = 0; n <= 60; n++) {
                CamelStraws x = new CamelStraws();
                due("sheet(1, " + form + ", " + n + ")", x.sheet(1, form, n), n);
                due("put behind the last", x.put(1, form, n, 5), INDEX);
                if (n > 0) {
                    due("put of the last", x.put(1, form, n - 1, 5), 1);
                    due("get of the last", x.get(1, form, n - 1), 5);
                }
                due("lose(1)", x.lose(1), n);
            }
        }
    }

    /** "(0 at first)": also where another row was. */
    private static void zeroAtFirst() {
        CamelStraws x = row(0, 2, 1, 2, 3, 4);
        x.sheet(0, 2, 4);
        dueItems("the same again", x, 0, 2, 0, 0, 0, 0);
        fill(x, 0, 2, 1, 2, 3, 4);
        x.sheet(0, 2, 2);
        x.sheet(0, 2, 4);
        dueItems("shorter, and longer again", x, 0, 2, 0, 0, 0, 0);
        fill(x, 0, 0, 1, 2, 3, 4);
        x.lose(0);
        x.sheet(0, 1, 4);
        dueItems("lost, and of another form", x, 0, 1, 0, 0, 0, 0);
        due("no item of it is of the old form", x.get(0, 0, 0), LEAST);
        due("count(8)", x.count(8), 3);
    }

    /** "BAD: SHEET, FORM, above 60; SIZE." */
    private static void sheetBadAheadOfSize() {
        CamelStraws x = row(0, 1, 7);
        for (int n : new int[] {-1, 0, 60, 61, LEAST, MOST}) {
            for (int wrong : new int[] {-1, 4, LEAST, MOST}) {
                due("sheet(" + wrong + ", 0, " + n + ")", x.sheet(wrong, 0, n), BAD);
            }
            for (int wrong : new int[] {-1, 3, LEAST, MOST}) {
                due("sheet(0, " + wrong + ", " + n + ")", x.sheet(0, wrong, n), BAD);
            }
        }
        for (int n : new int[] {61, 62, 1000, MOST}) {
            due("sheet(0, 0, " + n + ")", x.sheet(0, 0, n), BAD);
        }
        due("no finding", x.count(8), 0);
        due("it is as it was", x.get(0, 1, 0), 7);
    }

    /** "5 SIZE: below 0" */
    private static void sheetSize() {
        for (int n : new int[] {-1, -2, -60, LEAST}) {
            CamelStraws x = row(0, 1, 7);
            dueFound("sheet(0, 2, " + n + ")", x, x.sheet(0, 2, n), SIZE);
            due("it is as it was", x.get(0, 1, 0), 7);
            due("sheet(1, 2, " + n + ") of a lost one", x.sheet(1, 2, n), SIZE);
            due("it is lost yet", x.lose(1), NULL);
        }
    }

    /** "It is LOST: how many items it had. BAD; NULL." */
    private static void lose() {
        CamelStraws x = row(3, 0, 1, 2, 3);
        for (int wrong : new int[] {-1, 4, LEAST, MOST}) {
            due("lose(" + wrong + ")", x.lose(wrong), BAD);
        }
        due("BAD is no finding", x.count(8), 0);
        due("lose(3)", x.lose(3), 3);
        dueFound("lose(3) again", x, x.lose(3), NULL);
        x.sheet(3, 0, 0);
        due("a row of no items is not lost", x.lose(3), 0);
        dueFound("now it is", x, x.lose(3), NULL);
    }

    /** "becomes v (the lowest bits that it has): 1" */
    private static void putLowestBits() {
        int[] v = {0, 127, 128, 255, 256, -1, -128, -129, 32767, 32768, 65535, 65536, -32768, -32769, MOST, LEAST, 0x12345678, 0x89abcdef};
        for (int value : v) {
            CamelStraws x = new CamelStraws();
            for (int form = 0; form < 3; form++) {
                x.sheet(form, form, 3);
                due("put(" + form + ", " + form + ", 1, " + value + ")", x.put(form, form, 1, value), 1);
                long modulo = form == 0 ? 1L << 8 : form == 1 ? 1L << 16 : 1L << 32;
                long low = Math.floorMod((long) value, modulo);
                long want = low >= modulo / 2 ? low - modulo : low;
                dueItems("put " + value, x, form, form, 0, (int) want, 0);
            }
            due("no finding", x.count(8), 0);
        }
    }

    /** "BAD; NULL; CAST; INDEX.": each ahead of those behind it. */
    private static void putOrder() {
        CamelStraws x = row(0, 0, 5);
        due("BAD, LOST", x.put(1, 3, 9, 1), BAD);
        due("BAD, CAST, INDEX", x.put(0, 3, 9, 1), BAD);
        due("BAD: a form below", x.put(0, -1, 0, 1), BAD);
        due("BAD: a sheet below", x.put(-1, 0, 0, 1), BAD);
        due("BAD: a sheet above", x.put(4, 0, 0, 1), BAD);
        due("no finding yet", x.count(8), 0);
        dueFound("NULL, INDEX", x, x.put(1, 0, -1, 1), NULL);
        dueFound("CAST, INDEX", x, x.put(0, 1, 1, 1), CAST);
        dueFound("CAST", x, x.put(0, 2, 0, 1), CAST);
        dueFound("INDEX", x, x.put(0, 0, 1, 1), INDEX);
        due("it is as it was", x.get(0, 0, 0), 5);
    }

    /** "2 INDEX: there is no such item" */
    private static void putIndex() {
        for (int form = 0; form < 3; form++) {
            CamelStraws x = row(2, form, 5, 6);
            for (int i : new int[] {-1, 2, 3, 60, 61, LEAST, MOST}) {
                dueFound("put(2, " + form + ", " + i + ", 9)", x, x.put(2, form, i, 9), INDEX);
                due("get(2, " + form + ", " + i + ")", x.get(2, form, i), LEAST);
            }
            dueItems("as they were", x, 2, form, 5, 6);
        }
    }

    /** "BAD: the least int; so are NULL, CAST, INDEX (count() 8 tells)" */
    private static void getLeastInt() {
        CamelStraws x = row(0, 1, 5);
        for (int[] wrong : new int[][] {{-1, 0}, {4, 0}, {0, -1}, {0, 3}, {1, 3}, {LEAST, 0}, {0, MOST}}) {
            due("get(" + wrong[0] + ", " + wrong[1] + ", 9)", x.get(wrong[0], wrong[1], 9), LEAST);
        }
        due("BAD: count(8)", x.count(8), 0);
        due("NULL, ahead of INDEX", x.get(1, 1, 9), LEAST);
        due("NULL: count(8)", x.count(8), 1);
        due("CAST, ahead of INDEX", x.get(0, 0, 9), LEAST);
        due("CAST: count(8)", x.count(8), 3);
        due("CAST of a wider form", x.get(0, 2, 0), LEAST);
        due("INDEX", x.get(0, 1, 1), LEAST);
        due("INDEX: count(8)", x.count(8), 2);
        due("a good one", x.get(0, 1, 0), 5);
        due("tells nothing: count(8)", x.count(8), 2);
    }

    /** The same: an item that is the least int is no finding. */
    private static void getOfTheLeastInt() {
        CamelStraws x = row(0, 2, LEAST, MOST);
        due("get(0, 2, 0)", x.get(0, 2, 0), LEAST);
        due("count(8)", x.count(8), 0);
    }

    /** "n items of SHEET s, from i on, come to SHEET t (perhaps s, as they were), from j on: 1." */
    private static void copyAsTheyWere() {
        for (int form = 0; form < 3; form++) {
            for (int i = 0; i <= 4; i++) {
                for (int j = 0; j <= 4; j++) {
                    int n = 4 - Math.max(i, j);
                    int[] want = {1, 2, 3, 4};
                    System.arraycopy(new int[] {1, 2, 3, 4}, i, want, j, n);
                    CamelStraws x = row(0, form, 1, 2, 3, 4);
                    due("copy(0, " + i + ", 0, " + j + ", " + n + ")", x.copy(0, i, 0, j, n), 1);
                    dueItems("within one", x, 0, form, want);
                    x = row(0, form, 1, 2, 3, 4);
                    fill(x, 1, form, 1, 2, 3, 4);
                    due("copy(0, " + i + ", 1, " + j + ", " + n + ")", x.copy(0, i, 1, j, n), 1);
                    dueItems("to another", x, 1, form, want);
                    dueItems("from it", x, 0, form, 1, 2, 3, 4);
                }
            }
        }
    }

    /** The same, of no items: at the ends too. */
    private static void copyNoItems() {
        CamelStraws x = row(0, 0);
        fill(x, 1, 0, 1, 2);
        due("none to none", x.copy(0, 0, 0, 0, 0), 1);
        due("none from none", x.copy(0, 0, 1, 2, 0), 1);
        due("none to none", x.copy(1, 2, 0, 0, 0), 1);
        dueItems("as they were", x, 1, 0, 1, 2);
        due("no finding", x.count(8), 0);
    }

    /** "BAD: the SHEETS; NULL: s, t; STORE; INDEX": each ahead of those behind it. */
    private static void copyOrder() {
        CamelStraws x = row(0, 0, 1);
        fill(x, 1, 1, 1);
        for (int wrong : new int[] {-1, 4, LEAST, MOST}) {
            due("copy(" + wrong + ", -1, 3, -1, -1)", x.copy(wrong, -1, 3, -1, -1), BAD);
            due("copy(3, -1, " + wrong + ", -1, -1)", x.copy(3, -1, wrong, -1, -1), BAD);
            due("copy(0, 0, " + wrong + ", 0, 1)", x.copy(0, 0, wrong, 0, 1), BAD);
        }
        due("no finding yet", x.count(8), 0);
        dueFound("s is lost", x, x.copy(3, -1, 0, 5, -1), NULL);
        dueFound("t is lost", x, x.copy(0, -1, 3, 5, -1), NULL);
        dueFound("both are", x, x.copy(2, 0, 3, 0, 0), NULL);
        dueFound("STORE, INDEX", x, x.copy(0, -1, 1, 5, -1), STORE);
        dueFound("STORE to a wider form", x, x.copy(0, 0, 1, 0, 1), STORE);
        dueFound("STORE to a narrower form", x, x.copy(1, 0, 0, 0, 1), STORE);
        dueFound("STORE of no items", x, x.copy(0, 0, 1, 0, 0), STORE);
        dueItems("as they were", x, 1, 1, 1);
    }

    /** "INDEX: below 0, not so many." */
    private static void copyIndex() {
        int[][] wrong = {{-1, 0, 1}, {0, -1, 1}, {0, 0, -1}, {0, 0, 4}, {3, 0, 1}, {0, 2, 1}, {2, 0, 2}, {0, 1, 2}, {4, 0, 0}, {0, 3, 0},
            {1, 1, MOST}, {MOST, 0, 1}, {0, MOST, 1}, {MOST, MOST, MOST}, {LEAST, 0, 0}, {0, LEAST, 0}, {0, 0, LEAST}, {2, 2, MOST - 1},
            {-1, -1, 0}, {-1, 0, 0}, {0, -1, 0}};
        for (int[] w : wrong) {
            CamelStraws x = row(0, 2, 1, 2, 3);
            fill(x, 1, 2, 8, 9);
            dueFound("copy(0, " + w[0] + ", 1, " + w[1] + ", " + w[2] + ")", x, x.copy(0, w[0], 1, w[1], w[2]), INDEX);
            dueItems("as they were", x, 0, 2, 1, 2, 3);
            dueItems("as they were", x, 1, 2, 8, 9);
        }
        CamelStraws x = row(0, 2, 1, 2, 3);
        dueFound("within one", x, x.copy(0, 0, 0, 1, 3), INDEX);
        dueItems("as they were", x, 0, 2, 1, 2, 3);
        fill(x, 1, 2, 8, 9);
        due("all that there are", x.copy(0, 1, 1, 0, 2), 1);
        dueItems("they came", x, 1, 2, 2, 3);
    }

    /** "from item 0 on, as many as there are items, 24 at most: how many" */
    private static void writeAsManyAsThereAre() {
        for (int form = 0; form < 3; form++) {
            for (int n = 0; n <= 60; n += n == 0 || n >= 22 && n < 26 ? 1 : n == 1 ? 21 : 17) {
                CamelStraws x = Check.told("y1;s9", "b1a;b1i;b1q");
                x.sheet(2, form, n);
                for (int i = 0; i < n; i++) {
                    x.put(2, form, i, 99);
                }
                due("write(1, 2) to " + n, x.write(1, 2), Math.min(n, 24));
                for (int i = 0; i < n; i++) {
                    due("item " + i + " of " + n, x.get(2, form, i), i < 24 ? 35 - i : 99);
                }
                due("it has as many", x.lose(2), n);
            }
        }
    }

    /** "BAD; NULL." */
    private static void writeOrder() {
        CamelStraws x = Check.told("y1;y1", "");
        x.sheet(0, 0, 2);
        for (int wrong : new int[] {-1, 2, 8, LEAST, MOST}) {
            due("write(" + wrong + ", 0)", x.write(wrong, 0), BAD);
            due("write(" + wrong + ", 1) to a lost one", x.write(wrong, 1), BAD);
        }
        for (int wrong : new int[] {-1, 4, LEAST, MOST}) {
            due("write(0, " + wrong + ")", x.write(0, wrong), BAD);
        }
        due("no finding", x.count(8), 0);
        dueFound("write(0, 1)", x, x.write(0, 1), NULL);
        dueItems("as they were", x, 0, 0, 0, 0);
    }

    /** "FINDINGS (answers -10 less the number ..): 1 NULL ..; 2 INDEX ..; 3 CAST ..; 4 STORE ..; 5 SIZE" */
    private static void findings() {
        CamelStraws x = row(0, 0, 5);
        fill(x, 1, 1, 5);
        dueFound("NULL", x, x.lose(3), -11);
        dueFound("INDEX", x, x.put(0, 0, 1, 0), -12);
        dueFound("CAST", x, x.put(0, 1, 0, 0), -13);
        dueFound("STORE", x, x.copy(0, 0, 1, 0, 1), -14);
        dueFound("SIZE", x, x.sheet(0, 0, -1), -15);
    }

    /** "0 CAMELS, 1 BALES, 2, 3 bytes of texts, 4 STRAWS, 5 FEES of all by DAY 23, 6 how often any BROKE, 7 SEEN" */
    private static void count() {
        CamelStraws x = Check.told("y1;y1;y9", "a3g;b3g;b3x;c9a", 6, 0, 6, 1, 23, 1, 9, 5);
        x.seen(0, 0, 0);
        x.seen(1, 7, 99);
        // fees: 4 and 4 on day 6, 4 on day 23, where the wear then breaks it
        int[] want = {3, 4, 8, 15, 4, 12, 1, 2, 0};
        for (int what = 0; what <= 8; what++) {
            due("count(" + what + ")", x.count(what), want[what]);
        }
        CamelStraws often = Check.told("y1;y1", "a5a;a5j;b5a;a5x");
        due("count(6): three times one, one time another", often.count(6), 4);
    }

    /** "BAD." */
    private static void countBad() {
        CamelStraws x = new CamelStraws();
        for (int wrong : new int[] {-1, 9, 10, LEAST, MOST}) {
            due("count(" + wrong + ")", x.count(wrong), BAD);
        }
    }

    /** "8 the number of the latest FINDING (0 before any)": what goes well, or is refused otherwise, leaves it. */
    private static void latestFinding() {
        CamelStraws x = new CamelStraws();
        due("before any", x.count(8), 0);
        x.sheet(0, 0, -1);
        x.type(0, 'y');
        x.type(0, 256);
        x.wipe(0);
        x.undo(0);
        x.back();
        x.sheet(0, 0, 1);
        x.put(0, 0, 0, 3);
        x.put(5, 0, 0, 3);
        x.get(0, 0, 0);
        x.get(5, 0, 0);
        x.copy(0, 0, 0, 0, 1);
        x.read(0);
        x.lose(0);
        x.digest();
        x.count(9);
        due("SIZE yet", x.count(8), 5);
        x.lose(0);
        due("NULL now", x.count(8), 1);
    }

    private static long mixed(long... answers) {
        java.math.BigInteger h = java.math.BigInteger.valueOf(17);
        for (long answer : answers) {
            h = h.multiply(java.math.BigInteger.valueOf(31)).add(java.math.BigInteger.valueOf(answer));
        }
        return h.longValue();
    }

    /** "h is 17; h becomes 31 h and each of ..": of a new object there are counts, faults, and the ends. */
    private static void digestOfANewOne() {
        // counts; faults; through, lost, first, first, best, whole, tired, spare, spare, never, years, years
        long want = mixed(0, 0, 0, 0, 0, 0, 0, 0, -1, -1, 0, 0, -1, -1, -1, 0, 0, 0, -1, 0, 0, 0);
        due("digest()", new CamelStraws().digest(), want);
    }

    /** "as longs that wrap": one camel, one bale, one straw, one sighting, each answer worked out by hand. */
    private static void digestOfAll() {
        CamelStraws x = Check.told("y1", "a3g", 6, 0);
        x.seen(6, 0, 4);
        long years0 = x.years(7, 6, 0), years1 = x.years(7, 6, 1);
        long want = mixed(1, 1, 2, 3, 1, 4, 0, 1, -1, -1,
                // bale: camel, weight, day; on day 6 the straw is beside it on camel 0: 4 in all; any day of 6, 7 and 8 on
                0, 3, 6, 0, 4, 6, 4,
                0, 4,
                0, 4, 0, 0, 0, 0,
                0, 4, 0, 4, 4, 0,
                0, 4, 0, 4, 4, 0,
                0, 4, 0, 4, 4, 0,
                // last(0, 5); sorts by which 4 stays behind day 6: young; figures: all; day 2 on none parts them
                4, 1, 1022, 0,
                0, 1,
                4, 0, -1, -1, 0, 1, 0, 0, -1, 0, years0, years1);
        due("digest()", x.digest(), want);
    }

    /** The same, by the calls that it names, of caravans that break, lie and bring through. */
    private static void digestByItsCalls() {
        dueByItsCalls(Check.told("y1;o2;s3", "a3g;c9a", 6, 0, 6, 0), 6, 2, 9);
        dueByItsCalls(Check.told("o1;s2;y1", "b2e;b2n;c3a;a4b;a1d;c4o", 4, 1, 5, 2, 14, 0, 13, 1, 1, 2, 3, 2, 0, 1), 4, 1, 3);
        dueByItsCalls(Check.told("s3;y2", "a6a;b7e;a2m;b5n;b3n", 3, 0, 4, 1, 5, 1, 13, 1, 14, 0), 13, 1, 8);
        dueByItsCalls(Check.told("y1;y1;y1;s1;s1;s1;o1;o1", "h5b;b4b;c1n;d2f;e1m", 1, 1, 13, 4, 14, 2, 6, 3, 0, 5, 0, 6), 0, 5, 1);
        dueByItsCalls(Check.told("y1", "a4g", 6, 0), 6, 0, 4);
        dueByItsCalls(Check.told("y1", "a4g", 2, 3, 6, 0, 6, 0), 6, 0, 0);
        dueByItsCalls(Check.told("", "h5b;b4b", 1, 1), 0, 5, 1);
        dueByItsCalls(Check.told("y1;", "h5b;b4b", 1, 1), 0, 5, 1);
        dueByItsCalls(Check.told("y1", "a5b;a4", 1, 1), 0, 0, 0);
    }

    private static void dueByItsCalls(CamelStraws x, int day, int camel, int load) {
        x.seen(day, camel, load);
        java.util.List<Long> all = new java.util.ArrayList<>();
        for (int what = 0; what <= 7; what++) {
            all.add((long) x.count(what));
        }
        all.add((long) x.fault(0));
        all.add((long) x.fault(1));
        for (int b = 0; b < x.count(1); b++) {
            for (int answer : new int[] {x.bale(b, 0), x.bale(b, 1), x.bale(b, 2), x.bear(b, 0), x.bear(b, 1), x.when(b, 0), x.when(b, 1)}) {
                all.add((long) answer);
            }
        }
        for (int c = 0; c < x.count(0); c++) {
            all.add((long) x.camel(c, 0));
            all.add((long) x.camel(c, 1));
            for (int what = 0; what < 24; what++) {
                all.add((long) x.at(new int[] {0, 7, 14, 23}[what / 6], c, what % 6));
            }
            for (long answer : new long[] {x.last(c, 5), x.was(c, 0), x.was(c, 1), x.ask(c), x.chance(5, c, 0), x.chance(5, c, 1)}) {
                all.add(answer);
            }
        }
        for (int answer : new int[] {x.through(), x.lost(), x.first(0), x.first(1), x.best(), x.whole(), x.tired(), x.spare(-1), x.spare(0),
                x.never(), x.years(7, 6, 0), x.years(7, 6, 1)}) {
            all.add((long) answer);
        }
        due("digest() by its calls", x.digest(), mixed(all.stream().mapToLong(Long::longValue).toArray()));
    }

    /** The same: what is in sheets, and count() 8, are no part of it. */
    private static void digestTellsNoSheets() {
        CamelStraws x = Check.told("y1", "a3g", 6, 0);
        long before = x.digest();
        x.sheet(0, 0, 4);
        x.put(0, 0, 1, 1);
        x.lose(2);
        due("digest()", x.digest(), before);
        x.straw(6, 0);
        Check.holds("a straw more is told", x.digest() != before);
        x.back();
        due("digest() without it", x.digest(), before);
    }
}
