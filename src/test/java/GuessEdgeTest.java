import java.math.BigInteger;

/**
 * The edges of promises 22 to 28, with what the document says of SEEN, NEVER, SORT, STRONG, ASK, CHANCE, FRACTIONS,
 * YEARS and LOTS: one test for each sentence that names one. The sentence stands above its test.
 */
public final class GuessEdgeTest {
    private static final int NONE = CamelStraws.NONE, BAD = CamelStraws.BAD, FULL = CamelStraws.FULL;
    private static final int LEAST = Integer.MIN_VALUE, MOST = Integer.MAX_VALUE;

    public static void main(String[] args) {
        seenEdges();
        seenFull();
        forget();
        neverWithNothingSeen();
        neverEachAlone();
        neverOfOneThatIsNotThere();
        sortBits();
        strongBits();
        allThatWasSeen();
        wasOfOneThatIsNotThere();
        wasBad();
        askOfLikeOnes();
        askOnEachDay();
        askOfThoseOfStrong();
        askOfNone();
        askBad();
        chanceOfNoneAndAll();
        chanceInLowestTerms();
        chanceEachByItself();
        chanceEver();
        chanceBad();
        yearsWithoutCamels();
        yearsInPlaceOfThoseTold();
        yearsByLots();
        yearsBad();
        Check.end();
    }

    private static void due(String call, long got, long want) {
        Check.due(call, got, want);
    }

    private static CamelStraws saw(CamelStraws x, int... dayCamelLoad) {
        x.forget();
        for (int i = 0; i + 2 < dayCamelLoad.length; i += 3) {
            due("seen", x.seen(dayCamelLoad[i], dayCamelLoad[i + 1], dayCamelLoad[i + 2]), i / 3 + 1);
        }
        return x;
    }

    /** "behind a DAY the LOAD of a CAMEL (0 to 7 ..) was so much (0 to 99)" */
    private static void seenEdges() {
        CamelStraws x = new CamelStraws();
        due("seen(0, 0, 0)", x.seen(0, 0, 0), 1);
        due("seen(23, 7, 99)", x.seen(23, 7, 99), 2);
        int[][] wrong = {{-1, 0, 0}, {24, 0, 0}, {0, -1, 0}, {0, 8, 0}, {0, 0, -1}, {0, 0, 100}, {LEAST, 0, 0}, {MOST, 0, 0},
            {0, LEAST, 0}, {0, MOST, 0}, {0, 0, LEAST}, {0, 0, MOST}};
        for (int[] w : wrong) {
            due("seen(" + w[0] + ", " + w[1] + ", " + w[2] + ")", x.seen(w[0], w[1], w[2]), BAD);
        }
        due("count(7)", x.count(7), 2);
    }

    /** "SEEN, 8 at most": "SEEN more: how many. BAD; FULL." */
    private static void seenFull() {
        CamelStraws x = Check.told("y9", "a1a");
        for (int i = 1; i <= 8; i++) {
            due("seen(0, 0, 1)", x.seen(0, 0, 1), i);
        }
        due("a ninth", x.seen(0, 0, 2), FULL);
        due("it is not kept", x.was(0, 0), 7);
        due("BAD is ahead of FULL: the day", x.seen(24, 0, 2), BAD);
        due("BAD is ahead of FULL: the camel", x.seen(0, 8, 2), BAD);
        due("BAD is ahead of FULL: the load", x.seen(0, 0, 100), BAD);
        due("count(7)", x.count(7), 8);
        due("forget()", x.forget(), 8);
        due("room again", x.seen(0, 0, 2), 1);
        due("it is kept", x.was(0, 0), 0);
    }

    /** "All SEEN are forgotten: how many." */
    private static void forget() {
        CamelStraws x = Check.told("y9", "a1a", 3, 0);
        due("forget() of none", x.forget(), 0);
        saw(x, 0, 0, 9);
        due("was(0, 0)", x.was(0, 0), 0);
        due("forget()", x.forget(), 1);
        due("forget() again", x.forget(), 0);
        due("was(0, 0)", x.was(0, 0), 7);
        due("straws stay", x.count(4), 1);
    }

    /** "STRAWS each of which .. makes all that was SEEN come out so": with nothing seen, each does. */
    private static void neverWithNothingSeen() {
        CamelStraws x = Check.told("y9", "");
        for (int n = 0; n <= 8; n++) {
            due("never() of " + n, x.never(), (1 << n) - 1);
            x.straw(n, n % 8);
        }
    }

    /** "had it alone not been": each of eight in its turn, and not two of them. */
    private static void neverEachAlone() {
        CamelStraws x = Check.told("y9;y9;y9;y9;y9;y9;y9;y9", "", 0, 0, 1, 1, 2, 2, 3, 3, 4, 4, 5, 5, 6, 6, 6, 7);
        for (int c = 0; c < 8; c++) {
            saw(x, 6, c, 0);
            due("never(): camel " + c + " had none", x.never(), 1 << c);
        }
        saw(x, 6, 0, 0, 6, 1, 0);
        due("never(): two had none", x.never(), 0);
        saw(x, 6, 0, 1, 6, 1, 1);
        due("never(): neither of two", x.never(), 0xfc);
        saw(x, 6, 0, 0, 6, 0, 1);
        due("never(): it had one and none", x.never(), 0);
        CamelStraws broken = Check.told("y1", "a4g", 6, 0);
        saw(broken, 6, 0, 4);
        due("never(): without it none breaks", broken.never(), 1);
        saw(broken, 6, 0, 0);
        due("never(): with it one broke", broken.never(), 0);
    }

    /** "one that there is not: never": even of load 0. */
    private static void neverOfOneThatIsNotThere() {
        CamelStraws x = Check.told("y9", "", 0, 1, 0, 7);
        due("never(): straws of those not there", saw(x, 0, 0, 0).never(), 3);
        due("never() of camel 1", saw(x, 0, 1, 0).never(), 0);
        due("never() of camel 7", saw(x, 23, 7, 0).never(), 0);
        due("never() beside a good one", saw(x, 0, 0, 0, 0, 1, 0).never(), 0);
        x.wipe(0);
        due("never() with no camels", saw(x, 0, 0, 0).never(), 0);
        due("never() with no camels, nothing seen", saw(x).never(), 3);
    }

    /** "SORT of a CAMEL: 0 y, 1 o, 2 s, in place of its own, likewise, as bits." */
    private static void sortBits() {
        // 4 of 8 from day 0: young 8, 8, 7; old 8 on each day; sighing 7, 6, 5, 4, then it breaks
        for (String own : new String[] {"y2", "o2", "s2"}) {
            CamelStraws x = Check.told(own, "a4a");
            due(own + ": nothing seen", saw(x).was(0, 0), 7);
            due(own + ": 4 behind day 3", saw(x, 3, 0, 4).was(0, 0), 7);
            due(own + ": 4 behind day 4", saw(x, 4, 0, 4).was(0, 0), 3);
            due(own + ": 0 behind day 4", saw(x, 4, 0, 0).was(0, 0), 4);
            due(own + ": 5 behind day 4", saw(x, 4, 0, 5).was(0, 0), 0);
            due(own + ": its own sort stays", x.camel(0, 0), "yos".indexOf(own.charAt(0)));
        }
        CamelStraws full = Check.told("s2", "a8a");
        due("8 of 8 behind day 0: a young one alone", saw(full, 0, 0, 8).was(0, 0), 1);
        due("8 of 8 gone behind day 0: old or sighing", saw(full, 0, 0, 0).was(0, 0), 6);
    }

    /** "STRONG of a CAMEL: the figure 1 to 9, in place of its own, likewise, as bits (bit 1 on)." */
    private static void strongBits() {
        for (int own = 1; own <= 9; own += 4) {
            CamelStraws x = Check.told("y" + own, "a9a;a9a;a9a;a6a");
            due("nothing seen", saw(x).was(0, 1), 1022);
            due("33 of it: 9 alone", saw(x, 0, 0, 33).was(0, 1), 512);
            due("none of it: 1 to 8", saw(x, 0, 0, 0).was(0, 1), 510);
            due("32 of it: none", saw(x, 0, 0, 32).was(0, 1), 0);
            due("its own strength stays", x.camel(0, 1), 4 * own);
        }
        due("5 of it: 2 on", saw(Check.told("y9", "a5a"), 0, 0, 5).was(0, 1), 1020);
        due("none of 5: 1 alone", saw(Check.told("y9", "a5a"), 0, 0, 0).was(0, 1), 2);
    }

    /** "makes all that was SEEN come out so": of other camels too. */
    private static void allThatWasSeen() {
        CamelStraws x = Check.told("y9;y9", "a5a;b1a");
        due("the other as it is", saw(x, 0, 0, 5, 0, 1, 1).was(0, 1), 1020);
        due("the other as it is not", saw(x, 0, 0, 5, 0, 1, 2).was(0, 1), 0);
        due("the other as it is not: sort", saw(x, 0, 0, 5, 0, 1, 2).was(0, 0), 0);
        due("the other may be any", saw(x, 0, 0, 5, 0, 1, 1).was(1, 1), 1022);
        due("the other cannot mend it", saw(x, 0, 0, 0).was(1, 1), 0);
    }

    /** "one that there is not: never" */
    private static void wasOfOneThatIsNotThere() {
        CamelStraws x = saw(Check.told("y9", "a1a"), 0, 0, 1, 0, 1, 0);
        due("was(0, 0)", x.was(0, 0), 0);
        due("was(0, 1)", x.was(0, 1), 0);
        Check.due("type", x.type(0, ';'), 3);
        x.type(0, 's');
        x.type(0, '1');
        due("was(0, 0), as soon as it is there", x.was(0, 0), 7);
        due("was(0, 1), as soon as it is there", x.was(0, 1), 1022);
    }

    /** "SORT (what = 0), STRONG (1), as bits. BAD." */
    private static void wasBad() {
        CamelStraws x = Check.told("y1;y1", "");
        due("was(1, 1)", x.was(1, 1), 1022);
        for (int wrong : new int[] {-1, 2, 8, LEAST, MOST}) {
            due("was(" + wrong + ", 0)", x.was(wrong, 0), BAD);
            due("was(0, " + wrong + ")", x.was(0, wrong), BAD);
        }
        due("of none", new CamelStraws().was(0, 0), BAD);
    }

    /** "the DAY behind which the greatest number .. is least, of like ones the least" */
    private static void askOfLikeOnes() {
        due("all days alike", Check.told("y1", "").ask(0), 0);
        due("5 on day 9: 1 apart from 2 to 9, that day and later", Check.told("y1", "a5j").ask(0), 9);
        due("on day 22, the last ahead of a well", Check.told("y1", "a5w").ask(0), 22);
        due("at a well nothing is to be seen", Check.told("y1", "a5x").ask(0), 0);
        // 17 parts 1 to 4 from 5 to 9; 9 parts 1 and 2 from 3 to 9: five alike are fewer than seven
        due("five alike are fewer than seven", Check.told("y1", "a9a;a9i;a8i").ask(0), 8);
        // 4 from day 0 on: the least strength gives way on day 2, 0, 0; by sighing the next one does on day 4
        due("by its own sort: young", Check.told("y5", "a4a").ask(0), 2);
        due("by its own sort: old", Check.told("o5", "a4a").ask(0), 0);
        due("by its own sort: sighing", Check.told("s5", "a4a").ask(0), 4);
        // by the load 0 behind day 2, with 9 on it, 1 and 2 are left
        CamelStraws x = saw(Check.told("y5", "a9c"), 2, 0, 0);
        due("was(0, 1)", x.was(0, 1), 6);
        due("nothing parts 1 and 2", x.ask(0), 0);
    }

    /** "the DAY behind which": what comes on a day parts 1 from 2 to 9 behind it, but for a well's. */
    private static void askOnEachDay() {
        for (int day = 0; day < 24; day++) {
            CamelStraws x = Check.told("y1", "a5" + (char) ('a' + day));
            due("5 on day " + day, x.ask(0), day == 7 || day == 15 || day == 23 ? 0 : day);
        }
        // 21 on day 0: 1 to 5, 6 to 9; 17 on day 8: 1 to 4, 5 to 9: five at most either time
        due("of like ones that part otherwise", Check.told("y1", "a9a;a9a;a3a;a9i;a8i").ask(0), 0);
    }

    /** "of those of STRONG": the others do not count. */
    private static void askOfThoseOfStrong() {
        // 9 on day 0 parts 1, 2 from the rest; 5 on day 8 parts 1; 13 on day 16 parts 1 to 4, for 4 has 11 by then
        String bales = "a9a;a5i;a9q;a4q";
        CamelStraws x = Check.told("y7", bales);
        due("of 1 to 9: 13 leaves five", x.ask(0), 16);
        due("was(0, 1): 1, 2", saw(x, 0, 0, 0).was(0, 1), 6);
        due("of 1, 2: by 5", x.ask(0), 8);
        due("was(0, 1): 3 to 9", saw(x, 0, 0, 9).was(0, 1), 1016);
        due("of 3 to 9: by 13", x.ask(0), 16);
        due("was(0, 1): 2, 3, 4", saw(x, 8, 0, 5, 16, 0, 0).was(0, 1), 28);
        due("of 2, 3, 4: by 9", x.ask(0), 0);
        due("was(0, 1): 1 to 4", saw(x, 16, 0, 0).was(0, 1), 30);
        due("of 1 to 4: 9 leaves two", x.ask(0), 0);
        due("was(0, 1): 5 to 9", saw(x, 16, 0, 13).was(0, 1), 992);
        due("of 5 to 9: all days alike", x.ask(0), 0);
        // 33 on day 1 parts 9 from the rest
        CamelStraws nine = saw(Check.told("y7", "a9b;a9b;a9b;a6b;a9i;a9i;a9i;a2i"), 8, 0, 29);
        due("was(0, 1): 8, 9", nine.was(0, 1), 768);
        due("of 8, 9: by 33", nine.ask(0), 1);
    }

    /** The same, where none of STRONG is left: all days are alike. */
    private static void askOfNone() {
        CamelStraws x = saw(Check.told("y1", "a5j"), 9, 0, 1);
        due("was(0, 1)", x.was(0, 1), 0);
        due("ask(0)", x.ask(0), 0);
        due("ask(0) of one left", saw(x, 9, 0, 0).ask(0), 0);
    }

    /** "ASK. BAD." */
    private static void askBad() {
        CamelStraws x = Check.told("y1;y1", "");
        due("ask(1)", x.ask(1), 0);
        for (int wrong : new int[] {-1, 2, 8, LEAST, MOST}) {
            due("ask(" + wrong + ")", x.ask(wrong), BAD);
        }
        due("of none", new CamelStraws().ask(0), BAD);
    }

    private static void dueChance(String why, CamelStraws x, int c, int camel, long above, long below) {
        due(why + ": chance(" + c + ", " + camel + ", 0)", x.chance(c, camel, 0), above);
        due(why + ": chance(" + c + ", " + camel + ", 1)", x.chance(c, camel, 1), below);
    }

    /** "each of STRAWS is by c sixteenths (0 to 16)", "(0 by 1)" */
    private static void chanceOfNoneAndAll() {
        for (int c = 0; c <= 16; c++) {
            dueChance("no straws", Check.told("y1", "a4g"), c, 0, 0, 1);
            dueChance("broken by a bale", Check.told("y1", "a5g"), c, 0, 1, 1);
            dueChance("not to be broken", Check.told("y2", "a4g", 6, 0), c, 0, 0, 1);
            dueChance("straws of another", Check.told("y1;y1", "a4g;b4g", 6, 1), c, 0, 0, 1);
        }
        dueChance("none comes", Check.told("y1", "a4g", 6, 0), 0, 0, 0, 1);
        dueChance("all come", Check.told("y1", "a4g", 6, 0), 16, 0, 1, 1);
    }

    /** "FRACTIONS are told in lowest terms, above and below" */
    private static void chanceInLowestTerms() {
        long[][] sixteenths = {{0, 1}, {1, 16}, {1, 8}, {3, 16}, {1, 4}, {5, 16}, {3, 8}, {7, 16}, {1, 2}, {9, 16}, {5, 8},
            {11, 16}, {3, 4}, {13, 16}, {7, 8}, {15, 16}, {1, 1}};
        for (int c = 0; c <= 16; c++) {
            dueChance("one straw", Check.told("y1", "a4g", 6, 0), c, 0, sixteenths[c][0], sixteenths[c][1]);
        }
        CamelStraws eight = Check.told("y3", "a5g", 6, 0, 6, 0, 6, 0, 6, 0, 6, 0, 6, 0, 6, 0, 6, 0);
        dueChance("all of eight", eight, 15, 0, 2562890625L, 4294967296L);
        dueChance("all of eight", eight, 1, 0, 1, 4294967296L);
        dueChance("all of eight", eight, 12, 0, 6561, 65536);
        CamelStraws any = Check.told("y1", "a4g", 6, 0, 6, 0, 6, 0, 6, 0, 6, 0, 6, 0, 6, 0, 6, 0);
        dueChance("any of eight", any, 1, 0, 4294967296L - 2562890625L, 4294967296L);
        dueChance("any of eight", any, 8, 0, 255, 256);
    }

    /** "by itself": two or more of three, one of two with one of two. */
    private static void chanceEachByItself() {
        CamelStraws x = Check.told("y1;y1", "a3g;b4g", 6, 0, 6, 0, 6, 1, 6, 0);
        // three times 1/16 by 3/4, and 1/64
        dueChance("two of three", x, 4, 0, 5, 32);
        dueChance("the other's", x, 4, 1, 1, 4);
    }

    /** "the chance that a CAMEL ever BREAKS": on any day, once or more. */
    private static void chanceEver() {
        CamelStraws x = Check.told("y1", "a4g;a4p", 6, 0, 15, 0);
        dueChance("either of two", x, 8, 0, 3, 4);
        dueChance("by wear", Check.told("s1", "a2g", 6, 0), 8, 0, 1, 2);
        dueChance("on day 23", Check.told("y1", "a3w", 23, 0), 4, 0, 1, 4);
    }

    /** "BAD. (As the least long.)": "a refusal -x is the least long and x more" */
    private static void chanceBad() {
        CamelStraws x = Check.told("y1;y1", "");
        long refused = Long.MIN_VALUE + 2;
        for (int what = 0; what < 2; what++) {
            for (int wrong : new int[] {-1, 17, LEAST, MOST}) {
                due("chance(" + wrong + ", 0, " + what + ")", x.chance(wrong, 0, what), refused);
            }
            for (int wrong : new int[] {-1, 2, 8, LEAST, MOST}) {
                due("chance(0, " + wrong + ", " + what + ")", x.chance(0, wrong, what), refused);
            }
        }
        for (int wrong : new int[] {-1, 2, LEAST, MOST}) {
            due("chance(0, 0, " + wrong + ")", x.chance(0, 0, wrong), refused);
        }
        due("of none", new CamelStraws().chance(8, 0, 0), refused);
    }

    /** "n STRAWS (0 to 8) .. (none where there are no CAMELS)" */
    private static void yearsWithoutCamels() {
        for (int n = 0; n <= 8; n++) {
            due("years(1, " + n + ", 0)", Check.told("", "a9a", 0, 0).years(1, n, 0), 0);
            due("years(1, " + n + ", 1)", Check.told("", "a9a", 0, 0).years(1, n, 1), 0);
        }
    }

    /** "in place of those told": they are not there for it, and stay. */
    private static void yearsInPlaceOfThoseTold() {
        CamelStraws x = Check.told("y1", "a4g", 6, 0, 6, 0);
        due("count(6)", x.count(6), 1);
        due("years(3, 0, 0)", x.years(3, 0, 0), 0);
        due("years(3, 0, 1)", x.years(3, 0, 1), 4);
        due("count(4)", x.count(4), 2);
        due("count(6)", x.count(6), 1);
        CamelStraws full = Check.told("y9", "", 0, 0, 0, 0, 0, 0, 0, 0, 0, 0, 0, 0, 0, 0, 0, 0);
        due("years(3, 8, 1): eight beside the eight told", full.years(3, 8, 1), 8);
        due("through()", full.through(), 8);
    }

    private static final BigInteger ROUND = BigInteger.ONE.shiftLeft(32);

    private static BigInteger next(BigInteger seed) {
        return seed.multiply(BigInteger.valueOf(1103515245)).add(BigInteger.valueOf(12345)).mod(ROUND);
    }

    private static int lot(BigInteger seed, int m) {
        return seed.shiftRight(16).mod(BigInteger.valueOf(m)).intValue();
    }

    /**
     * "SEED becomes 1103515245 SEED and 12345, as ints that wrap; its upper 16 bits as a number from 0 on, modulo m":
     * the lots are drawn here with large numbers, told as straws, and must come out as the year does.
     */
    private static void yearsByLots() {
        String[] caravans = {"y1", "s1;o1", "y2;s1;o1", "s1;s1;s1;s1;s1", "y1;o1;s1;y2;o2;s2;y1", "s1;o1;y1;s1;o1;y1;s1;o1"};
        int[] seeds = {0, 1, -1, 2, 7, 12345, -12345, 65535, 65536, LEAST, LEAST + 1, MOST, MOST - 1, 1103515245, -1103515245};
        String bales = "a3g;a3o;b2b;b4k;c3s;c4c;a4w;b3x";
        for (String camels : caravans) {
            for (int seed : seeds) {
                CamelStraws told = Check.told(camels, bales);
                CamelStraws years = Check.told(camels, bales, 0, 0);
                BigInteger s = BigInteger.valueOf(seed);
                for (int n = 0; n <= 8; n++) {
                    due(camels + ": years(" + seed + ", " + n + ", 0)", years.years(seed, n, 0), told.count(6));
                    due(camels + ": years(" + seed + ", " + n + ", 1)", years.years(seed, n, 1), told.through());
                    s = next(s);
                    int day = lot(s, 24);
                    s = next(s);
                    told.straw(day, lot(s, told.count(0)));
                }
            }
        }
    }

    /** "YEARS: how often any BREAKS (what = 0), THROUGH of all (1). BAD." */
    private static void yearsBad() {
        for (CamelStraws x : new CamelStraws[] {new CamelStraws(), Check.told("y1", "a4g")}) {
            for (int wrong : new int[] {-1, 9, LEAST, MOST}) {
                due("years(0, " + wrong + ", 0)", x.years(0, wrong, 0), BAD);
            }
            for (int wrong : new int[] {-1, 2, LEAST, MOST}) {
                due("years(0, 0, " + wrong + ")", x.years(0, 0, wrong), BAD);
            }
        }
        // each of these seeds is one, and brings what is told: nothing
        for (int seed : new int[] {LEAST, NONE, BAD, 0, MOST}) {
            due("years(" + seed + ", 0, 1)", Check.told("y1", "a4g").years(seed, 0, 1), 4);
        }
    }
}
