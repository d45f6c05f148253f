/** Promises 22 to 28: seen, forget, never, was, ask, chance, years. */
public final class GuessTest {
    private static final int LEAST = Integer.MIN_VALUE, MOST = Integer.MAX_VALUE;

    public static void main(String[] args) {
        seen();
        forget();
        never();
        sort();
        strong();
        oneThatIsNotThere();
        ask();
        chance();
        chanceOfEight();
        years();
        Check.end();
    }

    private static void seen() {
        CamelStraws x = new CamelStraws();
        for (int[] wrong : new int[][] {{-1, 0, 0}, {24, 0, 0}, {0, -1, 0}, {0, 8, 0}, {0, 0, -1}, {0, 0, 100},
                {LEAST, 0, 0}, {MOST, 0, 0}, {0, LEAST, 0}, {0, MOST, 0}, {0, 0, LEAST}, {0, 0, MOST}}) {
            Check.due("seen(" + wrong[0] + ", " + wrong[1] + ", " + wrong[2] + ")", x.seen(wrong[0], wrong[1], wrong[2]), CamelStraws.BAD);
        }
        Check.due("count(7)", x.count(7), 0);
        for (int i = 1; i <= 8; i++) {
            Check.due("seen(23, 7, 99)", x.seen(23, 7, 99), i);
        }
        Check.due("a ninth", x.seen(0, 0, 0), CamelStraws.FULL);
        Check.due("BAD is ahead of FULL", x.seen(0, 0, 100), CamelStraws.BAD);
        Check.due("count(7)", x.count(7), 8);
    }

    private static void forget() {
        CamelStraws x = Check.told("y1", "a1a");
        Check.due("forget() of none", x.forget(), 0);
        x.seen(0, 0, 2);
        x.seen(1, 0, 2);
        Check.due("was(0, 0)", x.was(0, 0), 0);
        Check.due("forget()", x.forget(), 2);
        Check.due("count(7)", x.count(7), 0);
        Check.due("was(0, 0)", x.was(0, 0), 7);
    }

    private static void never() {
        CamelStraws x = Check.told("y2;y2", "a1a", 0, 0, 1, 0, 0, 1, 0, 0);
        Check.due("never() with nothing seen", x.never(), 15);
        x.seen(0, 0, 2);
        Check.due("never() without one of day 0", x.never(), 9);
        x.seen(0, 1, 1);
        Check.due("never(): the other camel bears its own", x.never(), 9);
        x.seen(1, 0, 3);
        Check.due("never() by day 1 too", x.never(), 9);
        x.seen(1, 0, 4);
        Check.due("never() against itself", x.never(), 0);
        x.forget();
        x.seen(3, 0, 4);
        Check.due("never(): none of its own", x.never(), 4);
        x.forget();
        x.seen(3, 0, 3);
        Check.due("never() of any of three", x.never(), 11);
        x.forget();
        x.seen(3, 1, 0);
        Check.due("never() of the other camel's", x.never(), 4);
        x.forget();
        x.seen(6, 1, 1);
        Check.due("never(): all but it", x.never(), 11);
        Check.due("straws are as they were", x.at(3, 0, 0), 4);
    }

    private static void sort() {
        CamelStraws x = Check.told("s1;y9", "a4a;b1a");
        x.seen(0, 0, 4);
        Check.due("was(0, 0): a young one bears it yet", x.was(0, 0), 1);
        Check.due("was(1, 0): none explains it", x.was(1, 0), 0);
        x.forget();
        x.seen(0, 0, 0);
        Check.due("was(0, 0): an old one or one that sighs", x.was(0, 0), 6);
        x.seen(0, 1, 1);
        Check.due("was(1, 0)", x.was(1, 0), 7);
        Check.due("camel(0, 0) is as it was", x.camel(0, 0), 2);
        for (int[] wrong : new int[][] {{-1, 0}, {2, 0}, {0, -1}, {0, 2}, {LEAST, 0}, {MOST, 0}, {0, LEAST}, {0, MOST}}) {
            Check.due("was(" + wrong[0] + ", " + wrong[1] + ")", x.was(wrong[0], wrong[1]), CamelStraws.BAD);
        }
    }

    private static void strong() {
        CamelStraws x = Check.told("y1", "a5a;a8b");
        Check.due("was(0, 1) with nothing seen", x.was(0, 1), 1022);
        x.seen(0, 0, 5);
        Check.due("was(0, 1): 2 to 9", x.was(0, 1), 1020);
        x.seen(1, 0, 13);
        Check.due("was(0, 1): 4 to 9", x.was(0, 1), 1008);
        x.forget();
        x.seen(0, 0, 0);
        Check.due("was(0, 1): 1", x.was(0, 1), 2);
        x.seen(0, 0, 1);
        Check.due("was(0, 1): none", x.was(0, 1), 0);
        Check.due("camel(0, 1) is as it was", x.camel(0, 1), 4);
        x.forget();
        x.seen(2, 0, 13);
        Check.due("was(0, 1) behind wear: 4 to 9", x.was(0, 1), 1008);
        x.forget();
        x.seen(23, 0, 0);
        Check.due("was(0, 1) at the end: all", x.was(0, 1), 1022);
    }

    private static void oneThatIsNotThere() {
        CamelStraws x = Check.told("y1", "", 0, 0);
        x.seen(0, 1, 0);
        Check.due("never()", x.never(), 0);
        Check.due("was(0, 0)", x.was(0, 0), 0);
        Check.due("was(0, 1)", x.was(0, 1), 0);
        Check.due("ask(0)", x.ask(0), 0);
        x.type(0, ';');
        x.type(0, 'y');
        x.type(0, '1');
        Check.due("never() as soon as it is there", x.never(), 1);
    }

    private static void ask() {
        CamelStraws x = Check.told("y9;y9", "a5c;a8d;b1a");
        // behind day 2: 1 or 2 to 9; behind day 3: 1, 2, 3 with nothing or 4 to 9 with 13
        Check.due("ask(0)", x.ask(0), 3);
        Check.due("ask(1): all alike", x.ask(1), 0);
        x.seen(3, 0, 0);
        Check.due("was(0, 1)", x.was(0, 1), 14);
        Check.due("ask(0): 1 apart from 2 and 3", x.ask(0), 2);
        x.seen(2, 0, 0);
        Check.due("ask(0): one is left", x.ask(0), 0);
        x.seen(2, 0, 1);
        Check.due("ask(0): none is left", x.ask(0), 0);
        Check.due("camel(0, 1) is as it was", x.camel(0, 1), 36);
        for (int wrong : new int[] {-1, 2, LEAST, MOST}) {
            Check.due("ask(" + wrong + ")", x.ask(wrong), CamelStraws.BAD);
        }
    }

    private static void dueChance(CamelStraws x, int c, int camel, long above, long below) {
        Check.due("chance(" + c + ", " + camel + ", 0)", x.chance(c, camel, 0), above);
        Check.due("chance(" + c + ", " + camel + ", 1)", x.chance(c, camel, 1), below);
    }

    private static void chance() {
        CamelStraws x = Check.told("y1;y1;y2", "a3g;b5a", 6, 0, 9, 2, 6, 0);
        dueChance(x, 0, 0, 0, 1);
        dueChance(x, 4, 0, 1, 16);
        dueChance(x, 5, 0, 25, 256);
        dueChance(x, 8, 0, 1, 4);
        dueChance(x, 15, 0, 225, 256);
        dueChance(x, 16, 0, 1, 1);
        dueChance(x, 0, 1, 1, 1);
        dueChance(x, 7, 1, 1, 1);
        dueChance(x, 7, 2, 0, 1);
        Check.due("straws are as they were", x.at(6, 0, 5), 1);
        for (int[] wrong : new int[][] {{-1, 0, 0}, {17, 0, 0}, {0, -1, 0}, {0, 3, 0}, {0, 0, -1}, {0, 0, 2},
                {LEAST, 0, 0}, {MOST, 0, 0}, {0, LEAST, 0}, {0, MOST, 0}, {0, 0, LEAST}, {0, 0, MOST}}) {
            Check.due("chance(" + wrong[0] + ", " + wrong[1] + ", " + wrong[2] + ")",
                    x.chance(wrong[0], wrong[1], wrong[2]), Long.MIN_VALUE + 2);
        }
    }

    /** It breaks by five or more of eight. */
    private static void chanceOfEight() {
        CamelStraws x = Check.told("y1", "", 6, 0, 6, 0, 6, 0, 6, 0, 6, 0, 6, 0, 6, 0, 6, 0);
        dueChance(x, 1, 0, 56 * 3375 + 28 * 225 + 8 * 15 + 1, 4294967296L);
        dueChance(x, 8, 0, 93, 256);
        dueChance(x, 16, 0, 1, 1);
        dueChance(x, 0, 0, 0, 1);
    }

    private static void dueYears(CamelStraws x, int seed, int n, int broke, int through) {
        Check.due("years(" + seed + ", " + n + ", 0)", x.years(seed, n, 0), broke);
        Check.due("years(" + seed + ", " + n + ", 1)", x.years(seed, n, 1), through);
    }

    private static void years() {
        // by seed 0: (0, 0) (12, 1) (18, 1) (13, 1) (10, 0) (5, 0) (3, 0) (15, 1)
        CamelStraws x = Check.told("y9;s1", "", 0, 0, 0, 0);
        dueYears(x, 0, 0, 0, 0);
        dueYears(x, 0, 1, 0, 1);
        dueYears(x, 0, 3, 2, 1);
        dueYears(x, 0, 8, 2, 4);
        Check.due("straws told are as they were", x.count(4), 2);
        Check.due("through()", x.through(), 2);
        dueYears(Check.told("y9;y9", "b9a"), -1, 4, 0, 13);
        dueYears(Check.told("", "a9a"), 5, 8, 0, 0);
        for (int[] wrong : new int[][] {{0, -1, 0}, {0, 9, 0}, {0, 0, -1}, {0, 0, 2}, {0, LEAST, 0}, {0, MOST, 0}, {0, 0, LEAST}, {0, 0, MOST}}) {
            Check.due("years(" + wrong[0] + ", " + wrong[1] + ", " + wrong[2] + ")", x.years(wrong[0], wrong[1], wrong[2]), CamelStraws.BAD);
        }
        Check.due("any seed", x.years(LEAST, 0, 0) + x.years(MOST, 0, 0), 0);
    }
}
