/**
 * The edges of promises 11 to 17, with what the document says of DAYS, WELLS, LAST, wear and BREAKS: one test for
 * each sentence that names one. The sentence stands above its test.
 */
public final class DayEdgeTest {
    private static final int NONE = CamelStraws.NONE, BAD = CamelStraws.BAD;
    private static final int LEAST = Integer.MIN_VALUE, MOST = Integer.MAX_VALUE;

    public static void main(String[] args) {
        days();
        wells();
        atFirst();
        lainForThreeDays();
        notOnOneThatLies();
        balesAsTold();
        balesAheadOfStraws();
        camelsThatAreThere();
        justTheStrength();
        notTheLast();
        lastOfAWornOne();
        youngWears();
        oldWears();
        sighingWears();
        restsAtMostAsAtFirst();
        thoseThatLieDoNotWear();
        breaksIfMore();
        breaksByWear();
        lessByThree();
        wellBehindAllThat();
        at();
        through();
        lost();
        first();
        best();
        whole();
        tired();
        Check.end();
    }

    private static void due(String call, long got, long want) {
        Check.due(call, got, want);
    }

    private static char letter(int number) {
        return (char) ('a' + number);
    }

    /** "DAYS are 0 to 23" */
    private static void days() {
        CamelStraws x = Check.told("y1", "");
        due("at(0, 0, 1)", x.at(0, 0, 1), 4);
        due("at(23, 0, 1)", x.at(23, 0, 1), 4);
        for (int wrong : new int[] {-1, 24, LEAST, MOST}) {
            due("at(" + wrong + ", 0, 1)", x.at(wrong, 0, 1), BAD);
        }
    }

    /** "on DAYS 7, 15, 23 they come to a WELL": a bale of each day waits for the next one. */
    private static void wells() {
        for (int put = 0; put < 24; put++) {
            CamelStraws x = Check.told("y9", "a2" + letter(put));
            int well = put <= 7 ? 7 : put <= 15 ? 15 : 23;
            for (int day = 0; day < 24; day++) {
                due("put on day " + put + ": at(" + day + ", 0, 0)", x.at(day, 0, 0), day >= put && day < well ? 2 : 0);
                due("put on day " + put + ": at(" + day + ", 0, 4)", x.at(day, 0, 4), day >= well ? 2 : 0);
            }
        }
    }

    /** "At first a CAMEL stands, its LOAD is 0." */
    private static void atFirst() {
        CamelStraws x = Check.told("y1;o5;s9", "");
        for (int day = 0; day < 24; day++) {
            Check.dueAt(x, day, 0, 0, 4, 0, 0, 0, 0);
            Check.dueAt(x, day, 1, 0, 20, 0, 0, 0, 0);
            Check.dueAt(x, day, 2, 0, 36, 0, 0, 0, 0);
            if (day == 11) {
                x = Check.told("y1;o5;s9", "");
            }
        }
    }

    /** "first those that have lain for 3 DAYS (that on which they broke is one) stand": broken on each day. */
    private static void lainForThreeDays() {
        for (int broke = 0; broke < 24; broke++) {
            CamelStraws byBale = Check.told("y1", "a5" + letter(broke));
            CamelStraws byStraw = Check.told("y1", "a4" + letter(broke), broke, 0);
            CamelStraws byWear = Check.told("s1", "a4" + letter(broke));
            for (int day = 0; day < 24; day++) {
                int lies = day >= broke && day < broke + 3 ? 1 : 0;
                due("broken by a bale on " + broke + ": at(" + day + ", 0, 2)", byBale.at(day, 0, 2), lies);
                due("broken by a straw on " + broke + ": at(" + day + ", 0, 2)", byStraw.at(day, 0, 2), lies);
                due("broken by wear on " + broke + ": at(" + day + ", 0, 2)", byWear.at(day, 0, 2), lies);
            }
        }
    }

    /** "on CAMELS that .. stand": while it lies nothing comes on it; on the day on which it stands it does. */
    private static void notOnOneThatLies() {
        for (int later = 0; later < 5; later++) {
            int day = 8 + later;
            // y9 breaks on day 8 by 37 and has 33 then
            CamelStraws bale = Check.told("y9", "a9i;a9i;a9i;a9i;a1i;a6" + letter(day));
            due("a bale " + later + " days behind: load", bale.at(day, 0, 0), later < 3 ? 0 : 6);
            due("a bale " + later + " days behind: through", bale.through(), later < 3 ? 0 : 6);
            due("a bale " + later + " days behind: lost", bale.lost(), 37);
            CamelStraws straw = Check.told("y9", "a9i;a9i;a9i;a9i;a1i", day, 0);
            due("a straw " + later + " days behind: load", straw.at(day, 0, 0), later < 3 ? 0 : 1);
            due("a straw " + later + " days behind: through", straw.through(), later < 3 ? 0 : 1);
            due("a straw " + later + " days behind: lost", straw.lost(), 37);
        }
    }

    /** "Then come BALES of that DAY, as told": it breaks by the one that is told first of those too much. */
    private static void balesAsTold() {
        due("1, 5, 2", Check.told("y1", "a1g;a5g;a2g").lost(), 6);
        due("2, 1, 5", Check.told("y1", "a2g;a1g;a5g").lost(), 8);
        due("5, 1, 2", Check.told("y1", "a5g;a1g;a2g").lost(), 5);
        due("told ahead, of a later day", Check.told("y1", "a2h;a5g;a1g").lost(), 5);
    }

    /** "Then come BALES .. Then STRAWS of that DAY" */
    private static void balesAheadOfStraws() {
        CamelStraws x = Check.told("y1", "a5g", 6, 0);
        due("the straw finds one that lies", x.lost(), 5);
        CamelStraws fee = Check.told("y1", "a3g", 6, 0);
        due("the straw finds the bale", fee.at(6, 0, 3), 4);
        CamelStraws none = Check.told("y1", "a1g;a2g", 6, 0, 6, 0);
        due("lost()", none.lost(), 5);
        due("the first of two straws was the last", none.at(6, 0, 3), 4);
    }

    /** "on CAMELS that are there": those of others are neither on one nor lost. */
    private static void camelsThatAreThere() {
        CamelStraws x = Check.told("y9;y9", "c9a;h9a;b1a", 0, 2, 0, 7, 0, 1);
        due("at(0, 0, 0)", x.at(0, 0, 0), 0);
        due("at(0, 1, 0)", x.at(0, 1, 0), 2);
        due("through()", x.through(), 2);
        due("lost()", x.lost(), 0);
        due("count(6)", x.count(6), 0);
        due("first(0)", x.first(0), NONE);
    }

    /** "if the LOAD is just the STRENGTH then, it was the LAST, and its FEES are more by the LOAD" */
    private static void justTheStrength() {
        CamelStraws x = Check.told("y1", "", 0, 0, 0, 0, 0, 0, 0, 0);
        Check.dueAt(x, 0, 0, 4, 4, 0, 4, 0, 0);
        due("back()", x.back(), 3);
        Check.dueAt(x, 0, 0, 3, 4, 0, 0, 0, 0);
        CamelStraws heavy = Check.told("y9", "a9g;a9g;a9g;a8g", 6, 0);
        due("36 on 36", heavy.at(6, 0, 3), 36);
        due("none of it ahead", heavy.at(5, 0, 3), 0);
        due("it is kept", heavy.at(23, 0, 3), 36);
        CamelStraws twice = Check.told("y1", "a3d;a2l", 3, 0, 11, 0);
        Check.dueAt(twice, 3, 0, 4, 4, 0, 4, 0, 0);
        // it breaks by the wear of day 5, stands on day 8 with 0, has 3 behind day 10, and breaks by the wear of day 11
        Check.dueAt(twice, 5, 0, 0, 0, 1, 4, 0, 1);
        Check.dueAt(twice, 10, 0, 0, 3, 0, 4, 0, 1);
        Check.dueAt(twice, 11, 0, 0, 0, 1, 7, 0, 2);
    }

    /** The same: not by a bale, not by a straw that leaves room or is too much, not on one that lies. */
    private static void notTheLast() {
        due("a bale", Check.told("y1", "a4g").at(23, 0, 3), 0);
        due("one below", Check.told("y1", "a2g", 6, 0).at(23, 0, 3), 0);
        due("one above", Check.told("y1", "a4g", 6, 0).at(23, 0, 3), 0);
        CamelStraws lies = Check.told("s1", "a4g", 6, 0, 7, 0, 8, 0);
        due("broken from 4, it has 1", lies.at(8, 0, 1), 1);
        due("a straw on one that lies", lies.at(23, 0, 3), 0);
        due("a straw of a camel that is not there", Check.told("y1", "a3g", 6, 1).count(5), 0);
    }

    /** The same, with the strength as it is then. */
    private static void lastOfAWornOne() {
        // one that sighs: 1 on it from day 0 on, 7 behind day 0, 6 behind day 1, 5 behind day 2
        CamelStraws x = Check.told("s2", "a1a;a3d", 3, 0);
        Check.dueAt(x, 2, 0, 1, 5, 0, 0, 0, 0);
        Check.dueAt(x, 3, 0, 0, 1, 1, 5, 0, 1);
        CamelStraws rested = Check.told("s1", "a4a", 3, 0);
        // broken on day 0 by wear with 0 left; it stands on day 3 with 0: a straw is too much
        Check.dueAt(rested, 3, 0, 0, 0, 1, 0, 0, 2);
        CamelStraws later = Check.told("s1", "a4a", 4, 0);
        // behind day 3 it has 1 again: the straw is the last, and then the wear breaks it
        Check.dueAt(later, 3, 0, 0, 1, 0, 0, 0, 1);
        Check.dueAt(later, 4, 0, 0, 0, 1, 1, 0, 2);
    }

    /** "with a LOAD their STRENGTH is less by 1 .., that of a young one on DAYS that leave 2 by 3 alone" */
    private static void youngWears() {
        CamelStraws x = Check.told("y9", "a1a;a1i;a1q");
        for (int day = 0; day < 24; day++) {
            due("young: at(" + day + ", 0, 1)", x.at(day, 0, 1), 36 - (day + 1) / 3);
        }
    }

    /** "that of an old one if twice the LOAD is more than it alone" */
    private static void oldWears() {
        for (int load = 16; load <= 20; load++) {
            CamelStraws x = Check.told("o9", "a9a;a" + (load - 9 > 9 ? 9 : load - 9) + "a" + (load > 18 ? ";a" + (load - 18) + "a" : ""));
            for (int day = 0; day < 8; day++) {
                due("old with " + load + ": at(" + day + ", 0, 1)", x.at(day, 0, 1), load > 18 ? 35 - day : 36);
            }
        }
        // 8 behind day 0 (twice 4 is not more), 7 behind day 1 (twice 5 is)
        CamelStraws x = Check.told("o2", "a4a;a1b");
        due("twice 4 on 8", x.at(0, 0, 1), 8);
        due("twice 5 on 8", x.at(1, 0, 1), 7);
    }

    /** "with a LOAD their STRENGTH is less by 1": that of one that sighs on every day. */
    private static void sighingWears() {
        CamelStraws x = Check.told("s9", "a1a;a1i;a1q");
        for (int day = 0; day < 24; day++) {
            due("sighing: at(" + day + ", 0, 1)", x.at(day, 0, 1), 35 - day);
        }
    }

    /** "without a LOAD it is more by 1, as at first at most": of each sort. */
    private static void restsAtMostAsAtFirst() {
        for (String camel : new String[] {"y2", "o2", "s2"}) {
            CamelStraws x = Check.told(camel, "a9a");
            // broken on day 0, 5 then; it stands on day 3
            int[] strengths = {5, 5, 5, 6, 7, 8, 8, 8};
            for (int day = 0; day < 8; day++) {
                due(camel + ": at(" + day + ", 0, 1)", x.at(day, 0, 1), strengths[day]);
            }
            due(camel + ": at(23, 0, 1)", x.at(23, 0, 1), 8);
        }
    }

    /** "Then those that stand wear": one that lies neither tires nor rests. */
    private static void thoseThatLieDoNotWear() {
        for (int broke = 0; broke < 20; broke++) {
            CamelStraws x = Check.told("y5", "a9" + letter(broke) + ";a9" + letter(broke) + ";a9" + letter(broke));
            for (int later = 0; later < 3; later++) {
                due("broken on " + broke + ", " + later + " days behind", x.at(broke + later, 0, 1), 17);
            }
            due("broken on " + broke + ", 3 days behind", x.at(broke + 3, 0, 1), 18);
        }
    }

    /** "Whenever the LOAD becomes more than the STRENGTH (by a BALE, by a STRAW ..), the CAMEL BREAKS" */
    private static void breaksIfMore() {
        Check.dueAt(Check.told("y1", "a4a"), 0, 0, 4, 4, 0, 0, 0, 0);
        Check.dueAt(Check.told("y1", "a5a"), 0, 0, 0, 1, 1, 0, 0, 1);
        Check.dueAt(Check.told("y1", "a3a", 0, 0), 0, 0, 4, 4, 0, 4, 0, 0);
        Check.dueAt(Check.told("y1", "a3a", 0, 0, 0, 0), 0, 0, 0, 1, 1, 4, 0, 1);
        // it breaks once a day at most: what comes behind finds it lying
        Check.dueAt(Check.told("y1", "a9a;a9a;a9a", 0, 0, 0, 0), 0, 0, 0, 1, 1, 0, 0, 1);
    }

    /** The same, "by wear": with as much as it then has it does not. */
    private static void breaksByWear() {
        Check.dueAt(Check.told("s1", "a3a"), 0, 0, 3, 3, 0, 0, 0, 0);
        Check.dueAt(Check.told("s1", "a4a"), 0, 0, 0, 0, 1, 0, 0, 1);
        Check.dueAt(Check.told("y1", "a4b"), 1, 0, 4, 4, 0, 0, 0, 0);
        Check.dueAt(Check.told("y1", "a4b"), 2, 0, 0, 0, 1, 0, 0, 1);
        Check.dueAt(Check.told("o1", "a4a"), 0, 0, 0, 0, 1, 0, 0, 1);
    }

    /** "it lies, the LOAD is LOST, and 0, the STRENGTH less by 3, 0 at least": broken with 5, 4, 3, 2, 1, 0. */
    private static void lessByThree() {
        int[] left = {2, 1, 0, 0, 0};
        for (int day = 3; day < 8; day++) {
            // one that sighs with 1 from day 0 on: 8 - day, ahead of the bale
            CamelStraws x = Check.told("s2", "a1a;a9" + letter(day));
            due("broken with " + (8 - day), x.at(day, 0, 1), left[day - 3]);
            due("its load is 0", x.at(day, 0, 0), 0);
            due("it lies", x.at(day, 0, 2), 1);
            due("lost()", x.lost(), 10);
        }
        // broken by wear on day 0, it stands on day 3 with 0
        CamelStraws none = Check.told("s1", "a4a;a1d");
        Check.dueAt(none, 2, 0, 0, 0, 1, 0, 0, 1);
        Check.dueAt(none, 3, 0, 0, 0, 1, 0, 0, 2);
        due("lost()", none.lost(), 5);
    }

    /** "At a WELL, behind all that, what is on those that stand COMES through, and the LOAD is 0." */
    private static void wellBehindAllThat() {
        Check.dueAt(Check.told("s2", "a3h", 7, 0), 7, 0, 0, 7, 0, 0, 4, 0);
        CamelStraws byWear = Check.told("s1", "a4h");
        Check.dueAt(byWear, 7, 0, 0, 0, 1, 0, 0, 1);
        due("what breaks it at a well is lost", byWear.lost(), 4);
        CamelStraws byStraw = Check.told("y1", "a4p", 15, 0);
        Check.dueAt(byStraw, 15, 0, 0, 1, 1, 0, 0, 1);
        CamelStraws end = Check.told("y1", "a4w", 23, 0);
        Check.dueAt(end, 23, 0, 0, 1, 1, 0, 0, 1);
        due("through()", end.through(), 0);
        // the load that came through is not there on the next day
        CamelStraws next = Check.told("y1", "a4h;a4i");
        Check.dueAt(next, 8, 0, 0, 0, 1, 0, 4, 1);
        Check.dueAt(Check.told("y1", "a4g;a4j"), 9, 0, 4, 4, 0, 0, 4, 0);
    }

    /** "LOAD (what = 0), STRENGTH (1), whether it lies (2: 1, 0), FEES (3), THROUGH (4), how often it BROKE (5). BAD." */
    private static void at() {
        CamelStraws x = Check.told("y1;y1", "b3h;b5q", 7, 1);
        Check.dueAt(x, 16, 1, 0, 1, 1, 4, 4, 1);
        Check.dueAt(x, 16, 0, 0, 4, 0, 0, 0, 0);
        for (int wrong : new int[] {-1, 2, 8, LEAST, MOST}) {
            due("at(0, " + wrong + ", 0)", x.at(0, wrong, 0), BAD);
        }
        for (int wrong : new int[] {-1, 6, 7, 8, LEAST, MOST}) {
            due("at(0, 0, " + wrong + ")", x.at(0, 0, wrong), BAD);
        }
        due("of none", new CamelStraws().at(0, 0, 0), BAD);
    }

    /** "THROUGH of all": by day 23, with what comes there. */
    private static void through() {
        due("of none", new CamelStraws().through(), 0);
        due("of nothing", Check.told("y9", "").through(), 0);
        due("on day 23", Check.told("y9;y9", "a3x;b4x", 23, 0).through(), 8);
        due("as much as can be told", Check.told("y9;y9;y9", "a9a;b9a;c9a;a9i;b9i;c9i;a9q;b9q;c9q;a9q",
                0, 0, 0, 1, 0, 2, 8, 0, 8, 1, 16, 0, 16, 1, 16, 2).through(), 98);
    }

    /** "what is LOST in all" */
    private static void lost() {
        due("of none", new CamelStraws().lost(), 0);
        due("what waits on day 22 is not lost", Check.told("y9", "a9w").lost(), 0);
        // by a bale 5, by a straw 5, by wear 4
        due("in all three ways", Check.told("y1;y1;s1", "a5a;b4a;c4a", 0, 1).lost(), 14);
        due("of one camel, twice", Check.told("y1", "a5a;a9j").lost(), 14);
        due("on day 23", Check.told("y1", "a5x").lost(), 5);
    }

    /** "FIRST: the first DAY on which any BREAKS; the least CAMEL that does on it; NONE." */
    private static void first() {
        for (int day = 0; day < 24; day++) {
            CamelStraws x = Check.told("y9;y1;y1;y1", "d5" + letter(day) + ";c5" + letter(day) + ";b5x");
            due("first(0)", x.first(0), day);
            due("first(1)", x.first(1), day == 23 ? 1 : 2);
        }
        CamelStraws twice = Check.told("y1;y1", "b5a;a5d;b5h");
        due("first(0)", twice.first(0), 0);
        due("first(1)", twice.first(1), 1);
        CamelStraws none = Check.told("y1", "a4a");
        due("first(0) by wear", none.first(0), 2);
        none.wipe(1);
        due("first(0) of none", none.first(0), NONE);
        due("first(1) of none", none.first(1), NONE);
        for (int wrong : new int[] {-1, 2, LEAST, MOST}) {
            due("first(" + wrong + ")", none.first(wrong), BAD);
            due("first(" + wrong + ") of one", twice.first(wrong), BAD);
        }
    }

    /** "BEST: the CAMEL that brought most THROUGH by DAY 23, of like ones the least; NONE: there are none." */
    private static void best() {
        due("of none", new CamelStraws().best(), NONE);
        due("of none, with bales", Check.told("", "a9a").best(), NONE);
        due("of like ones with nothing", Check.told("y1;y1;y1", "").best(), 0);
        due("of like ones", Check.told("y9;y9;y9", "c5a;b5x").best(), 1);
        due("the last of eight", Check.told("y9;y9;y9;y9;y9;y9;y9;y9", "h2a;a1a").best(), 7);
        due("what is lost does not count", Check.told("y1;y1", "a9a;b1a").best(), 1);
    }

    /** "WHOLE: CAMELS that never BROKE, as bits." */
    private static void whole() {
        due("of none", new CamelStraws().whole(), 0);
        due("all eight", Check.told("y1;y1;y1;y1;y1;y1;y1;y1", "").whole(), 255);
        due("none of eight", Check.told("y1;y1;y1;y1;y1;y1;y1;y1", "a5a;b5d;c5g;d5j;e5m;f5p;g5s;h5x").whole(), 0);
        due("the ends", Check.told("y1;y1;y1;y1;y1;y1;y1;y1", "b5a;c5d;d5g;e5j;f5m;g5p").whole(), 0x81);
        due("broken on day 23", Check.told("y1", "a5x").whole(), 0);
    }

    /** "TIRED: the DAY behind which all STRENGTHS together are least, of like ones the least." */
    private static void tired() {
        due("of none", new CamelStraws().tired(), 0);
        due("of like ones", Check.told("y9;s9", "").tired(), 0);
        due("day 23", Check.told("s9", "a1a;a1i;a1q").tired(), 23);
        for (int broke = 0; broke < 24; broke++) {
            due("broken on day " + broke + ", of like days the least", Check.told("y1", "a5" + letter(broke)).tired(), broke);
        }
        due("the last of eight", Check.told("y1;y1;y1;y1;y1;y1;y1;y1", "h5f").tired(), 5);
        CamelStraws gone = Check.told("y1;s9", "a5f;b1a");
        due("the other tires until day 7", gone.tired(), 7);
        due("undo(0)", gone.undo(0) + gone.undo(0) + gone.undo(0), 4 + 3 + 2);
        due("the other is there no more", gone.tired(), 5);
        // alone each would be least on days 2 to 4 and 4 to 6: together on day 4
        due("those that lie count", Check.told("y2;y2", "a9c;b9e").tired(), 4);
    }
}
