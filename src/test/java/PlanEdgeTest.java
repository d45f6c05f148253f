/**
 * The edges of promises 18 to 21, with what the document says of LAST, BEAR, WHEN and SPARE: one test for each
 * sentence that names one. The sentence stands above its test.
 */
public final class PlanEdgeTest {
    private static final int NONE = CamelStraws.NONE, BAD = CamelStraws.BAD;
    private static final int LEAST = Integer.MIN_VALUE, MOST = Integer.MAX_VALUE;

    public static void main(String[] args) {
        lastIsOneToNine();
        lastBehindAllOthersOfThatDay();
        lastAheadOfWearAndWell();
        lastWhateverRoom();
        lastNone();
        lastBad();
        bearAllPlaces();
        bearNoOtherPlace();
        bearOfLikeOnes();
        bearHowMuch();
        bearBad();
        whenAllDays();
        whenNoOtherDay();
        whenOfLikeOnes();
        whenOfOneThatIsNotThere();
        whenBad();
        spareFewest();
        spareLeastRow();
        spareNone();
        spareOfNoStraws();
        spareBad();
        Check.end();
    }

    private static void due(String call, long got, long want) {
        Check.due(call, got, want);
    }

    private static char letter(int number) {
        return (char) ('a' + number);
    }

    /** "how many STRAWS more (1 to 9) ..; NONE": what is left of the strength, 0 to 12. */
    private static void lastIsOneToNine() {
        int[] want = {NONE, 1, 2, 3, 4, 5, 6, 7, 8, 9, NONE, NONE, NONE};
        for (int left = 0; left <= 12; left++) {
            int load = 12 - left;
            String bales = load == 0 ? "" : load <= 9 ? "a" + load + "d" : "a9d;a" + (load - 9) + "d";
            due("last(0, 3) with " + left + " left", Check.told("y3", bales).last(0, 3), want[left]);
        }
    }

    /** "behind all others of that DAY": of straws that are told, whatever their order; none of other days. */
    private static void lastBehindAllOthersOfThatDay() {
        CamelStraws x = Check.told("y2", "a2e", 4, 0, 5, 0, 4, 0, 3, 1, 4, 1, 6, 0);
        due("last(0, 3): ahead of them", x.last(0, 3), 8);
        due("last(0, 4): behind a bale and two straws", x.last(0, 4), 4);
        due("last(0, 5): 5 on 8", x.last(0, 5), 3);
        due("last(0, 6): 6 on 7", x.last(0, 6), 1);
        due("last(0, 7): 6 on 7", x.last(0, 7), 1);
        due("last(0, 8): nothing on 7", x.last(0, 8), 7);
    }

    /** "so that the last one of these is the LAST": straws come ahead of wear, and ahead of the well. */
    private static void lastAheadOfWearAndWell() {
        CamelStraws x = Check.told("s2", "a3g");
        due("last(0, 5)", x.last(0, 5), 8);
        due("last(0, 6): 3 on 8, ahead of wear", x.last(0, 6), 5);
        due("last(0, 7): 3 on 7, ahead of the well", x.last(0, 7), 4);
        due("last(0, 8): nothing on 6", x.last(0, 8), 6);
        CamelStraws end = Check.told("y2", "a5x");
        due("last(0, 23)", end.last(0, 23), 3);
        due("last(0, 0)", end.last(0, 0), 8);
    }

    /** "(whatever room)": also where there are 8 straws; and it changes nothing. */
    private static void lastWhateverRoom() {
        CamelStraws x = Check.told("y2", "", 0, 0, 0, 0, 0, 0, 9, 7, 9, 7, 9, 7, 9, 7, 9, 7);
        due("last(0, 0)", x.last(0, 0), 5);
        due("last(0, 10)", x.last(0, 10), 8);
        due("count(4)", x.count(4), 8);
        due("at(0, 0, 0)", x.at(0, 0, 0), 3);
        due("at(0, 0, 3)", x.at(0, 0, 3), 0);
    }

    /** "NONE": it lies, it has no strength, it is full. */
    private static void lastNone() {
        CamelStraws x = Check.told("s1", "a4a"); // full on day 0, and broken by wear
        for (int day = 0; day <= 2; day++) {
            due("last(0, " + day + ")", x.last(0, day), NONE);
        }
        due("last(0, 3): it stands, with 0", x.last(0, 3), NONE);
        due("last(0, 4): with 1", x.last(0, 4), 1);
        CamelStraws full = Check.told("y1", "a3g", 6, 0);
        due("last(0, 6): the last one is on it", full.last(0, 6), NONE);
        CamelStraws over = Check.told("y1", "a4g", 6, 0);
        due("last(0, 6): broken", over.last(0, 6), NONE);
        due("last(0, 5): it would be 4", over.last(0, 5), 4);
    }

    /** "LAST; NONE. BAD." */
    private static void lastBad() {
        CamelStraws x = Check.told("y1;y1", "");
        due("last(1, 23)", x.last(1, 23), 4);
        for (int wrong : new int[] {-1, 2, 7, 8, LEAST, MOST}) {
            due("last(" + wrong + ", 0)", x.last(wrong, 0), BAD);
        }
        for (int wrong : new int[] {-1, 24, LEAST, MOST}) {
            due("last(0, " + wrong + ")", x.last(0, wrong), BAD);
        }
    }

    private static void dueBear(String why, CamelStraws x, int bale, int which, int howMuch) {
        due(why + ": bear(" + bale + ", 0)", x.bear(bale, 0), which);
        due(why + ": bear(" + bale + ", 1)", x.bear(bale, 1), howMuch);
    }

    /** "the CAMEL (0 to 7), in place of its own": each of the eight may be the one. */
    private static void bearAllPlaces() {
        for (int strong = 0; strong < 8; strong++) {
            StringBuilder camels = new StringBuilder();
            for (int c = 0; c < 8; c++) {
                camels.append(c > 0 ? ";" : "").append(c == strong ? "y2" : "y1");
            }
            CamelStraws x = Check.told(camels.toString(), letter((strong + 3) % 8) + "6g");
            dueBear("the strong one is " + strong, x, 0, strong, 6);
            due("bale(0, 0) stays", x.bale(0, 0), (strong + 3) % 8);
        }
        // 3 are there: on 3 to 7 it does no harm
        dueBear("one that is not there", Check.told("y1;y1;y1", "a9g;a4h;b4h;c4h"), 0, 3, 12);
    }

    /** "(0 to 7)": not beyond them, however much better that were; and none that was there once. */
    private static void bearNoOtherPlace() {
        CamelStraws eight = Check.told("y1;y1;y1;y1;y1;y1;y1;y1", "c9h;a4h;b4h;c4h;d4h;e4h;f4h;g4h;h4h");
        dueBear("each of eight breaks by it", eight, 0, 0, 28);
        CamelStraws gone = Check.told("y1;y9", "a9g");
        dueBear("the strong one is there", gone, 0, 1, 9);
        gone.undo(0);
        gone.undo(0);
        gone.undo(0);
        dueBear("the strong one is there no more", gone, 0, 0, 0);
    }

    /** "by which most comes THROUGH in all, of like ones the least" */
    private static void bearOfLikeOnes() {
        dueBear("all alike", Check.told("y9;y9;y9", "c5a"), 0, 0, 5);
        dueBear("two alike", Check.told("y1;y9;y9", "a5a"), 0, 1, 5);
        dueBear("none brings anything", Check.told("y1;y1", "b9a"), 0, 0, 0);
        dueBear("there are none", Check.told("", "h9x"), 0, 0, 0);
    }

    /** "how much": of all camels, bales and straws. */
    private static void bearHowMuch() {
        CamelStraws x = Check.told("y2;y2", "a8g;a3g;b2p", 6, 1);
        dueBear("3 beside 8 is too much", x, 1, 1, 14);
        dueBear("8 beside 3, or with the straw, is too much: better not there", x, 0, 2, 6);
        dueBear("2 at the second well", x, 2, 0, 3);
        due("through() is as it was", x.through(), 3);
    }

    /** "BEAR: which (what = 0), how much (1). BAD." */
    private static void bearBad() {
        CamelStraws x = Check.told("y1", "a1a;a1b");
        due("bear(1, 0)", x.bear(1, 0), 0);
        for (int wrong : new int[] {-1, 2, 10, LEAST, MOST}) {
            due("bear(" + wrong + ", 0)", x.bear(wrong, 0), BAD);
            due("bear(0, " + wrong + ")", x.bear(0, wrong), BAD);
        }
        due("of none", Check.told("y1", "").bear(0, 0), BAD);
    }

    private static void dueWhen(String why, CamelStraws x, int bale, int which, int howMuch) {
        due(why + ": when(" + bale + ", 0)", x.when(bale, 0), which);
        due(why + ": when(" + bale + ", 1)", x.when(bale, 1), howMuch);
    }

    /** "the DAY, in place of its own": days 0, 5, 23 as the one, each told on another day. */
    private static void whenAllDays() {
        // 9 on 12 wears one that sighs below 9 behind the fourth day
        dueWhen("fewer than four days to the well", Check.told("s3", "a9a"), 0, 5, 9);
        dueWhen("day 0", Check.told("y9", "a9x"), 0, 0, 9);
        // 3 on 4 sighs through one day alone, a well's; on days 7 and 15 it lies, broken on 6 and 14
        CamelStraws end = Check.told("s1", "a5g;a5o;a3a");
        dueWhen("day 23, behind two falls", end, 2, 23, 3);
        due("bale(2, 2) stays", end.bale(2, 2), 0);
    }

    /** The same: no day beyond 23, however much better that were. */
    private static void whenNoOtherDay() {
        // 27 comes ahead of each well, and through; with 9 more it is too much, sooner or later, on each day
        CamelStraws laden = Check.told("y9", "a9m;a9a;a9a;a9a;a9i;a9i;a9i;a9q;a9q;a9q");
        dueWhen("each day is too early", laden, 0, 0, 54);
        CamelStraws gone = Check.told("y1;y9", "b9x;a1a");
        dueWhen("its camel is there", gone, 0, 0, 10);
        gone.undo(0);
        gone.undo(0);
        gone.undo(0);
        dueWhen("its camel is there no more", gone, 0, 0, 1);
    }

    /** "likewise": most in all, of like ones the least. */
    private static void whenOfLikeOnes() {
        dueWhen("all alike", Check.told("o9", "a1p"), 0, 0, 1);
        dueWhen("none alike brings anything", Check.told("y1", "a9p"), 0, 0, 0);
        dueWhen("in all", Check.told("y1;y9", "a4d;b7p"), 0, 6, 11);
    }

    /** The same, of a camel that is not there: all days are alike. */
    private static void whenOfOneThatIsNotThere() {
        dueWhen("of none", Check.told("", "a1x"), 0, 0, 0);
        dueWhen("of another", Check.told("y9", "h9x;a2c"), 0, 0, 2);
    }

    /** "WHEN: which (what = 0), how much (1). BAD." */
    private static void whenBad() {
        CamelStraws x = Check.told("y1", "a1a;a1b");
        due("when(1, 0)", x.when(1, 0), 0);
        for (int wrong : new int[] {-1, 2, 10, LEAST, MOST}) {
            due("when(" + wrong + ", 0)", x.when(wrong, 0), BAD);
            due("when(0, " + wrong + ")", x.when(0, wrong), BAD);
        }
        due("of none", Check.told("y1", "").when(0, 0), BAD);
    }

    private static void dueSpare(String why, CamelStraws x, int howMany, int one, int two) {
        due(why + ": spare(NONE)", x.spare(NONE), howMany);
        due(why + ": spare(0)", x.spare(0), one);
        due(why + ": spare(1)", x.spare(1), two);
    }

    /** "the fewest STRAWS (0 to 2) that had better not be, so that no CAMEL ever BREAKS" */
    private static void spareFewest() {
        dueSpare("none breaks", Check.told("y1", "a2g", 6, 0, 6, 0), 0, NONE, NONE);
        dueSpare("one too many", Check.told("y1", "a2g", 6, 0, 6, 0, 6, 0), 1, 0, NONE);
        dueSpare("two too many", Check.told("y1", "a2g", 6, 0, 6, 0, 6, 0, 6, 0), 2, 0, 1);
        dueSpare("three too many", Check.told("y1", "a2g", 6, 0, 6, 0, 6, 0, 6, 0, 6, 0), NONE, NONE, NONE);
        // without straws 0 and 1, or without 2 alone: the fewest are told
        dueSpare("one is fewer than two", Check.told("y1;y1", "a3g;b4p", 6, 0, 0, 5, 15, 1), 1, 2, NONE);
        dueSpare("on two camels", Check.told("y1;y1", "a4g;b4p", 6, 0, 0, 5, 15, 1), 2, 0, 2);
        dueSpare("on three camels", Check.told("y1;y1;y1", "a4g;b4p;c4w", 6, 0, 15, 1, 22, 2), NONE, NONE, NONE);
    }

    /** "of like ones the least row (each more than the one ahead)" */
    private static void spareLeastRow() {
        dueSpare("the last of eight", Check.told("y1", "a4g", 0, 1, 0, 1, 0, 1, 0, 1, 0, 1, 0, 1, 0, 1, 6, 0), 1, 7, NONE);
        dueSpare("the last two of eight", Check.told("y1", "a4g", 0, 1, 0, 1, 0, 1, 0, 1, 0, 1, 0, 1, 6, 0, 6, 0), 2, 6, 7);
        // one of 0 and 3, and one of 1 and 2
        dueSpare("0 with 1", Check.told("y1;y1", "a3g;b3p", 6, 0, 15, 1, 15, 1, 6, 0), 2, 0, 1);
        // 3 with one of 0, 1, 2
        dueSpare("0 with 3", Check.told("y1;y1", "a2g;b4p", 6, 0, 6, 0, 6, 0, 15, 1), 2, 0, 3);
        // 0 with one of 4 to 7
        dueSpare("0 with 4", Check.told("y1;y1", "a1g;b4p", 15, 1, 0, 7, 0, 7, 0, 7, 6, 0, 6, 0, 6, 0, 6, 0), 2, 0, 4);
    }

    /** "NONE": where bales or wear alone break one. */
    private static void spareNone() {
        dueSpare("by a bale", Check.told("y1", "a5g", 6, 0), NONE, NONE, NONE);
        dueSpare("by wear", Check.told("s1", "a4g"), NONE, NONE, NONE);
        dueSpare("by wear, with a straw", Check.told("s1", "a2g", 6, 0), 1, 0, NONE);
    }

    /** "how many (i = NONE)": of no straws, of none that are on one. */
    private static void spareOfNoStraws() {
        dueSpare("of a new one", new CamelStraws(), 0, NONE, NONE);
        dueSpare("without straws", Check.told("y1", "a1a"), 0, NONE, NONE);
        dueSpare("without camels", Check.told("", "a9a", 0, 0, 0, 0), 0, NONE, NONE);
        CamelStraws x = Check.told("y1", "a4g", 6, 0);
        x.spare(0);
        due("straws are as they were", x.at(6, 0, 5), 1);
    }

    /** "SPARE: how many (i = NONE), the i-th (0, 1; NONE); NONE. BAD." */
    private static void spareBad() {
        for (CamelStraws x : new CamelStraws[] {new CamelStraws(), Check.told("y1", "a5a"), Check.told("y1", "a4g", 6, 0)}) {
            for (int wrong : new int[] {-2, 2, 3, LEAST, MOST}) {
                due("spare(" + wrong + ")", x.spare(wrong), BAD);
            }
        }
    }
}
