/** Promises 11 to 17: at, through, lost, first, best, whole, tired. */
public final class DayTest {
    private static final int LEAST = Integer.MIN_VALUE, MOST = Integer.MAX_VALUE;

    public static void main(String[] args) {
        wrongInputs();
        young();
        old();
        sighing();
        brokenByBale();
        brokenByStraw();
        brokenByWear();
        fees();
        wells();
        camelsThatAreNotThere();
        throughAndLost();
        first();
        best();
        whole();
        tired();
        Check.end();
    }

    private static void wrongInputs() {
        CamelStraws x = Check.told("y1;o1", "");
        for (int[] wrong : new int[][] {{-1, 0, 0}, {24, 0, 0}, {0, -1, 0}, {0, 2, 0}, {0, 0, -1}, {0, 0, 6}, {0, 0, 7},
                {LEAST, 0, 0}, {MOST, 0, 0}, {0, LEAST, 0}, {0, MOST, 0}, {0, 0, LEAST}, {0, 0, MOST}}) {
            Check.due("at(" + wrong[0] + ", " + wrong[1] + ", " + wrong[2] + ")", x.at(wrong[0], wrong[1], wrong[2]), CamelStraws.BAD);
        }
        Check.due("first(-1)", x.first(-1), CamelStraws.BAD);
        Check.due("first(2)", x.first(2), CamelStraws.BAD);
    }

    /** A young one tires on days 2, 5, 8 .. alone, and rests on every day. */
    private static void young() {
        CamelStraws x = Check.told("y1", "a3a", 0, 0);
        Check.dueAt(x, 0, 0, 4, 4, 0, 4, 0, 0);
        Check.dueAt(x, 1, 0, 4, 4, 0, 4, 0, 0);
        Check.dueAt(x, 2, 0, 0, 0, 1, 4, 0, 1);
        Check.dueAt(x, 4, 0, 0, 0, 1, 4, 0, 1);
        Check.dueAt(x, 5, 0, 0, 1, 0, 4, 0, 1);
        Check.dueAt(x, 6, 0, 0, 2, 0, 4, 0, 1);
        Check.dueAt(x, 8, 0, 0, 4, 0, 4, 0, 1);
        Check.dueAt(x, 9, 0, 0, 4, 0, 4, 0, 1);
    }

    /** An old one tires if twice the load is more than its strength alone. */
    private static void old() {
        CamelStraws x = Check.told("o2", "a4a", 1, 0);
        Check.dueAt(x, 0, 0, 4, 8, 0, 0, 0, 0);
        Check.dueAt(x, 1, 0, 5, 7, 0, 0, 0, 0);
        Check.dueAt(x, 3, 0, 5, 5, 0, 0, 0, 0);
        Check.dueAt(x, 4, 0, 0, 1, 1, 0, 0, 1);
        Check.dueAt(x, 6, 0, 0, 1, 1, 0, 0, 1);
        Check.dueAt(x, 7, 0, 0, 2, 0, 0, 0, 1);
    }

    /** One that sighs tires every day with a load. */
    private static void sighing() {
        CamelStraws x = Check.told("s3", "a5f");
        Check.dueAt(x, 4, 0, 0, 12, 0, 0, 0, 0);
        Check.dueAt(x, 5, 0, 5, 11, 0, 0, 0, 0);
        Check.dueAt(x, 6, 0, 5, 10, 0, 0, 0, 0);
        Check.dueAt(x, 7, 0, 0, 9, 0, 0, 5, 0);
        Check.dueAt(x, 8, 0, 0, 10, 0, 0, 5, 0);
        Check.dueAt(x, 10, 0, 0, 12, 0, 0, 5, 0);
        Check.dueAt(x, 23, 0, 0, 12, 0, 0, 5, 0);
    }

    /** What comes on one that lies is not on it, and not lost; it stands on the third day behind. */
    private static void brokenByBale() {
        CamelStraws x = Check.told("s1", "a5a;a1a;a1c;a1d", 0, 0, 2, 0);
        Check.dueAt(x, 0, 0, 0, 1, 1, 0, 0, 1);
        Check.dueAt(x, 2, 0, 0, 1, 1, 0, 0, 1);
        Check.dueAt(x, 3, 0, 0, 0, 1, 0, 0, 2);
        Check.dueAt(x, 5, 0, 0, 0, 1, 0, 0, 2);
        Check.dueAt(x, 6, 0, 0, 1, 0, 0, 0, 2);
        Check.due("lost()", x.lost(), 6);
        Check.due("through()", x.through(), 0);
        CamelStraws order = Check.told("y1", "a1g;a5g;a2g");
        Check.dueAt(order, 6, 0, 0, 1, 1, 0, 0, 1);
        Check.due("bales come as told", order.lost(), 6);
    }

    private static void brokenByStraw() {
        CamelStraws x = Check.told("y1", "a4g", 6, 0, 6, 0);
        Check.dueAt(x, 6, 0, 0, 1, 1, 0, 0, 1);
        Check.due("lost()", x.lost(), 5);
        CamelStraws ahead = Check.told("y1", "a4g", 5, 0, 6, 0);
        Check.dueAt(ahead, 5, 0, 1, 3, 0, 0, 0, 0);
        Check.due("a bale is ahead of the straw of its day", ahead.lost(), 5);
    }

    /** A load that breaks it at a well, by wear, does not come through. */
    private static void brokenByWear() {
        CamelStraws x = Check.told("s1", "a4h");
        Check.dueAt(x, 7, 0, 0, 0, 1, 0, 0, 1);
        Check.dueAt(x, 9, 0, 0, 0, 1, 0, 0, 1);
        Check.dueAt(x, 10, 0, 0, 1, 0, 0, 0, 1);
        Check.due("lost()", x.lost(), 4);
        Check.due("through()", x.through(), 0);
        CamelStraws none = Check.told("s2", "a1a");
        Check.dueAt(none, 6, 0, 1, 1, 0, 0, 0, 0);
        Check.dueAt(none, 7, 0, 0, 0, 1, 0, 0, 1);
    }

    /** A fee is for a straw that makes the load just the strength, as it is then. */
    private static void fees() {
        CamelStraws byBale = Check.told("y1", "a4g");
        Check.due("a bale has no fee", byBale.at(6, 0, 3), 0);
        CamelStraws worn = Check.told("s1", "a1e", 5, 0, 5, 0, 9, 0);
        Check.dueAt(worn, 4, 0, 1, 3, 0, 0, 0, 0);
        Check.dueAt(worn, 5, 0, 0, 0, 1, 3, 0, 1);
        Check.dueAt(worn, 8, 0, 0, 1, 0, 3, 0, 1);
        Check.dueAt(worn, 9, 0, 0, 0, 1, 4, 0, 2);
        CamelStraws two = Check.told("y1;y2", "a3g;a3h;b7h;a3o", 6, 0, 7, 1, 14, 0, 14, 0);
        Check.dueAt(two, 6, 0, 4, 4, 0, 4, 0, 0);
        Check.dueAt(two, 7, 0, 0, 1, 1, 4, 0, 1);
        Check.dueAt(two, 7, 1, 0, 8, 0, 8, 8, 0);
        Check.dueAt(two, 14, 0, 0, 1, 1, 8, 0, 2);
        Check.due("count(5)", two.count(5), 16);
    }

    private static void wells() {
        CamelStraws x = Check.told("y9", "a1a;a2h;a3i;a4p;a5q;a6x");
        Check.dueAt(x, 6, 0, 1, 34, 0, 0, 0, 0);
        Check.dueAt(x, 7, 0, 0, 34, 0, 0, 3, 0);
        Check.dueAt(x, 8, 0, 3, 33, 0, 0, 3, 0);
        Check.dueAt(x, 15, 0, 0, 31, 0, 0, 10, 0);
        Check.dueAt(x, 16, 0, 5, 31, 0, 0, 10, 0);
        Check.dueAt(x, 23, 0, 0, 28, 0, 0, 21, 0);
        Check.due("through()", x.through(), 21);
    }

    private static void camelsThatAreNotThere() {
        CamelStraws x = Check.told("y9", "b9a;h9a", 0, 1, 0, 7);
        Check.dueAt(x, 23, 0, 0, 36, 0, 0, 0, 0);
        Check.due("through()", x.through(), 0);
        Check.due("lost()", x.lost(), 0);
        Check.say(x, 0, "");
        x.type(0, ';');
        x.type(0, 'o');
        x.type(0, '3');
        Check.due("as soon as it is there", x.at(0, 1, 0), 10);
    }

    private static void throughAndLost() {
        CamelStraws none = new CamelStraws();
        Check.due("through() of none", none.through(), 0);
        Check.due("lost() of none", none.lost(), 0);
        CamelStraws x = Check.told("y9;y9;s1;s1", "a9a;b8j;c5c;d4d;a7w", 3, 0);
        Check.due("through()", x.through(), 25);
        Check.due("lost()", x.lost(), 9);
        Check.due("count(6)", x.count(6), 2);
    }

    private static void first() {
        CamelStraws none = Check.told("y9", "a9a");
        Check.due("first(0) of none", none.first(0), CamelStraws.NONE);
        Check.due("first(1) of none", none.first(1), CamelStraws.NONE);
        CamelStraws x = Check.told("y1;s1;o1", "c5c;b5c;a5d");
        Check.due("first(0)", x.first(0), 2);
        Check.due("first(1)", x.first(1), 1);
        CamelStraws atOnce = Check.told("y1;s1", "b5a");
        Check.due("first(0) at once", atOnce.first(0), 0);
        Check.due("first(1) at once", atOnce.first(1), 1);
    }

    private static void best() {
        Check.due("best() of none", new CamelStraws().best(), CamelStraws.NONE);
        Check.due("best() of nothing through", Check.told("y1;y1", "").best(), 0);
        Check.due("best()", Check.told("y9;y9;y9", "b5a;c5a;a4a").best(), 1);
        Check.due("best() by day 23", Check.told("y9;y9;y9", "b5a;c5a;a4a;a1x;c2v").best(), 2);
    }

    private static void whole() {
        Check.due("whole() of none", new CamelStraws().whole(), 0);
        Check.due("whole()", Check.told("y1;s1;o1;y2;y1;y1;y1;y1", "b5c;c5d").whole(), 0xf9);
    }

    private static void tired() {
        Check.due("tired() of none", new CamelStraws().tired(), 0);
        Check.due("tired() of fresh ones", Check.told("y1;o9", "").tired(), 0);
        Check.due("tired()", Check.told("s2", "a1a").tired(), 7);
        // the old one breaks on day 3 and has 1 until day 5; the young one has 5 for three days from its break on
        Check.due("tired() of two, days 3 and 4 alike", Check.told("o2;y2", "a5a;b9c").tired(), 3);
        Check.due("tired() of two, together", Check.told("o2;y2", "a5a;b9f").tired(), 5);
    }
}
