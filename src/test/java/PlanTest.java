/** Promises 18 to 21: last, bear, when, spare. */
public final class PlanTest {
    private static final int LEAST = Integer.MIN_VALUE, MOST = Integer.MAX_VALUE;

    public static void main(String[] args) {
        last();
        bear();
        when();
        plansChangeNothing();
        spare();
        spareOnSeveralCamels();
        Check.end();
    }

    private static void last() {
        CamelStraws x = Check.told("s2;y3;y3;y1", "a1a;b3a;c2a;d5a", 0, 0, 2, 0, 2, 0);
        Check.due("last(0, 0): ahead of wear, behind the straw", x.last(0, 0), 6);
        Check.due("last(0, 1)", x.last(0, 1), 5);
        Check.due("last(0, 2)", x.last(0, 2), 2);
        Check.due("last(1, 0): 9", x.last(1, 0), 9);
        Check.due("last(2, 0): 10", x.last(2, 0), CamelStraws.NONE);
        Check.due("last(3, 0): it lies", x.last(3, 0), CamelStraws.NONE);
        Check.due("last(3, 3): strength 1 then", x.last(3, 3), 1);
        Check.due("last(3, 23)", x.last(3, 23), 4);
        CamelStraws full = Check.told("y1;y1", "a4g", 0, 1, 0, 1, 0, 1, 0, 1, 1, 7, 1, 7, 1, 7, 1, 7);
        Check.due("last(0, 5): whatever room", full.last(0, 5), 4);
        Check.due("last(0, 6): nothing is left", full.last(0, 6), CamelStraws.NONE);
        Check.due("last(1, 0): nothing is left", full.last(1, 0), CamelStraws.NONE);
        for (int[] wrong : new int[][] {{-1, 0}, {2, 0}, {0, -1}, {0, 24}, {LEAST, 0}, {MOST, 0}, {0, LEAST}, {0, MOST}}) {
            Check.due("last(" + wrong[0] + ", " + wrong[1] + ")", full.last(wrong[0], wrong[1]), CamelStraws.BAD);
        }
    }

    private static void dueBear(CamelStraws x, int bale, int which, int howMuch) {
        Check.due("bear(" + bale + ", 0)", x.bear(bale, 0), which);
        Check.due("bear(" + bale + ", 1)", x.bear(bale, 1), howMuch);
    }

    private static void bear() {
        CamelStraws x = Check.told("s1;s2;s2", "a5f");
        dueBear(x, 0, 1, 5);
        for (int[] wrong : new int[][] {{-1, 0}, {1, 0}, {0, -1}, {0, 2}, {LEAST, 0}, {MOST, 0}, {0, LEAST}, {0, MOST}}) {
            Check.due("bear(" + wrong[0] + ", " + wrong[1] + ")", x.bear(wrong[0], wrong[1]), CamelStraws.BAD);
        }
        // on the one camel it breaks it; on one that is not there the other bale comes through
        dueBear(Check.told("s1", "a4h;a1h"), 0, 1, 1);
        dueBear(Check.told("s1", "a4h;a1h"), 1, 0, 0);
        dueBear(Check.told("", "c1a"), 0, 0, 0);
        dueBear(Check.told("y1;y9;y1", "b9a;b9a;a4c", 9, 1), 2, 1, 23);
        dueBear(Check.told("y1;y1;y1;y1;y1;y1;y1;y9", "a9a;h9a"), 0, 7, 18);
    }

    private static void dueWhen(CamelStraws x, int bale, int which, int howMuch) {
        Check.due("when(" + bale + ", 0)", x.when(bale, 0), which);
        Check.due("when(" + bale + ", 1)", x.when(bale, 1), howMuch);
    }

    private static void when() {
        CamelStraws x = Check.told("s2;y9", "a5a;b3a");
        dueWhen(x, 0, 5, 8);
        dueWhen(x, 1, 0, 3);
        for (int[] wrong : new int[][] {{-1, 0}, {2, 0}, {0, -1}, {0, 2}, {LEAST, 0}, {MOST, 0}, {0, LEAST}, {0, MOST}}) {
            Check.due("when(" + wrong[0] + ", " + wrong[1] + ")", x.when(wrong[0], wrong[1]), CamelStraws.BAD);
        }
        dueWhen(Check.told("y9", "b9c;a2a"), 0, 0, 2);
        dueWhen(Check.told("", "a1c"), 0, 0, 0);
        // 8 wait at the first two wells: beside them, or tired by 7 ahead of them, it breaks; day 22 does as well
        dueWhen(Check.told("y2", "a8g;a8p;a7a"), 2, 21, 23);
    }

    private static void plansChangeNothing() {
        CamelStraws x = Check.told("s2;y9", "a5a;b3a", 2, 0);
        int before = x.at(4, 0, 1) * 100 + x.through() * 10 + x.lost();
        x.bear(0, 0);
        x.when(0, 0);
        x.last(0, 3);
        x.spare(0);
        Check.due("as it was", x.at(4, 0, 1) * 100 + x.through() * 10 + x.lost(), before);
        Check.due("bale(0, 0)", x.bale(0, 0), 0);
        Check.due("bale(0, 2)", x.bale(0, 2), 0);
        Check.due("count(4)", x.count(4), 1);
    }

    private static void dueSpare(CamelStraws x, int howMany, int one, int two) {
        Check.due("spare(NONE)", x.spare(CamelStraws.NONE), howMany);
        Check.due("spare(0)", x.spare(0), one);
        Check.due("spare(1)", x.spare(1), two);
    }

    private static void spare() {
        dueSpare(new CamelStraws(), 0, -1, -1);
        dueSpare(Check.told("y1", "a3g", 6, 0), 0, -1, -1);
        dueSpare(Check.told("y1", "a3g", 6, 0, 6, 0), 1, 0, -1);
        dueSpare(Check.told("y1", "a3g", 6, 1, 5, 0, 6, 0), 1, 1, -1);
        dueSpare(Check.told("y1", "a3g", 6, 0, 6, 0, 6, 0), 2, 0, 1);
        dueSpare(Check.told("y1", "a3g", 6, 3, 6, 0, 0, 4, 6, 0, 6, 0), 2, 1, 3);
        dueSpare(Check.told("y1", "a3g", 6, 0, 6, 0, 6, 0, 6, 0), -1, -1, -1);
        dueSpare(Check.told("y1", "a5g"), -1, -1, -1);
        CamelStraws x = new CamelStraws();
        for (int wrong : new int[] {-2, 2, LEAST, MOST}) {
            Check.due("spare(" + wrong + ")", x.spare(wrong), CamelStraws.BAD);
        }
    }

    private static void spareOnSeveralCamels() {
        dueSpare(Check.told("y1;y1", "a4g;b4p", 15, 1, 6, 0), 2, 0, 1);
        dueSpare(Check.told("y1;y1", "a4g;b3p", 15, 1, 6, 0, 15, 1), 2, 0, 1);
        dueSpare(Check.told("y1;y1", "a3g;b4p", 14, 0, 6, 0, 15, 1, 6, 0), 2, 1, 2);
    }
}
