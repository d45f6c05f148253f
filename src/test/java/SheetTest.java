/** Promises 29 to 36: sheet, lose, put, get, copy, write, count, digest. */
public final class SheetTest {
    private static final int LEAST = Integer.MIN_VALUE, MOST = Integer.MAX_VALUE;
    private static final int NULL = -11, INDEX = -12, CAST = -13, STORE = -14, SIZE = -15;

    public static void main(String[] args) {
        sheet();
        lose();
        put();
        get();
        copy();
        copyRefusals();
        write();
        count();
        digest();
        refusalsChangeNothing();
        Check.end();
    }

    private static void dueItems(CamelStraws x, int s, int form, int... items) {
        for (int i = 0; i < items.length; i++) {
            Check.due("get(" + s + ", " + form + ", " + i + ")", x.get(s, form, i), items[i]);
        }
        Check.due("no item behind", x.get(s, form, items.length), LEAST);
        Check.due("count(8) behind that", x.count(8), 2);
    }

    private static void sheet() {
        CamelStraws x = new CamelStraws();
        for (int[] wrong : new int[][] {{-1, 0, 0}, {4, 0, 0}, {0, -1, 0}, {0, 3, 0}, {0, 0, 61}, {0, 0, MOST}, {4, 0, -1}, {0, 3, -1}, {LEAST, 0, 0}, {0, MOST, 0}}) {
            Check.due("sheet(" + wrong[0] + ", " + wrong[1] + ", " + wrong[2] + ")", x.sheet(wrong[0], wrong[1], wrong[2]), CamelStraws.BAD);
        }
        Check.due("count(8)", x.count(8), 0);
        Check.due("sheet(0, 0, -1)", x.sheet(0, 0, -1), SIZE);
        Check.due("count(8)", x.count(8), 5);
        Check.due("sheet(0, 0, least)", x.sheet(0, 0, LEAST), SIZE);
        Check.due("it is lost yet", x.lose(0), NULL);
        Check.due("sheet(3, 2, 60)", x.sheet(3, 2, 60), 60);
        Check.due("put", x.put(3, 2, 59, 5), 1);
        Check.due("sheet(3, 2, -1)", x.sheet(3, 2, -1), SIZE);
        Check.due("it stays", x.get(3, 2, 59), 5);
        Check.due("sheet(3, 2, 60)", x.sheet(3, 2, 60), 60);
        Check.due("a new row", x.get(3, 2, 59), 0);
        Check.due("sheet(3, 1, 0)", x.sheet(3, 1, 0), 0);
        Check.due("of no items", x.lose(3), 0);
    }

    private static void lose() {
        CamelStraws x = new CamelStraws();
        Check.due("lose(-1)", x.lose(-1), CamelStraws.BAD);
        Check.due("lose(4)", x.lose(4), CamelStraws.BAD);
        Check.due("count(8)", x.count(8), 0);
        x.sheet(1, 1, 7);
        Check.due("lose(1)", x.lose(1), 7);
        Check.due("lose(1) again", x.lose(1), NULL);
        Check.due("count(8)", x.count(8), 1);
    }

    private static void put() {
        CamelStraws x = new CamelStraws();
        x.sheet(0, 0, 3);
        x.sheet(1, 1, 3);
        x.sheet(2, 2, 3);
        int[][] kept = {{-128, -1, 0}, {-32768, -1, 256}, {0x12348000, -1, 0x7fffff00}};
        for (int form = 0; form < 3; form++) {
            Check.due("put 0", x.put(form, form, 0, new int[] {128, 0x18000, 0x12348000}[form]), 1);
            Check.due("put 1", x.put(form, form, 1, -1), 1);
            Check.due("put 2", x.put(form, form, 2, new int[] {256, 0x10100, 0x7fffff00}[form]), 1);
        }
        for (int form = 0; form < 3; form++) {
            dueItems(x, form, form, kept[form]);
        }
        for (int[] wrong : new int[][] {{-1, 0, 0}, {4, 0, 0}, {0, -1, 0}, {0, 3, 0}, {3, 3, 0}}) {
            Check.due("put(" + wrong[0] + ", " + wrong[1] + ", 0, 1)", x.put(wrong[0], wrong[1], wrong[2], 1), CamelStraws.BAD);
        }
        Check.due("NULL is ahead of CAST and INDEX", x.put(3, 1, 99, 1), NULL);
        Check.due("count(8)", x.count(8), 1);
        Check.due("CAST is ahead of INDEX", x.put(0, 1, 99, 1), CAST);
        Check.due("count(8)", x.count(8), 3);
        for (int i : new int[] {-1, 3, LEAST, MOST}) {
            Check.due("put(0, 0, " + i + ", 1)", x.put(0, 0, i, 1), INDEX);
        }
        Check.due("count(8)", x.count(8), 2);
        dueItems(x, 0, 0, kept[0]);
    }

    private static void get() {
        CamelStraws x = new CamelStraws();
        for (int[] wrong : new int[][] {{-1, 0}, {4, 0}, {0, -1}, {0, 3}}) {
            Check.due("get(" + wrong[0] + ", " + wrong[1] + ", 0)", x.get(wrong[0], wrong[1], 0), LEAST);
        }
        Check.due("BAD is no finding", x.count(8), 0);
        Check.due("get of a lost one", x.get(0, 0, 0), LEAST);
        Check.due("count(8)", x.count(8), 1);
        x.sheet(0, 1, 2);
        Check.due("get as another form", x.get(0, 2, 9), LEAST);
        Check.due("count(8)", x.count(8), 3);
        Check.due("get(0, 1, 2)", x.get(0, 1, 2), LEAST);
        Check.due("count(8)", x.count(8), 2);
        Check.due("get(0, 1, -1)", x.get(0, 1, -1), LEAST);
        Check.due("get(0, 1, 1)", x.get(0, 1, 1), 0);
    }

    private static void copy() {
        CamelStraws x = new CamelStraws();
        x.sheet(0, 2, 5);
        x.sheet(1, 2, 4);
        for (int i = 0; i < 5; i++) {
            x.put(0, 2, i, i + 1);
        }
        Check.due("copy(0, 1, 1, 2, 2)", x.copy(0, 1, 1, 2, 2), 1);
        dueItems(x, 1, 2, 0, 0, 2, 3);
        Check.due("copy(0, 0, 0, 1, 4)", x.copy(0, 0, 0, 1, 4), 1);
        dueItems(x, 0, 2, 1, 1, 2, 3, 4);
        Check.due("copy(0, 2, 0, 0, 3)", x.copy(0, 2, 0, 0, 3), 1);
        dueItems(x, 0, 2, 2, 3, 4, 3, 4);
        Check.due("none at the ends", x.copy(0, 5, 1, 4, 0), 1);
        dueItems(x, 1, 2, 0, 0, 2, 3);
    }

    private static void copyRefusals() {
        CamelStraws x = new CamelStraws();
        x.sheet(0, 0, 3);
        x.sheet(1, 1, 3);
        x.sheet(2, 0, 2);
        for (int[] wrong : new int[][] {{-1, 0}, {4, 0}, {0, -1}, {0, 4}, {3, 4}}) {
            Check.due("copy(" + wrong[0] + ", 0, " + wrong[1] + ", 0, 1)", x.copy(wrong[0], 0, wrong[1], 0, 1), CamelStraws.BAD);
        }
        Check.due("count(8)", x.count(8), 0);
        Check.due("from a lost one", x.copy(3, -1, 0, 0, 1), NULL);
        Check.due("to a lost one", x.copy(0, -1, 3, 0, 1), NULL);
        Check.due("count(8)", x.count(8), 1);
        Check.due("STORE is ahead of INDEX", x.copy(0, -1, 1, 9, 1), STORE);
        Check.due("count(8)", x.count(8), 4);
        Check.due("STORE even of none", x.copy(0, 0, 1, 0, 0), STORE);
        for (int[] w : new int[][] {{-1, 0, 1}, {0, -1, 1}, {0, 0, -1}, {0, 0, 3}, {2, 0, 2}, {0, 1, 2}, {4, 0, 0}, {0, 3, 0},
                {1, 1, MOST}, {MOST, 0, 1}, {0, MOST, 1}, {MOST, MOST, MOST}, {LEAST, LEAST, LEAST}}) {
            Check.due("copy(0, " + w[0] + ", 2, " + w[1] + ", " + w[2] + ")", x.copy(0, w[0], 2, w[1], w[2]), INDEX);
        }
        Check.due("count(8)", x.count(8), 2);
    }

    private static void write() {
        CamelStraws x = Check.told("s2;y9", "a1a");
        for (int[] wrong : new int[][] {{-1, 0}, {2, 0}, {0, -1}, {0, 4}, {LEAST, 0}, {0, MOST}}) {
            Check.due("write(" + wrong[0] + ", " + wrong[1] + ")", x.write(wrong[0], wrong[1]), CamelStraws.BAD);
        }
        Check.due("count(8)", x.count(8), 0);
        Check.due("write to a lost one", x.write(0, 0), NULL);
        Check.due("count(8)", x.count(8), 1);
        for (int form = 0; form < 3; form++) {
            x.sheet(form, form, 26);
            x.put(form, form, 24, 77);
            Check.due("write(0, " + form + ")", x.write(0, form), 24);
            dueItems(x, form, form, 7, 6, 5, 4, 3, 2, 1, 0, 0, 0, 1, 2, 3, 4, 5, 6, 7, 8, 8, 8, 8, 8, 8, 8, 77, 0);
        }
        x.sheet(0, 0, 2);
        Check.due("write(1, 0)", x.write(1, 0), 2);
        dueItems(x, 0, 0, 36, 36);
        x.sheet(0, 0, 0);
        Check.due("write to no items", x.write(1, 0), 0);
    }

    private static void count() {
        CamelStraws x = Check.told("s1;y1;", "a5a;b3g", 6, 1, 9, 1, 23, 3);
        x.seen(1, 1, 1);
        x.lose(2);
        int[] withFault = {0, 2, 6, 7, 3, 0, 0, 1, 1};
        for (int what = 0; what < 9; what++) {
            Check.due("count(" + what + ") with a fault", x.count(what), withFault[what]);
        }
        x.undo(0);
        int[] well = {2, 2, 5, 7, 3, 4, 1, 1, 1};
        for (int what = 0; what < 9; what++) {
            Check.due("count(" + what + ")", x.count(what), well[what]);
        }
        for (int wrong : new int[] {-1, 9, LEAST, MOST}) {
            Check.due("count(" + wrong + ")", x.count(wrong), CamelStraws.BAD);
        }
        x.sheet(2, 0, -1);
        Check.due("the latest finding", x.count(8), 5);
    }

    private static void digest() {
        CamelStraws x = new CamelStraws();
        Check.due("digest() of a new one", x.digest(), -7194187391056553005L);
        x.lose(0);
        Check.due("sheets and findings are not in it", x.digest(), -7194187391056553005L);
        Check.say(x, 0, "y1;o2;s3");
        Check.say(x, 1, "a3g;c9a");
        x.straw(6, 0);
        x.straw(6, 0);
        x.seen(6, 2, 9);
        Check.due("digest()", x.digest(), mixed(x));
        Check.due("digest() again", x.digest(), mixed(x));
    }

    private static long h;

    private static void mix(long... answers) {
        for (long answer : answers) {
            h = 31 * h + answer;
        }
    }

    private static long mixed(CamelStraws x) {
        h = 17;
        mix(x.count(0), x.count(1), x.count(2), x.count(3), x.count(4), x.count(5), x.count(6), x.count(7));
        mix(x.fault(0), x.fault(1));
        for (int b = 0; b < x.count(1); b++) {
            mix(x.bale(b, 0), x.bale(b, 1), x.bale(b, 2), x.bear(b, 0), x.bear(b, 1), x.when(b, 0), x.when(b, 1));
        }
        for (int c = 0; c < x.count(0); c++) {
            mix(x.camel(c, 0), x.camel(c, 1));
            for (int day : new int[] {0, 7, 14, 23}) {
                mix(x.at(day, c, 0), x.at(day, c, 1), x.at(day, c, 2), x.at(day, c, 3), x.at(day, c, 4), x.at(day, c, 5));
            }
            mix(x.last(c, 5), x.was(c, 0), x.was(c, 1), x.ask(c), x.chance(5, c, 0), x.chance(5, c, 1));
        }
        mix(x.through(), x.lost(), x.first(0), x.first(1), x.best(), x.whole(), x.tired());
        mix(x.spare(-1), x.spare(0), x.never(), x.years(7, 6, 0), x.years(7, 6, 1));
        return h;
    }

    private static void refusalsChangeNothing() {
        CamelStraws x = Check.told("y1;o2;s3", "a3g;c9a", 6, 0, 6, 0, 1, 1, 1, 1, 1, 1, 1, 1, 1, 1, 1, 1);
        for (int i = 0; i < 8; i++) {
            x.seen(6, 2, 9);
        }
        long before = x.digest();
        x.type(0, 256);
        x.undo(2);
        x.wipe(-1);
        x.straw(0, 0);
        x.straw(24, 0);
        x.read(0);
        x.seen(0, 0, 0);
        x.seen(0, 0, 100);
        x.write(0, 0);
        x.chance(17, 0, 0);
        x.years(1, 9, 0);
        Check.due("digest()", x.digest(), before);
        Check.due("count(8)", x.count(8), 1);
    }
}
