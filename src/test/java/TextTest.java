/** Promises 1 to 10: a new object; type, wipe, undo, fault, camel, bale, straw, back, read. */
public final class TextTest {
    private static final int LEAST = Integer.MIN_VALUE, MOST = Integer.MAX_VALUE;

    public static void main(String[] args) {
        newObject();
        type();
        wipe();
        undo();
        faultOfCamels();
        faultOfBales();
        camel();
        bale();
        straw();
        back();
        read();
        readStops();
        Check.end();
    }

    private static void newObject() {
        CamelStraws x = new CamelStraws();
        for (int what = 0; what <= 8; what++) {
            Check.due("new: count(" + what + ")", x.count(what), 0);
        }
        for (int s = 0; s < 4; s++) {
            Check.due("new: lose(" + s + ")", x.lose(s), -11);
        }
    }

    private static void type() {
        CamelStraws x = new CamelStraws();
        for (int[] wrong : new int[][] {{-1, 97}, {2, 97}, {0, -1}, {0, 256}, {1, -1}, {1, 256}, {LEAST, 0}, {MOST, 0}, {0, LEAST}, {1, MOST}}) {
            Check.due("type(" + wrong[0] + ", " + wrong[1] + ")", x.type(wrong[0], wrong[1]), CamelStraws.BAD);
        }
        Check.due("bytes", x.count(2) + x.count(3), 0);
        Check.due("type(0, 0)", x.type(0, 0), 1);
        Check.due("type(0, 255)", x.type(0, 255), 2);
        for (int i = 3; i <= 23; i++) {
            Check.due("type(0, 59)", x.type(0, 59), i);
        }
        Check.due("type of a 24th", x.type(0, 59), CamelStraws.FULL);
        Check.due("BAD is ahead of FULL", x.type(0, 256), CamelStraws.BAD);
        Check.due("count(2)", x.count(2), 23);
        for (int i = 1; i <= 39; i++) {
            Check.due("type(1, 97)", x.type(1, 97), i);
        }
        Check.due("type of a 40th", x.type(1, 97), CamelStraws.FULL);
        Check.due("count(3)", x.count(3), 39);
    }

    private static void wipe() {
        CamelStraws x = Check.told("y1", "a1a;b2b");
        Check.due("wipe(-1)", x.wipe(-1), CamelStraws.BAD);
        Check.due("wipe(2)", x.wipe(2), CamelStraws.BAD);
        Check.due("wipe(1)", x.wipe(1), 7);
        Check.due("no bales", x.count(1), 0);
        Check.due("the other stays", x.count(0), 1);
        Check.due("wipe(1) again", x.wipe(1), 0);
        Check.due("wipe(0)", x.wipe(0), 2);
        Check.due("no camels", x.count(0), 0);
    }

    private static void undo() {
        CamelStraws x = Check.told("y1;", "");
        Check.due("undo(-1)", x.undo(-1), CamelStraws.BAD);
        Check.due("undo(2)", x.undo(2), CamelStraws.BAD);
        Check.due("undo(1)", x.undo(1), CamelStraws.NOT);
        Check.due("with a fault there are none", x.count(0), 0);
        Check.due("undo(0)", x.undo(0), 2);
        Check.due("well again", x.count(0), 1);
        Check.due("undo(0)", x.undo(0), 1);
        Check.due("undo(0)", x.undo(0), 0);
        Check.due("undo(0) of none", x.undo(0), CamelStraws.NOT);
        Check.due("fault(0)", x.fault(0), CamelStraws.NONE);
    }

    private static void dueFault(int text, String bytes, int place) {
        CamelStraws x = new CamelStraws();
        Check.say(x, text, bytes);
        Check.due("fault(" + text + ") of " + bytes, x.fault(text), place);
        int items = place == CamelStraws.NONE && !bytes.isEmpty() ? bytes.split(";").length : 0;
        Check.due("items of " + bytes, x.count(text), items);
        Check.due("bytes of " + bytes, x.count(2 + text), bytes.length());
    }

    private static void faultOfCamels() {
        CamelStraws x = new CamelStraws();
        Check.due("fault(-1)", x.fault(-1), CamelStraws.BAD);
        Check.due("fault(2)", x.fault(2), CamelStraws.BAD);
        dueFault(0, "", -1);
        dueFault(0, "y1", -1);
        dueFault(0, "o9", -1);
        dueFault(0, "s5;y1;o9", -1);
        dueFault(0, "y1;o2;s3;y4;o5;s6;y7;o8", -1);
        dueFault(0, "y", 1);
        dueFault(0, "y1;", 3);
        dueFault(0, "y1;o", 4);
        dueFault(0, ";", 0);
        dueFault(0, "Y1", 0);
        dueFault(0, "x1", 0);
        dueFault(0, "1y", 0);
        dueFault(0, "y0", 1);
        dueFault(0, "y:", 1);
        dueFault(0, "yy1", 1);
        dueFault(0, "y11", 2);
        dueFault(0, "y1:o2", 2);
        dueFault(0, "y1;;o2", 3);
        dueFault(0, "y1;o2;z", 6);
        dueFault(0, "y1;o2;s3;y4;o5;s6;y7;o0", 22);
        dueFault(0, "y1;o2;s3;y4;o5;s6;y7;o", 22);
    }

    private static void faultOfBales() {
        dueFault(1, "", -1);
        dueFault(1, "a1a", -1);
        dueFault(1, "h9x", -1);
        dueFault(1, "a1a;b2b;c3c;d4d;e5e;f6f;g7g;h8h;a9i;b1x", -1);
        dueFault(1, "a", 1);
        dueFault(1, "a1", 2);
        dueFault(1, "a1a;", 4);
        dueFault(1, "a1a;b", 5);
        dueFault(1, "i1a", 0);
        dueFault(1, "`1a", 0);
        dueFault(1, "a0a", 1);
        dueFault(1, "aaa", 1);
        dueFault(1, "a1y", 2);
        dueFault(1, "a1`", 2);
        dueFault(1, "a1A", 2);
        dueFault(1, "a1a,", 3);
        dueFault(1, "a1a1", 3);
        dueFault(1, "a1a;;", 4);
        dueFault(1, "a1a;b2b;c3c;d4d;e5e;f6f;g7g;h8h;a9i;b1y", 38);
    }

    private static void camel() {
        CamelStraws x = Check.told("y1;o9;s5", "");
        int[][] camels = {{0, 4}, {1, 36}, {2, 20}};
        for (int c = 0; c < 3; c++) {
            Check.due("camel(" + c + ", 0)", x.camel(c, 0), camels[c][0]);
            Check.due("camel(" + c + ", 1)", x.camel(c, 1), camels[c][1]);
        }
        for (int[] wrong : new int[][] {{-1, 0}, {3, 0}, {8, 0}, {LEAST, 0}, {MOST, 1}, {0, -1}, {0, 2}, {0, LEAST}, {0, MOST}}) {
            Check.due("camel(" + wrong[0] + ", " + wrong[1] + ")", x.camel(wrong[0], wrong[1]), CamelStraws.BAD);
        }
        x.type(0, ';');
        Check.due("camel(0, 0) with a fault", x.camel(0, 0), CamelStraws.BAD);
    }

    private static void bale() {
        CamelStraws x = Check.told("", "a1x;h9a");
        int[][] bales = {{0, 1, 23}, {7, 9, 0}};
        for (int b = 0; b < 2; b++) {
            for (int what = 0; what < 3; what++) {
                Check.due("bale(" + b + ", " + what + ")", x.bale(b, what), bales[b][what]);
            }
        }
        for (int[] wrong : new int[][] {{-1, 0}, {2, 0}, {10, 0}, {LEAST, 0}, {MOST, 1}, {0, -1}, {0, 3}, {0, LEAST}, {0, MOST}}) {
            Check.due("bale(" + wrong[0] + ", " + wrong[1] + ")", x.bale(wrong[0], wrong[1]), CamelStraws.BAD);
        }
        x.undo(1);
        Check.due("bale(0, 0) with a fault", x.bale(0, 0), CamelStraws.BAD);
    }

    private static void straw() {
        CamelStraws x = new CamelStraws();
        for (int[] wrong : new int[][] {{-1, 0}, {24, 0}, {0, -1}, {0, 8}, {LEAST, 0}, {MOST, 0}, {0, LEAST}, {0, MOST}}) {
            Check.due("straw(" + wrong[0] + ", " + wrong[1] + ")", x.straw(wrong[0], wrong[1]), CamelStraws.BAD);
        }
        Check.due("no straw came", x.count(4), 0);
        for (int i = 1; i <= 8; i++) {
            Check.due("straw(23, 7)", x.straw(23, 7), i);
        }
        Check.due("a ninth straw", x.straw(0, 0), CamelStraws.FULL);
        Check.due("BAD is ahead of FULL", x.straw(24, 0), CamelStraws.BAD);
        Check.due("count(4)", x.count(4), 8);
    }

    private static void back() {
        CamelStraws x = Check.told("y1", "", 0, 0, 3, 0);
        Check.due("load with both", x.at(3, 0, 0), 2);
        Check.due("back()", x.back(), 1);
        Check.due("load with the first", x.at(3, 0, 0), 1);
        Check.due("back()", x.back(), 0);
        Check.due("load with none", x.at(3, 0, 0), 0);
        Check.due("back() of none", x.back(), CamelStraws.NOT);
        Check.due("count(4)", x.count(4), 0);
    }

    private static void fill(CamelStraws x, int s, int form, int... items) {
        Check.due("sheet", x.sheet(s, form, items.length), items.length);
        for (int i = 0; i < items.length; i++) {
            Check.due("put", x.put(s, form, i, items[i]), 1);
        }
    }

    private static void read() {
        CamelStraws x = Check.told("y9;y9", "", 0, 1);
        Check.due("read(-1)", x.read(-1), CamelStraws.BAD);
        Check.due("read(4)", x.read(4), CamelStraws.BAD);
        Check.due("no finding yet", x.count(8), 0);
        Check.due("read(0) of a lost one", x.read(0), -11);
        Check.due("count(8)", x.count(8), 1);
        for (int form = 0; form < 3; form++) {
            fill(x, form, form, 4, 0, 6, 0, 9);
            Check.due("read(" + form + ")", x.read(form), 2);
        }
        Check.due("they come behind the first one", x.count(4), 7);
        Check.due("load of camel 1", x.at(0, 1, 0), 1);
        Check.due("load of camel 0 behind day 4", x.at(4, 0, 0), 3);
        Check.due("load of camel 0 behind day 6", x.at(6, 0, 0), 6);
        Check.due("room for one alone", x.read(0), 1);
        Check.due("no room", x.read(0), 0);
        Check.due("count(4)", x.count(4), 8);
    }

    private static void readStops() {
        CamelStraws x = new CamelStraws();
        fill(x, 0, 2);
        Check.due("read of no items", x.read(0), 0);
        fill(x, 0, 2, 5);
        Check.due("read of half a straw", x.read(0), 0);
        fill(x, 0, 2, 24, 0, 1, 1);
        Check.due("read at a wrong day", x.read(0), 0);
        fill(x, 0, 2, 23, 7, 0, 8, 1, 1);
        Check.due("read up to a wrong camel", x.read(0), 1);
        fill(x, 0, 0, 0, 0, -1, 0, 1, 1);
        Check.due("read up to a day below 0", x.read(0), 1);
        Check.due("count(4)", x.count(4), 2);
    }
}
