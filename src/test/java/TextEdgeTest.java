/**
 * The edges of promises 1 to 10, with what the document says of CAMELS, BALES, FAULT and STRAWS: one test for each
 * sentence that names one. The sentence stands above its test.
 */
public final class TextEdgeTest {
    private static final int NONE = CamelStraws.NONE, BAD = CamelStraws.BAD, NOT = CamelStraws.NOT, FULL = CamelStraws.FULL;
    private static final int NULL = -11;
    private static final String EIGHT_CAMELS = "y1;o2;s3;y4;o5;s6;y7;o9";
    private static final String TEN_BALES = "a1a;b2b;c3c;d4d;e5e;f6f;g7g;h8h;a9i;h9x";
    private static final String FIGURES = "123456789", A_TO_H = "abcdefgh", A_TO_X = "abcdefghijklmnopqrstuvwx";

    public static void main(String[] args) {
        newObject();
        camelsUpTo23Bytes();
        balesUpTo39Bytes();
        eightCamelsAtMost();
        tenBalesAtMost();
        bytesOfCamels();
        bytesOfBales();
        faultIsTheFirst();
        emptyIsWell();
        notEndedIsItsEnd();
        withFaultCamelsAreAsIfEmpty();
        withFaultBalesAreAsIfEmpty();
        strengthIsFourTimes();
        typeAByte();
        wipe();
        undo();
        faultBad();
        camel();
        bale();
        straws();
        strawsFull();
        back();
        readBadAndNull();
        readWhole();
        readAsLongAsEachMayBe();
        readUpToEight();
        Check.end();
    }

    private static void due(String call, long got, long want) {
        Check.due(call, got, want);
    }

    /** "No CAMELS, no BALES, no STRAWS; all SHEETS are LOST." */
    private static void newObject() {
        CamelStraws x = new CamelStraws();
        for (int what = 0; what <= 7; what++) {
            due("new: count(" + what + ")", x.count(what), 0);
        }
        due("new: camel(0, 0)", x.camel(0, 0), BAD);
        due("new: bale(0, 0)", x.bale(0, 0), BAD);
        due("new: undo(0)", x.undo(0), NOT);
        due("new: undo(1)", x.undo(1), NOT);
        due("new: back()", x.back(), NOT);
        due("new: forget()", x.forget(), 0);
        due("new: no finding", x.count(8), 0);
        for (int s = 0; s < 4; s++) {
            due("new: lose(" + s + ")", x.lose(s), NULL);
        }
    }

    /** "CAMELS are a text of up to 23 bytes (text 0)" */
    private static void camelsUpTo23Bytes() {
        CamelStraws x = Check.told(EIGHT_CAMELS, "");
        due("23 bytes", x.count(2), 23);
        due("a 24th", x.type(0, ';'), FULL);
        due("23 bytes yet", x.count(2), 23);
        due("they are well yet", x.fault(0), NONE);
        due("eight camels yet", x.count(0), 8);
        due("the other text has room", x.type(1, 'a'), 1);
    }

    /** "BALES are a text of up to 39 bytes (text 1)" */
    private static void balesUpTo39Bytes() {
        CamelStraws x = Check.told("", TEN_BALES);
        due("39 bytes", x.count(3), 39);
        due("a 40th", x.type(1, ';'), FULL);
        due("39 bytes yet", x.count(3), 39);
        due("they are well yet", x.fault(1), NONE);
        due("ten bales yet", x.count(1), 10);
        due("the other text has room", x.type(0, 'y'), 1);
    }

    /** "8 at most (0 on)": the last of eight is 7; within 23 bytes a ninth cannot begin. */
    private static void eightCamelsAtMost() {
        CamelStraws x = Check.told(EIGHT_CAMELS, "");
        due("camel(0, 1)", x.camel(0, 1), 4);
        due("camel(7, 0)", x.camel(7, 0), 1);
        due("camel(7, 1)", x.camel(7, 1), 36);
        due("camel(8, 1)", x.camel(8, 1), BAD);
        due("what would begin a ninth", x.type(0, 'y'), FULL);
        due("fault(0)", x.fault(0), NONE);
    }

    /** "10 at most (0 on)": the last of ten is 9; within 39 bytes an eleventh cannot begin. */
    private static void tenBalesAtMost() {
        CamelStraws x = Check.told("", TEN_BALES);
        due("bale(0, 1)", x.bale(0, 1), 1);
        due("bale(9, 0)", x.bale(9, 0), 7);
        due("bale(9, 1)", x.bale(9, 1), 9);
        due("bale(9, 2)", x.bale(9, 2), 23);
        due("bale(10, 0)", x.bale(10, 0), BAD);
        due("what would begin an eleventh", x.type(1, 'a'), FULL);
        due("fault(1)", x.fault(1), NONE);
    }

    /** Behind a text that may go on: each of the 256 bytes, of which the good ones alone are no fault. */
    private static void dueFaultsBehind(int text, String ahead, String good, boolean ends) {
        CamelStraws x = new CamelStraws();
        Check.say(x, text, ahead);
        int place = ahead.length();
        for (int b = 0; b < 256; b++) {
            x.type(text, b);
            int want = good.indexOf(b) < 0 ? place : ends ? NONE : place + 1;
            due("fault(" + text + ") of " + ahead + " and byte " + b, x.fault(text), want);
            int items = want == NONE ? ahead.split(";").length : 0;
            due("items of " + ahead + " and byte " + b, x.count(text), items);
            x.undo(text);
            if (b == 127) { // an object is used for 512 calls at most
                x = new CamelStraws();
                Check.say(x, text, ahead);
            }
        }
    }

    /** "with ; between them: y (young), o (old) or s (one that sighs), and a figure 1 to 9" */
    private static void bytesOfCamels() {
        for (String ahead : new String[] {"", "o9;", "y1;o2;s3;y4;o5;s6;y7;"}) {
            dueFaultsBehind(0, ahead, "yos", false);
            for (String sort : new String[] {"y", "o", "s"}) {
                dueFaultsBehind(0, ahead + sort, FIGURES, true);
            }
        }
        dueFaultsBehind(0, "y1", ";", false);
        dueFaultsBehind(0, "y1;s9", ";", false);
    }

    /** "with ; between them: a letter a to h .., a figure 1 to 9 .., and a letter a to x" */
    private static void bytesOfBales() {
        for (String ahead : new String[] {"", "h9x;", "a1a;b2b;c3c;d4d;e5e;f6f;g7g;h8h;a9i;"}) {
            dueFaultsBehind(1, ahead, A_TO_H, false);
            dueFaultsBehind(1, ahead + "h", FIGURES, false);
            dueFaultsBehind(1, ahead + "a1", A_TO_X, true);
        }
        dueFaultsBehind(1, "a1a", ";", false);
        dueFaultsBehind(1, "a1a;h9x", ";", false);
    }

    private static void dueFault(int text, String bytes, int place) {
        CamelStraws x = new CamelStraws();
        Check.say(x, text, bytes);
        due("fault(" + text + ") of " + bytes, x.fault(text), place);
    }

    /** "the place of the first byte with which it cannot go on" */
    private static void faultIsTheFirst() {
        dueFault(0, "xxx", 0);
        dueFault(0, "y0;o0", 1);
        dueFault(0, "y1,o0", 2);
        dueFault(0, ";y1", 0);
        dueFault(0, "y1;;o1;;", 3);
        dueFault(0, "y1o2", 2);
        dueFault(0, "y;y1", 1);
        dueFault(1, "i0y", 0);
        dueFault(1, "a0y", 1);
        dueFault(1, "a1y;", 2);
        dueFault(1, "a1a,i0y", 3);
        dueFault(1, "a1a;i", 4);
        dueFault(1, ";a1a", 0);
        dueFault(1, "a1;a1a", 2);
        CamelStraws x = Check.told("y0;o2;s3", "");
        due("a fault stays where it is", x.type(0, ';'), 9);
        due("fault(0)", x.fault(0), 1);
        CamelStraws full = Check.told("xxxxxxxxxxxxxxxxxxxxxxx", "");
        due("fault(0) of a full one", full.fault(0), 0);
    }

    /** "an empty one is well" */
    private static void emptyIsWell() {
        CamelStraws x = new CamelStraws();
        for (int text = 0; text < 2; text++) {
            due("fault(" + text + ")", x.fault(text), NONE);
            x.type(text, 0);
            due("fault(" + text + ") of byte 0", x.fault(text), 0);
            x.undo(text);
            due("fault(" + text + ") of an empty one again", x.fault(text), NONE);
            x.type(text, 255);
            x.wipe(text);
            due("fault(" + text + ") of a wiped one", x.fault(text), NONE);
        }
    }

    /** "of one that is not ended, its end": each beginning of a text that is well. */
    private static void notEndedIsItsEnd() {
        for (int n = 1; n <= 23; n++) {
            dueFault(0, EIGHT_CAMELS.substring(0, n), n % 3 == 2 ? NONE : n);
        }
        for (int n = 1; n <= 39; n++) {
            dueFault(1, TEN_BALES.substring(0, n), n % 4 == 3 ? NONE : n);
        }
    }

    /** "With a FAULT a text is as if it was empty.": no camel is there, whatever was. */
    private static void withFaultCamelsAreAsIfEmpty() {
        CamelStraws x = Check.told("s1;y9;", "a5a;b3g;b2h", 6, 1, 9, 1);
        x.seen(6, 1, 4);
        due("count(0)", x.count(0), 0);
        due("the bytes are there", x.count(2), 6);
        due("camel(0, 0)", x.camel(0, 0), BAD);
        due("at(0, 0, 0)", x.at(0, 0, 0), BAD);
        due("last(0, 0)", x.last(0, 0), BAD);
        due("was(0, 0)", x.was(0, 0), BAD);
        due("ask(0)", x.ask(0), BAD);
        due("chance(8, 0, 0)", x.chance(8, 0, 0), Long.MIN_VALUE + 2);
        due("through()", x.through(), 0);
        due("lost()", x.lost(), 0);
        due("first(0)", x.first(0), NONE);
        due("best()", x.best(), NONE);
        due("whole()", x.whole(), 0);
        due("tired()", x.tired(), 0);
        due("spare(NONE)", x.spare(NONE), 0);
        due("never(): what was seen of one that is not there", x.never(), 0);
        due("years(7, 6, 0)", x.years(7, 6, 0), 0);
        due("years(7, 6, 1)", x.years(7, 6, 1), 0);
        due("count(5)", x.count(5), 0);
        due("count(6)", x.count(6), 0);
        due("bear(0, 1)", x.bear(0, 1), 0);
        due("when(0, 1)", x.when(0, 1), 0);
        due("write(0, 0)", x.write(0, 0), BAD);
        due("straws stay", x.count(4), 2);
        due("bales stay", x.count(1), 3);
        x.undo(0);
        due("without the fault they are there", x.count(0), 2);
        due("and bear", x.through(), 7);
        due("and break", x.lost(), 5);
    }

    /** "With a FAULT a text is as if it was empty.": no bale is there. */
    private static void withFaultBalesAreAsIfEmpty() {
        CamelStraws x = Check.told("s1;y9", "a5a;b3g;", 6, 1);
        due("count(1)", x.count(1), 0);
        due("the bytes are there", x.count(3), 8);
        due("bale(0, 0)", x.bale(0, 0), BAD);
        due("bear(0, 0)", x.bear(0, 0), BAD);
        due("when(0, 0)", x.when(0, 0), BAD);
        due("nothing but the straw comes through", x.through(), 1);
        due("nothing breaks", x.lost(), 0);
        due("camels stay", x.count(0), 2);
        x.undo(1);
        due("without the fault they are there", x.count(1), 2);
        due("and come through", x.through(), 4);
        due("and break one", x.lost(), 5);
    }

    /** "its STRENGTH is four times as much at first" */
    private static void strengthIsFourTimes() {
        for (int figure = 1; figure <= 9; figure++) {
            for (int sort = 0; sort < 3; sort++) {
                CamelStraws x = Check.told("yos".charAt(sort) + "" + figure, "");
                due("camel(0, 0)", x.camel(0, 0), sort);
                due("camel(0, 1)", x.camel(0, 1), 4 * figure);
                due("at(0, 0, 1)", x.at(0, 0, 1), 4 * figure);
            }
        }
    }

    /** "A byte (0 to 255) comes behind a text: how many. BAD; FULL." */
    private static void typeAByte() {
        CamelStraws x = new CamelStraws();
        for (int text = 0; text < 2; text++) {
            due("type(text, 0)", x.type(text, 0), 1);
            due("type(text, 255)", x.type(text, 255), 2);
            due("type(text, -1)", x.type(text, -1), BAD);
            due("type(text, 256)", x.type(text, 256), BAD);
            due("type(text, 256 + ';')", x.type(text, 256 + ';'), BAD);
            due("how many", x.count(2 + text), 2);
        }
        due("type(-1, 0)", x.type(-1, 0), BAD);
        due("type(2, 0)", x.type(2, 0), BAD);
        CamelStraws full = Check.told(EIGHT_CAMELS, TEN_BALES);
        due("BAD is ahead of FULL: the byte", full.type(0, 256), BAD);
        due("BAD is ahead of FULL: the byte", full.type(1, -1), BAD);
        due("no such text", full.type(2, 97), BAD);
        due("FULL", full.type(0, 97), FULL);
        due("FULL", full.type(1, 97), FULL);
        due("one less", full.undo(0), 22);
        due("room again", full.type(0, '3'), 23);
        due("the byte is the new one", full.camel(7, 1), 12);
    }

    /** "A text is empty: how many bytes it had. BAD." */
    private static void wipe() {
        CamelStraws x = Check.told(EIGHT_CAMELS, TEN_BALES);
        due("wipe(-1)", x.wipe(-1), BAD);
        due("wipe(2)", x.wipe(2), BAD);
        due("camels stay", x.count(0), 8);
        due("wipe(0) of a full one", x.wipe(0), 23);
        due("it is empty", x.count(2), 0);
        due("wipe(0) of an empty one", x.wipe(0), 0);
        due("the other stays", x.count(1), 10);
        due("wipe(1) of a full one", x.wipe(1), 39);
        due("wipe(1) of an empty one", x.wipe(1), 0);
        Check.say(x, 0, "s2");
        due("nothing old is in it", x.count(0), 1);
        due("camel(0, 0)", x.camel(0, 0), 2);
        x.type(0, '!');
        due("wipe(0) with a fault", x.wipe(0), 3);
    }

    /** "The last byte of a text is undone: how many are left. BAD; NOT: it is empty." */
    private static void undo() {
        CamelStraws x = Check.told(EIGHT_CAMELS, "a");
        due("undo(-1)", x.undo(-1), BAD);
        due("undo(2)", x.undo(2), BAD);
        for (int left = 22; left >= 0; left--) {
            due("undo(0)", x.undo(0), left);
            due("fault(0)", x.fault(0), left % 3 == 2 || left == 0 ? NONE : left);
        }
        due("undo(0) of an empty one", x.undo(0), NOT);
        due("count(2)", x.count(2), 0);
        due("the other stays", x.undo(1), 0);
        due("undo(1) of an empty one", x.undo(1), NOT);
        due("BAD is told of no such text, even now", x.undo(2), BAD);
    }

    /** "The FAULT of a text; NONE. BAD." */
    private static void faultBad() {
        CamelStraws x = Check.told("y1", "a1a");
        for (int wrong : new int[] {-1, 2, Integer.MIN_VALUE, Integer.MAX_VALUE}) {
            due("fault(" + wrong + ")", x.fault(wrong), BAD);
        }
        due("fault(0)", x.fault(0), NONE);
        due("fault(1)", x.fault(1), NONE);
    }

    /** "Its sort (what = 0: 0 y, 1 o, 2 s), its STRENGTH at first (1) of a CAMEL. BAD." */
    private static void camel() {
        CamelStraws x = Check.told("s9", "a9a", 0, 0);
        due("camel(0, 1) is that at first", x.camel(0, 1), 36);
        due("camel(0, -1)", x.camel(0, -1), BAD);
        due("camel(0, 2)", x.camel(0, 2), BAD);
        due("camel(-1, 0)", x.camel(-1, 0), BAD);
        due("camel(1, 0): bales and straws make none", x.camel(1, 0), BAD);
        x.wipe(0);
        due("camel(0, 0) of none", x.camel(0, 0), BAD);
    }

    /** "The CAMEL (what = 0), the WEIGHT (1), the DAY (2) of a BALE. BAD." */
    private static void bale() {
        for (int c = 0; c < 8; c++) {
            for (int day = 0; day < 24; day++) {
                int weight = 1 + (c + day) % 9;
                CamelStraws x = Check.told("", "" + A_TO_H.charAt(c) + weight + A_TO_X.charAt(day));
                due("bale(0, 0)", x.bale(0, 0), c);
                due("bale(0, 1)", x.bale(0, 1), weight);
                due("bale(0, 2)", x.bale(0, 2), day);
                due("bale(0, -1)", x.bale(0, -1), BAD);
                due("bale(0, 3)", x.bale(0, 3), BAD);
                due("bale(1, 0)", x.bale(1, 0), BAD);
                due("bale(-1, 0)", x.bale(-1, 0), BAD);
            }
        }
    }

    /** "STRAWS ..: on a DAY on a CAMEL (0 to 7)", "DAYS are 0 to 23", whether there is such a camel or not. */
    private static void straws() {
        CamelStraws x = new CamelStraws();
        due("straw(0, 0)", x.straw(0, 0), 1);
        due("straw(23, 7)", x.straw(23, 7), 2);
        due("straw(0, 7)", x.straw(0, 7), 3);
        due("straw(23, 0)", x.straw(23, 0), 4);
        due("straw(-1, 0)", x.straw(-1, 0), BAD);
        due("straw(24, 0)", x.straw(24, 0), BAD);
        due("straw(0, -1)", x.straw(0, -1), BAD);
        due("straw(0, 8)", x.straw(0, 8), BAD);
        due("count(4)", x.count(4), 4);
        Check.say(x, 0, EIGHT_CAMELS);
        due("at(0, 0, 0)", x.at(0, 0, 0), 1);
        due("at(0, 7, 0)", x.at(0, 7, 0), 1);
        due("through()", x.through(), 4);
    }

    /** "STRAWS, 8 at most (0 on)": "A STRAW more: how many. BAD; FULL." */
    private static void strawsFull() {
        CamelStraws x = Check.told("y9", "", 0, 0, 1, 0, 2, 0, 3, 0, 4, 0, 5, 0, 6, 0, 7, 0);
        due("a ninth", x.straw(0, 0), FULL);
        due("BAD is ahead of FULL: the day", x.straw(24, 0), BAD);
        due("BAD is ahead of FULL: the camel", x.straw(0, 8), BAD);
        due("eight yet", x.count(4), 8);
        due("and what they were", x.at(6, 0, 0), 7);
        due("through()", x.through(), 8);
        due("back()", x.back(), 7);
        due("room again", x.straw(23, 0), 8);
        due("at(7, 0, 4)", x.at(7, 0, 4), 7);
        due("at(23, 0, 4)", x.at(23, 0, 4), 8);
    }

    /** "The last STRAW is undone: how many are left. NOT: there is none." */
    private static void back() {
        CamelStraws x = Check.told("y9", "", 5, 0, 4, 0, 3, 0, 2, 0, 1, 0, 0, 0, 6, 0, 6, 0);
        int[] loadBehindDay3 = {4, 4, 3, 2, 1, 0, 0, 0};
        for (int left = 7; left >= 0; left--) {
            due("back()", x.back(), left);
            due("at(3, 0, 0)", x.at(3, 0, 0), loadBehindDay3[7 - left]);
        }
        due("back() of none", x.back(), NOT);
        due("count(4)", x.count(4), 0);
        due("straw(0, 0)", x.straw(0, 0), 1);
    }

    private static void fill(CamelStraws x, int s, int form, int... items) {
        due("sheet(" + s + ", " + form + ", " + items.length + ")", x.sheet(s, form, items.length), items.length);
        for (int i = 0; i < items.length; i++) {
            due("put(" + s + ", " + form + ", " + i + ")", x.put(s, form, i, items[i]), 1);
        }
    }

    /** "read ..: BAD; NULL." */
    private static void readBadAndNull() {
        CamelStraws x = Check.told("y9", "", 3, 0);
        for (int wrong : new int[] {-1, 4, Integer.MIN_VALUE, Integer.MAX_VALUE}) {
            due("read(" + wrong + ")", x.read(wrong), BAD);
        }
        due("BAD is no finding", x.count(8), 0);
        for (int s = 0; s < 4; s++) {
            due("read(" + s + ") of a lost one", x.read(s), NULL);
        }
        due("count(8)", x.count(8), 1);
        due("count(4)", x.count(4), 1);
        due("a full row of straws makes no difference", x.straw(1, 0), 2);
    }

    /** "its items, two for each, as many as are whole" */
    private static void readWhole() {
        for (int form = 0; form < 3; form++) {
            int[] row = {0, 0, 1, 0, 2, 0, 23, 7, 3};
            for (int n = 0; n <= row.length; n++) {
                CamelStraws x = Check.told("y9", "");
                fill(x, 3, form, java.util.Arrays.copyOf(row, n));
                due("read(3) of " + n + " items", x.read(3), n / 2);
                due("count(4)", x.count(4), n / 2);
                due("at(2, 0, 0)", x.at(2, 0, 0), Math.min(3, n / 2));
                due("the sheet stays", x.lose(3), n);
            }
        }
    }

    /** "as long as each may be": up to the first that straw() would refuse, those ahead of it stay. */
    private static void readAsLongAsEachMayBe() {
        int[][] wrong = {{-1, 0}, {24, 0}, {0, -1}, {0, 8}, {256, 0}, {0, 256}, {65536, 65536}, {Integer.MIN_VALUE, 0}, {0, Integer.MAX_VALUE}};
        for (int[] w : wrong) {
            for (int ahead = 0; ahead < 3; ahead++) {
                CamelStraws x = Check.told("y9", "");
                int[] row = new int[2 * ahead + 4];
                row[2 * ahead] = w[0];
                row[2 * ahead + 1] = w[1];
                fill(x, 0, 2, row);
                due("read(0) up to " + w[0] + ", " + w[1], x.read(0), ahead);
                due("count(4)", x.count(4), ahead);
                due("at(0, 0, 0)", x.at(0, 0, 0), ahead);
            }
        }
    }

    /** "STRAWS, 8 at most": a sheet may hold more of them than there is room for. */
    private static void readUpToEight() {
        CamelStraws x = Check.told("y9", "");
        due("sheet(0, 0, 60)", x.sheet(0, 0, 60), 60);
        due("read(0): of thirty", x.read(0), 8);
        due("count(4)", x.count(4), 8);
        due("read(0): no room", x.read(0), 0);
        due("back()", x.back(), 7);
        due("read(0): room for one", x.read(0), 1);
        due("at(0, 0, 0)", x.at(0, 0, 0), 8);
        due("no finding", x.count(8), 0);
    }
}
