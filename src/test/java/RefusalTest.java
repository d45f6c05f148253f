import java.util.Arrays;
import java.util.function.Supplier;
import java.util.function.ToLongFunction;

/**
 * "Refusals, the first that fits, in the order told at each act: BAD -2 .., NULL, NOT -3 .., FULL -4, other FINDINGS.
 * They change nothing (FINDINGS but count() 8). Where the answer is a long, a refusal -x is the least long and x
 * more.": every refusal of every act, in a state where nothing is left to be told and in one where nothing is told.
 */
public final class RefusalTest {
    private static final int BAD = CamelStraws.BAD, NOT = CamelStraws.NOT, FULL = CamelStraws.FULL;
    private static final int NULL = -11, INDEX = -12, CAST = -13, STORE = -14, SIZE = -15;
    private static final int LEAST = Integer.MIN_VALUE, MOST = Integer.MAX_VALUE;
    private static final int[] NO_TEXT = {-1, 2, LEAST, MOST};
    private static final int[] NO_DAY = {-1, 24, LEAST, MOST};
    private static final int[] NO_PLACE = {-1, 8, LEAST, MOST};
    private static final int[] NO_SHEET = {-1, 4, LEAST, MOST};
    private static final int[] NO_FORM = {-1, 3, LEAST, MOST};
    private static final int[] NOT_0_OR_1 = {-1, 2, LEAST, MOST};

    private Supplier<CamelStraws> state;
    private String snapshot;
    private String name;

    public static void main(String[] args) {
        RefusalTest full = new RefusalTest("full", RefusalTest::full);
        full.inEveryState(8, 10);
        full.whereAllIsFull();
        RefusalTest empty = new RefusalTest("empty", CamelStraws::new);
        empty.inEveryState(0, 0);
        empty.whereAllIsEmpty();
        RefusalTest faulty = new RefusalTest("with faults", RefusalTest::faulty);
        faulty.inEveryState(0, 0);
        RefusalTest some = new RefusalTest("of three camels", RefusalTest::some);
        some.inEveryState(3, 2);
        Check.end();
    }

    private RefusalTest(String name, Supplier<CamelStraws> state) {
        this.name = name;
        this.state = state;
        this.snapshot = snapshot(state.get());
    }

    private static CamelStraws full() {
        CamelStraws x = Check.told("y1;o2;s3;y4;o5;s6;y7;o8", "a3g;b9a;c3c;d4d;e5e;f6f;g7g;h8h;a9i;h9x",
                6, 0, 6, 0, 1, 1, 2, 2, 3, 3, 4, 4, 5, 5, 6, 6);
        for (int i = 0; i < 8; i++) {
            x.seen(i, i, i);
        }
        rows(x);
        return x;
    }

    private static CamelStraws faulty() {
        CamelStraws x = Check.told("y1;o2;", "a3g;b9y", 6, 0, 6, 0);
        x.seen(6, 0, 4);
        rows(x);
        return x;
    }

    private static CamelStraws some() {
        CamelStraws x = Check.told("y1;o2;s3", "a3g;c9a", 6, 0, 6, 0, 1, 7);
        x.seen(6, 2, 9);
        rows(x);
        return x;
    }

    /** Sheets 0, 1, 2 of forms 0, 1, 2; sheet 3 is lost; the latest finding is STORE. */
    private static void rows(CamelStraws x) {
        for (int form = 0; form < 3; form++) {
            x.sheet(form, form, 3);
            for (int i = 0; i < 3; i++) {
                x.put(form, form, i, 7 * form + i + 1);
            }
        }
        x.copy(0, 0, 1, 0, 1);
    }

    /** All that can be told of an object but count() 8; at the end it is another. */
    private static String snapshot(CamelStraws x) {
        StringBuilder all = new StringBuilder();
        for (int what = 0; what < 8; what++) {
            all.append(x.count(what)).append(' ');
        }
        all.append(x.fault(0)).append(' ').append(x.fault(1)).append(' ').append(x.digest());
        for (int camel = 0; camel < x.count(0); camel++) {
            all.append(" camel ").append(x.camel(camel, 0)).append(' ').append(x.camel(camel, 1));
            for (int day = 0; day < 24; day += 4) {
                all.append(' ').append(x.at(day, camel, 0)).append(' ').append(x.at(day, camel, 1));
            }
        }
        for (int s = 0; s < 4; s++) {
            for (int i = 0; i < 3; i++) {
                all.append(" item ").append(x.get(s, s % 3, i));
            }
            all.append(" of ").append(x.lose(s));
        }
        for (int left = x.back(); left >= 0; left = x.back()) {
            all.append(" digest ").append(x.digest());
        }
        all.append(" seen ").append(x.forget());
        for (int text = 0; text < 2; text++) {
            for (int left = x.undo(text); left >= 0; left = x.undo(text)) {
                all.append(" fault ").append(x.fault(text));
            }
        }
        return all.toString();
    }

    /** The call answers so, count() 8 is as due, and nothing else is another than before. */
    private void refused(String call, ToLongFunction<CamelStraws> act, long want, int finding) {
        CamelStraws x = state.get();
        int before = x.count(8);
        Check.due(name + ": " + call, act.applyAsLong(x), want);
        Check.due(name + ": count(8) behind " + call, x.count(8), finding == 0 ? before : finding);
        String after = snapshot(x);
        Check.holds(name + ": " + call + " changes nothing: " + snapshot + " / " + after, after.equals(snapshot));
    }

    private void bad(String call, ToLongFunction<CamelStraws> act) {
        refused(call, act, BAD, 0);
    }

    private void found(String call, ToLongFunction<CamelStraws> act, int finding) {
        refused(call, act, finding, -10 - finding);
    }

    /** What is BAD in any state, beside camels and bales that are not there. */
    private void inEveryState(int camels, int bales) {
        texts();
        straws();
        int[] noCamel = {-1, camels, LEAST, MOST};
        int[] noBale = {-1, bales, LEAST, MOST};
        for (int w : noCamel) {
            ofNoCamel(w);
        }
        for (int w : noBale) {
            for (int what : new int[] {0, 1, 2, 3}) {
                bad("bale(" + w + ", " + what + ")", x -> x.bale(w, what));
            }
            for (int what : new int[] {0, 1, 2}) {
                bad("bear(" + w + ", " + what + ")", x -> x.bear(w, what));
                bad("when(" + w + ", " + what + ")", x -> x.when(w, what));
            }
        }
        if (camels > 0) {
            wrongOfACamel(camels - 1);
        }
        if (bales > 0) {
            wrongOfABale(bales - 1);
        }
        others();
        sheets();
    }

    private void texts() {
        for (int w : NO_TEXT) {
            for (int b : new int[] {-1, 0, 97, 256}) {
                bad("type(" + w + ", " + b + ")", x -> x.type(w, b));
            }
            bad("wipe(" + w + ")", x -> x.wipe(w));
            bad("undo(" + w + ")", x -> x.undo(w));
            bad("fault(" + w + ")", x -> x.fault(w));
        }
        for (int b : new int[] {-1, 256, LEAST, MOST}) {
            bad("type(0, " + b + ")", x -> x.type(0, b));
            bad("type(1, " + b + ")", x -> x.type(1, b));
        }
    }

    private void straws() {
        for (int w : NO_DAY) {
            for (int camel : new int[] {-1, 0, 8}) {
                bad("straw(" + w + ", " + camel + ")", x -> x.straw(w, camel));
                bad("seen(" + w + ", " + camel + ", 0)", x -> x.seen(w, camel, 0));
            }
        }
        for (int w : NO_PLACE) {
            bad("straw(0, " + w + ")", x -> x.straw(0, w));
            bad("seen(0, " + w + ", 0)", x -> x.seen(0, w, 0));
        }
        for (int w : new int[] {-1, 100, LEAST, MOST}) {
            bad("seen(0, 0, " + w + ")", x -> x.seen(0, 0, w));
        }
    }

    private void ofNoCamel(int w) {
        for (int what = -1; what <= 6; what++) {
            int asked = what;
            bad("at(0, " + w + ", " + what + ")", x -> x.at(0, w, asked));
        }
        for (int what = -1; what <= 2; what++) {
            int asked = what;
            bad("camel(" + w + ", " + what + ")", x -> x.camel(w, asked));
            bad("was(" + w + ", " + what + ")", x -> x.was(w, asked));
            refused("chance(8, " + w + ", " + what + ")", x -> x.chance(8, w, asked), Long.MIN_VALUE + 2, 0);
        }
        bad("last(" + w + ", 0)", x -> x.last(w, 0));
        bad("ask(" + w + ")", x -> x.ask(w));
        for (int s = 0; s < 4; s++) {
            int to = s;
            bad("write(" + w + ", " + s + ")", x -> x.write(w, to));
        }
    }

    private void wrongOfACamel(int c) {
        for (int w : NO_DAY) {
            bad("at(" + w + ", " + c + ", 0)", x -> x.at(w, c, 0));
            bad("last(" + c + ", " + w + ")", x -> x.last(c, w));
        }
        for (int w : new int[] {-1, 6, 7, 8, LEAST, MOST}) {
            bad("at(0, " + c + ", " + w + ")", x -> x.at(0, c, w));
        }
        for (int w : NOT_0_OR_1) {
            bad("camel(" + c + ", " + w + ")", x -> x.camel(c, w));
            bad("was(" + c + ", " + w + ")", x -> x.was(c, w));
            refused("chance(8, " + c + ", " + w + ")", x -> x.chance(8, c, w), Long.MIN_VALUE + 2, 0);
        }
        for (int w : new int[] {-1, 17, LEAST, MOST}) {
            refused("chance(" + w + ", " + c + ", 0)", x -> x.chance(w, c, 0), Long.MIN_VALUE + 2, 0);
            refused("chance(" + w + ", " + c + ", 1)", x -> x.chance(w, c, 1), Long.MIN_VALUE + 2, 0);
        }
        for (int w : NO_SHEET) {
            bad("write(" + c + ", " + w + ")", x -> x.write(c, w));
        }
        found("write(" + c + ", 3)", x -> x.write(c, 3), NULL);
    }

    private void wrongOfABale(int b) {
        for (int w : NOT_0_OR_1) {
            bad("bear(" + b + ", " + w + ")", x -> x.bear(b, w));
            bad("when(" + b + ", " + w + ")", x -> x.when(b, w));
        }
        for (int w : new int[] {-1, 3, LEAST, MOST}) {
            bad("bale(" + b + ", " + w + ")", x -> x.bale(b, w));
        }
    }

    private void others() {
        for (int w : NOT_0_OR_1) {
            bad("first(" + w + ")", x -> x.first(w));
            bad("years(0, 0, " + w + ")", x -> x.years(0, 0, w));
        }
        for (int w : new int[] {-2, 2, LEAST, MOST}) {
            bad("spare(" + w + ")", x -> x.spare(w));
        }
        for (int w : new int[] {-1, 9, LEAST, MOST}) {
            bad("years(0, " + w + ", 0)", x -> x.years(0, w, 0));
            bad("count(" + w + ")", x -> x.count(w));
        }
    }

    private void sheets() {
        for (int w : NO_SHEET) {
            bad("read(" + w + ")", x -> x.read(w));
            bad("lose(" + w + ")", x -> x.lose(w));
            bad("sheet(" + w + ", 0, 1)", x -> x.sheet(w, 0, 1));
            bad("sheet(" + w + ", 0, -1)", x -> x.sheet(w, 0, -1));
            bad("put(" + w + ", 0, 0, 0)", x -> x.put(w, 0, 0, 0));
            refused("get(" + w + ", 0, 0)", x -> x.get(w, 0, 0), LEAST, 0);
            bad("copy(" + w + ", 0, 0, 0, 1)", x -> x.copy(w, 0, 0, 0, 1));
            bad("copy(0, 0, " + w + ", 0, 1)", x -> x.copy(0, 0, w, 0, 1));
            bad("copy(3, 0, " + w + ", 0, 1)", x -> x.copy(3, 0, w, 0, 1));
        }
        for (int w : NO_FORM) {
            for (int s = 0; s < 4; s++) {
                int of = s;
                bad("sheet(" + s + ", " + w + ", 1)", x -> x.sheet(of, w, 1));
                bad("sheet(" + s + ", " + w + ", -1)", x -> x.sheet(of, w, -1));
                bad("put(" + s + ", " + w + ", 0, 9)", x -> x.put(of, w, 0, 9));
                refused("get(" + s + ", " + w + ", 0)", x -> x.get(of, w, 0), LEAST, 0);
            }
        }
        for (int n : new int[] {61, MOST}) {
            bad("sheet(0, 0, " + n + ")", x -> x.sheet(0, 0, n));
            bad("sheet(3, 2, " + n + ")", x -> x.sheet(3, 2, n));
        }
        for (int n : new int[] {-1, LEAST}) {
            found("sheet(0, 0, " + n + ")", x -> x.sheet(0, 0, n), SIZE);
            found("sheet(3, 2, " + n + ")", x -> x.sheet(3, 2, n), SIZE);
        }
        ofALostSheet();
    }

    /** Sheet 3 is lost in every state. */
    private void ofALostSheet() {
        found("read(3)", x -> x.read(3), NULL);
        found("lose(3)", x -> x.lose(3), NULL);
        found("copy(3, 0, 3, 0, 0)", x -> x.copy(3, 0, 3, 0, 0), NULL);
        found("copy(0, -1, 3, 0, 1)", x -> x.copy(0, -1, 3, 0, 1), NULL);
        found("copy(3, -1, 0, 0, 1)", x -> x.copy(3, -1, 0, 0, 1), NULL);
        for (int form = 0; form < 3; form++) {
            int as = form;
            for (int i : new int[] {-1, 0, 60}) {
                found("put(3, " + form + ", " + i + ", 9)", x -> x.put(3, as, i, 9), NULL);
                refused("get(3, " + form + ", " + i + ")", x -> x.get(3, as, i), LEAST, 1);
            }
        }
    }

    private void whereAllIsFull() {
        refused("type(0, 59)", x -> x.type(0, 59), FULL, 0);
        refused("type(1, 59)", x -> x.type(1, 59), FULL, 0);
        refused("straw(0, 0)", x -> x.straw(0, 0), FULL, 0);
        refused("seen(0, 0, 0)", x -> x.seen(0, 0, 0), FULL, 0);
        for (int s = 0; s < 3; s++) {
            int of = s;
            for (int form = 0; form < 3; form++) {
                int as = form;
                for (int i : new int[] {-1, 3, LEAST, MOST}) {
                    int want = s == form ? INDEX : CAST;
                    found("put(" + s + ", " + form + ", " + i + ", 9)", x -> x.put(of, as, i, 9), want);
                    refused("get(" + s + ", " + form + ", " + i + ")", x -> x.get(of, as, i), LEAST, -10 - want);
                }
                if (s != form) {
                    found("put(" + s + ", " + form + ", 0, 9)", x -> x.put(of, as, 0, 9), CAST);
                    found("copy(" + s + ", 0, " + form + ", 0, 0)", x -> x.copy(of, 0, as, 0, 0), STORE);
                    found("copy(" + s + ", -1, " + form + ", 9, 1)", x -> x.copy(of, -1, as, 9, 1), STORE);
                }
            }
            for (int[] w : new int[][] {{-1, 0, 1}, {0, -1, 1}, {0, 0, -1}, {0, 0, 4}, {1, 0, 3}, {0, 1, 3}, {4, 0, 0}, {0, 4, 0}, {1, 2, MOST}}) {
                found("copy(" + s + ", " + Arrays.toString(w) + ")", x -> x.copy(of, w[0], of, w[1], w[2]), INDEX);
            }
        }
    }

    private void whereAllIsEmpty() {
        refused("undo(0)", x -> x.undo(0), NOT, 0);
        refused("undo(1)", x -> x.undo(1), NOT, 0);
        refused("back()", x -> x.back(), NOT, 0);
        for (int s = 0; s < 4; s++) {
            int of = s;
            found("lose(" + s + ")", x -> x.lose(of), NULL);
            found("read(" + s + ")", x -> x.read(of), NULL);
        }
    }
}
