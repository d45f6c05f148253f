/** Counts answers that are not as due, and ends the test by them. */
final class Check {
    private static int wrong = 0;

    private Check() {
    }

    static void due(String call, long got, long want) {
        if (got != want) {
            wrong++;
            System.out.println(call + " answered " + got + ", due is " + want);
        }
    }

    static void holds(String what, boolean so) {
        if (!so) {
            wrong++;
            System.out.println("does not hold: " + what);
        }
    }

    static int wrongSoFar() {
        return wrong;
    }

    static void end() {
        if (wrong != 0) {
            System.out.println(wrong + " answers are not as due");
            System.exit(1);
        }
    }

    static void say(CamelStraws x, int text, String bytes) {
        for (int i = 0; i < bytes.length(); i++) {
            due("type(" + text + ", " + (int) bytes.charAt(i) + ")", x.type(text, bytes.charAt(i)), i + 1);
        }
    }

    /** A caravan told by its texts and by day, camel of each straw. */
    static CamelStraws told(String camels, String bales, int... straws) {
        CamelStraws x = new CamelStraws();
        say(x, 0, camels);
        say(x, 1, bales);
        for (int i = 0; i + 1 < straws.length; i += 2) {
            due("straw(" + straws[i] + ", " + straws[i + 1] + ")", x.straw(straws[i], straws[i + 1]), i / 2 + 1);
        }
        return x;
    }

    /** at(day, camel, 0 to 5) in one row. */
    static void dueAt(CamelStraws x, int day, int camel, int... six) {
        for (int what = 0; what < 6; what++) {
            due("at(" + day + ", " + camel + ", " + what + ")", x.at(day, camel, what), six[what]);
        }
    }
}
