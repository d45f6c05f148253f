import java.util.Random;

/** Promises 1 to 36: long runs of calls by chance, each answer compared with that of the model. */
public final class ModelTest {
    private static final int RUNS = 400, CALLS = 160;

    private final Random random;
    private final CamelStraws x = new CamelStraws();
    private final Model model = new Model();
    private final String run;

    private ModelTest(int seed) {
        random = new Random(seed);
        run = "run " + seed + ": ";
    }

    public static void main(String[] args) {
        for (int seed = 0; seed < RUNS && Check.wrongSoFar() == 0; seed++) {
            new ModelTest(seed).go();
        }
        Check.end();
    }

    private void go() {
        sayTexts();
        for (int i = random.nextInt(9); i > 0; i--) {
            tell();
        }
        for (int i = 0; i < CALLS && Check.wrongSoFar() == 0; i++) {
            call(random.nextInt(40));
        }
        same("digest()", x.digest(), model.digest());
    }

    private void same(String call, long got, long want) {
        Check.due(run + call, got, want);
    }

    /** A number within 0 to most - 1, seldom one just outside or far off. */
    private int about(int most) {
        switch (random.nextInt(24)) {
            case 0: return -1;
            case 1: return most;
            case 2: return random.nextBoolean() ? Integer.MIN_VALUE : Integer.MAX_VALUE;
            default: return random.nextInt(Math.max(1, most));
        }
    }

    private int aCamel() {
        return about(Math.max(1, model.count(0)));
    }

    private int aBale() {
        return about(Math.max(1, model.count(1)));
    }

    private void sayTexts() {
        int camels = random.nextInt(9), bales = random.nextInt(11);
        int figures = 1 + random.nextInt(9), days = 1 + random.nextInt(24), on = 1 + random.nextInt(8);
        for (int i = 0; i < camels; i++) {
            say(0, i > 0 ? ";" : "");
            say(0, "" + "yos".charAt(random.nextInt(3)) + (1 + random.nextInt(figures)));
        }
        for (int i = 0; i < bales; i++) {
            say(1, i > 0 ? ";" : "");
            say(1, "" + (char) ('a' + random.nextInt(on)) + (1 + random.nextInt(9)) + (char) ('a' + random.nextInt(days)));
        }
    }

    private void say(int text, String bytes) {
        for (int i = 0; i < bytes.length(); i++) {
            type(text, bytes.charAt(i));
        }
    }

    private void type(int text, int b) {
        same("type(" + text + ", " + b + ")", x.type(text, b), model.type(text, b));
        same("fault(" + text + ")", x.fault(text), model.fault(text));
    }

    private void tell() {
        int day = about(24), camel = random.nextInt(4) == 0 ? about(8) : aCamel();
        same("straw(" + day + ", " + camel + ")", x.straw(day, camel), model.straw(day, camel));
    }

    private void see() {
        int day = about(24), camel = aCamel();
        int load = model.at(day, camel, 0);
        if (load < 0 || random.nextInt(3) == 0) {
            load = about(100);
        }
        same("seen(" + day + ", " + camel + ", " + load + ")", x.seen(day, camel, load), model.seen(day, camel, load));
    }

    private void call(int which) {
        if (which < 9) {
            tellMore(which);
        } else if (which < 18) {
            askDays(which);
        } else if (which < 29) {
            askPlans(which);
        } else {
            useSheets(which);
        }
    }

    private void tellMore(int which) {
        int text = about(2);
        switch (which) {
            case 0: type(text, "yos;123456789abcdefghijklmnopqrstuvwxyz".charAt(random.nextInt(38))); break;
            case 1: type(text, about(256)); break;
            case 2:
                same("undo(" + text + ")", x.undo(text), model.undo(text));
                same("undo(" + text + ")", x.undo(text), model.undo(text));
                break;
            case 3:
                if (random.nextInt(6) == 0) {
                    same("wipe(0)", x.wipe(0), model.wipe(0));
                    same("wipe(1)", x.wipe(1), model.wipe(1));
                    sayTexts();
                }
                break;
            case 4:
                same("back()", x.back(), model.back());
                break;
            case 5:
                int s = about(4);
                same("read(" + s + ")", x.read(s), model.read(s));
                break;
            default: tell();
        }
    }

    private void askDays(int which) {
        int camel = aCamel(), bale = aBale(), what = about(7), day = about(24);
        switch (which) {
            case 9: same("camel(" + camel + ", " + what % 3 + ")", x.camel(camel, what % 3), model.camel(camel, what % 3)); break;
            case 10: same("bale(" + bale + ", " + what % 4 + ")", x.bale(bale, what % 4), model.bale(bale, what % 4)); break;
            case 11:
            case 12: same("at(" + day + ", " + camel + ", " + what + ")", x.at(day, camel, what), model.at(day, camel, what)); break;
            case 13: same("through()", x.through(), model.through()); break;
            case 14: same("lost()", x.lost(), model.lost()); break;
            case 15: same("first(" + what % 3 + ")", x.first(what % 3), model.first(what % 3)); break;
            case 16:
                same("best()", x.best(), model.best());
                same("whole()", x.whole(), model.whole());
                break;
            default: same("tired()", x.tired(), model.tired());
        }
    }

    private void askPlans(int which) {
        int camel = aCamel(), bale = aBale(), what = about(2), day = about(24);
        switch (which) {
            case 18: same("last(" + camel + ", " + day + ")", x.last(camel, day), model.last(camel, day)); break;
            case 19: same("bear(" + bale + ", " + what + ")", x.bear(bale, what), model.bear(bale, what)); break;
            case 20: same("when(" + bale + ", " + what + ")", x.when(bale, what), model.when(bale, what)); break;
            case 21:
                int i = random.nextInt(6) - 2;
                same("spare(" + i + ")", x.spare(i), model.spare(i));
                break;
            case 22:
            case 23: see(); break;
            case 24:
                if (random.nextInt(3) == 0) {
                    same("forget()", x.forget(), model.forget());
                }
                break;
            case 25: same("never()", x.never(), model.never()); break;
            case 26:
                same("was(" + camel + ", " + what + ")", x.was(camel, what), model.was(camel, what));
                same("ask(" + camel + ")", x.ask(camel), model.ask(camel));
                break;
            case 27:
                int c = about(17);
                same("chance(" + c + ", " + camel + ", " + what + ")", x.chance(c, camel, what), model.chance(c, camel, what));
                break;
            default:
                int seed = random.nextInt(), n = about(9);
                same("years(" + seed + ", " + n + ", " + what + ")", x.years(seed, n, what), model.years(seed, n, what));
        }
    }

    private void useSheets(int which) {
        int s = about(4), t = about(4), form = random.nextInt(3) == 0 ? about(3) : 0;
        int i = about(20), j = about(20), n = about(24);
        switch (which) {
            case 29: same("sheet(" + s + ", " + form + ", " + n + ")", x.sheet(s, form, n), model.sheet(s, form, n)); break;
            case 30: n = about(61);
                same("sheet(" + s + ", " + form + ", " + n + ")", x.sheet(s, form, n), model.sheet(s, form, n)); break;
            case 31: same("lose(" + s + ")", x.lose(s), model.lose(s)); break;
            case 32:
            case 33:
                int v = random.nextInt(4) == 0 ? random.nextInt() : random.nextInt(8);
                same("put(" + s + ", " + form + ", " + i + ", " + v + ")", x.put(s, form, i, v), model.put(s, form, i, v));
                break;
            case 34:
            case 35: same("get(" + s + ", " + form + ", " + i + ")", x.get(s, form, i), model.get(s, form, i)); break;
            case 36:
                n = n % 8;
                same("copy(" + s + ", " + i + ", " + t + ", " + j + ", " + n + ")", x.copy(s, i, t, j, n), model.copy(s, i, t, j, n));
                break;
            case 37:
                int camel = aCamel();
                same("write(" + camel + ", " + s + ")", x.write(camel, s), model.write(camel, s));
                break;
            default:
                int what = about(9);
                same("count(" + what + ")", x.count(what), model.count(what));
        }
        same("count(8)", x.count(8), model.count(8));
    }
}
