import java.math.BigInteger;
import java.util.ArrayList;
import java.util.List;
import java.util.TreeSet;
import java.util.regex.Matcher;
import java.util.regex.Pattern;

/**
 * The document once more, told otherwise: day by day over all camels, every "what if" tried out in full,
 * sheets as real arrays whose exceptions are the findings. Slow, and only for comparing.
 */
final class Model {
    private record Camel(int sort, int figure) { }

    private record Bale(int camel, int weight, int day) { }

    private record Straw(int day, int camel) { }

    private record Seen(int day, int camel, int load) { }

    private static final int NONE = -1, BAD = -2, NOT = -3, FULL = -4;
    private static final String[] ITEM = {"[yos][1-9]", "[a-h][1-9][a-x]"};
    private static final int[] ROOM = {23, 39};

    private final StringBuilder[] texts = {new StringBuilder(), new StringBuilder()};
    private final List<Straw> straws = new ArrayList<>();
    private final List<Seen> seen = new ArrayList<>();
    private final Object[] sheets = new Object[4];
    private int finding;

    /** What comes of camels, bales and straws. */
    private static final class Story {
        final int n;
        final int[][][] behind; // day, camel, what
        int lost, firstDay = NONE, firstCamel = NONE;
        final List<Boolean> lastOnes = new ArrayList<>(); // of straws in the order in which they are laid

        Story(List<Camel> camels, List<Bale> bales, List<Straw> straws) {
            n = camels.size();
            behind = new int[24][n][6];
            int[] load = new int[n], strength = new int[n], lain = new int[n];
            int[] fees = new int[n], through = new int[n], broke = new int[n];
            for (int c = 0; c < n; c++) {
                strength[c] = 4 * camels.get(c).figure();
            }
            for (int day = 0; day < 24; day++) {
                for (int c = 0; c < n; c++) {
                    if (lain[c] == 3) {
                        lain[c] = 0;
                    }
                }
                for (Bale b : bales) {
                    if (b.day() == day && b.camel() < n && lain[b.camel()] == 0) {
                        load[b.camel()] += b.weight();
                        look(b.camel(), day, load, strength, lain, broke);
                    }
                }
                for (Straw s : straws) {
                    if (s.day() == day) {
                        int c = s.camel();
                        boolean lastOne = false;
                        if (c < n && lain[c] == 0) {
                            load[c]++;
                            if (load[c] == strength[c]) {
                                fees[c] += load[c];
                                lastOne = true;
                            }
                            look(c, day, load, strength, lain, broke);
                        }
                        lastOnes.add(lastOne);
                    }
                }
                for (int c = 0; c < n; c++) {
                    if (lain[c] == 0) {
                        int sort = camels.get(c).sort();
                        if (load[c] == 0) {
                            strength[c] = Math.min(strength[c] + 1, 4 * camels.get(c).figure());
                        } else if (sort == 2 || sort == 0 && (day + 1) % 3 == 0 || sort == 1 && load[c] + load[c] > strength[c]) {
                            strength[c] = Math.max(strength[c] - 1, 0);
                        }
                        look(c, day, load, strength, lain, broke);
                    }
                    if (lain[c] > 0) {
                        lain[c]++;
                    } else if (day == 7 || day == 15 || day == 23) {
                        through[c] += load[c];
                        load[c] = 0;
                    }
                    int lies = lain[c] > 0 ? 1 : 0;
                    behind[day][c] = new int[] {load[c], strength[c], lies, fees[c], through[c], broke[c]};
                }
                // those that broke today have lain for one day: the mark 100 tells them from the others
                for (int c = 0; c < n; c++) {
                    if (lain[c] > 100) {
                        lain[c] = 1;
                    }
                }
            }
        }

        private void look(int c, int day, int[] load, int[] strength, int[] lain, int[] broke) {
            if (load[c] > strength[c]) {
                lost += load[c];
                load[c] = 0;
                strength[c] = Math.max(strength[c] - 3, 0);
                lain[c] = 100;
                broke[c]++;
                if (firstDay == NONE || firstDay == day && c < firstCamel) {
                    firstDay = day;
                    firstCamel = c;
                }
            }
        }

        int sum(int day, int what) {
            int sum = 0;
            for (int c = 0; c < n; c++) {
                sum += behind[day][c][what];
            }
            return sum;
        }

        boolean shows(List<Seen> all) {
            for (Seen s : all) {
                if (s.camel() >= n || behind[s.day()][s.camel()][0] != s.load()) {
                    return false;
                }
            }
            return true;
        }
    }

    private List<Camel> camels() {
        List<Camel> list = new ArrayList<>();
        if (fault(0) == NONE && texts[0].length() > 0) {
            for (String item : texts[0].toString().split(";")) {
                list.add(new Camel("yos".indexOf(item.charAt(0)), item.charAt(1) - '0'));
            }
        }
        return list;
    }

    private List<Bale> bales() {
        List<Bale> list = new ArrayList<>();
        if (fault(1) == NONE && texts[1].length() > 0) {
            for (String item : texts[1].toString().split(";")) {
                list.add(new Bale(item.charAt(0) - 'a', item.charAt(1) - '0', item.charAt(2) - 'a'));
            }
        }
        return list;
    }

    private Story story() {
        return new Story(camels(), bales(), straws);
    }

    int type(int text, int b) {
        if (text < 0 || text > 1 || b < 0 || b > 255) {
            return BAD;
        }
        if (texts[text].length() == ROOM[text]) {
            return FULL;
        }
        return texts[text].append((char) b).length();
    }

    int wipe(int text) {
        if (text < 0 || text > 1) {
            return BAD;
        }
        int had = texts[text].length();
        texts[text].setLength(0);
        return had;
    }

    int undo(int text) {
        if (text < 0 || text > 1) {
            return BAD;
        }
        int had = texts[text].length();
        if (had == 0) {
            return NOT;
        }
        texts[text].setLength(had - 1);
        return had - 1;
    }

    int fault(int text) {
        if (text < 0 || text > 1) {
            return BAD;
        }
        String whole = texts[text].toString();
        String good = ITEM[text] + "(;" + ITEM[text] + ")*";
        if (whole.isEmpty() || whole.matches(good)) {
            return NONE;
        }
        Matcher m = Pattern.compile(good).matcher("");
        for (int end = 1; end <= whole.length(); end++) {
            m.reset(whole.substring(0, end));
            if (!m.matches() && !m.hitEnd()) {
                return end - 1;
            }
        }
        return whole.length();
    }

    int camel(int camel, int what) {
        if (camel < 0 || camel >= camels().size() || what < 0 || what > 1) {
            return BAD;
        }
        Camel c = camels().get(camel);
        return what == 0 ? c.sort() : 4 * c.figure();
    }

    int bale(int bale, int what) {
        if (bale < 0 || bale >= bales().size() || what < 0 || what > 2) {
            return BAD;
        }
        Bale b = bales().get(bale);
        return new int[] {b.camel(), b.weight(), b.day()}[what];
    }

    int straw(int day, int camel) {
        if (day < 0 || day > 23 || camel < 0 || camel > 7) {
            return BAD;
        }
        if (straws.size() == 8) {
            return FULL;
        }
        straws.add(new Straw(day, camel));
        return straws.size();
    }

    int back() {
        if (straws.isEmpty()) {
            return NOT;
        }
        straws.remove(straws.size() - 1);
        return straws.size();
    }

    int read(int s) {
        if (s < 0 || s > 3) {
            return BAD;
        }
        if (sheets[s] == null) {
            return found(1);
        }
        int n = 0;
        while (2 * n + 1 < length(s) && straw(item(s, 2 * n), item(s, 2 * n + 1)) > 0) {
            n++;
        }
        return n;
    }

    int at(int day, int camel, int what) {
        if (day < 0 || day > 23 || camel < 0 || camel >= camels().size() || what < 0 || what > 5) {
            return BAD;
        }
        return story().behind[day][camel][what];
    }

    int through() {
        return story().sum(23, 4);
    }

    int lost() {
        return story().lost;
    }

    int first(int what) {
        if (what != 0 && what != 1) {
            return BAD;
        }
        Story story = story();
        return what == 0 ? story.firstDay : story.firstCamel;
    }

    int best() {
        Story story = story();
        int best = NONE;
        for (int c = story.n - 1; c >= 0; c--) {
            if (best == NONE || story.behind[23][c][4] >= story.behind[23][best][4]) {
                best = c;
            }
        }
        return best;
    }

    int whole() {
        Story story = story();
        int bits = 0;
        for (int c = 0; c < story.n; c++) {
            bits += story.behind[23][c][5] == 0 ? 1 << c : 0;
        }
        return bits;
    }

    int tired() {
        Story story = story();
        int day = 23;
        for (int d = 22; d >= 0; d--) {
            day = story.sum(d, 1) <= story.sum(day, 1) ? d : day;
        }
        return day;
    }

    int last(int camel, int day) {
        if (day < 0 || day > 23 || camel < 0 || camel >= camels().size()) {
            return BAD;
        }
        List<Straw> more = new ArrayList<>();
        for (Straw s : straws) {
            if (s.day() <= day) {
                more.add(s);
            }
        }
        for (int k = 1; k <= 9; k++) {
            more.add(new Straw(day, camel));
            List<Boolean> lastOnes = new Story(camels(), bales(), more).lastOnes;
            if (lastOnes.get(lastOnes.size() - 1)) {
                return k;
            }
        }
        return NONE;
    }

    int bear(int bale, int what) {
        if (bale < 0 || bale >= bales().size() || what < 0 || what > 1) {
            return BAD;
        }
        int most = NONE, which = NONE;
        for (int c = 0; c < 8; c++) {
            List<Bale> other = bales();
            other.set(bale, new Bale(c, other.get(bale).weight(), other.get(bale).day()));
            int sum = new Story(camels(), other, straws).sum(23, 4);
            if (sum > most) {
                most = sum;
                which = c;
            }
        }
        return what == 0 ? which : most;
    }

    int when(int bale, int what) {
        if (bale < 0 || bale >= bales().size() || what < 0 || what > 1) {
            return BAD;
        }
        int most = NONE, which = NONE;
        for (int d = 0; d < 24; d++) {
            List<Bale> other = bales();
            other.set(bale, new Bale(other.get(bale).camel(), other.get(bale).weight(), d));
            int sum = new Story(camels(), other, straws).sum(23, 4);
            if (sum > most) {
                most = sum;
                which = d;
            }
        }
        return what == 0 ? which : most;
    }

    private List<Straw> strawsOf(int bits) {
        List<Straw> some = new ArrayList<>();
        for (int i = 0; i < straws.size(); i++) {
            if ((bits >> i & 1) == 1) {
                some.add(straws.get(i));
            }
        }
        return some;
    }

    int spare(int i) {
        if (i < -1 || i > 1) {
            return BAD;
        }
        int all = (1 << straws.size()) - 1;
        TreeSet<String> rows = new TreeSet<>(); // the number of straws, then the straws: the least is the answer
        for (int out = 0; out <= all; out++) {
            if (Integer.bitCount(out) <= 2 && new Story(camels(), bales(), strawsOf(all & ~out)).firstDay == NONE) {
                StringBuilder row = new StringBuilder().append(Integer.bitCount(out));
                for (int k = 0; k < 8; k++) {
                    if ((out >> k & 1) == 1) {
                        row.append(k);
                    }
                }
                rows.add(row.toString());
            }
        }
        if (rows.isEmpty() || rows.first().length() <= i + 1) {
            return NONE;
        }
        return rows.first().charAt(i + 1) - '0';
    }

    int seen(int day, int camel, int load) {
        if (day < 0 || day > 23 || camel < 0 || camel > 7 || load < 0 || load > 99) {
            return BAD;
        }
        if (seen.size() == 8) {
            return FULL;
        }
        seen.add(new Seen(day, camel, load));
        return seen.size();
    }

    int forget() {
        int had = seen.size();
        seen.clear();
        return had;
    }

    int never() {
        int bits = 0;
        for (int i = 0; i < straws.size(); i++) {
            List<Straw> others = new ArrayList<>(straws);
            others.remove(i);
            bits += new Story(camels(), bales(), others).shows(seen) ? 1 << i : 0;
        }
        return bits;
    }

    private Story with(int camel, int sort, int figure) {
        List<Camel> other = camels();
        other.set(camel, new Camel(sort, figure));
        return new Story(other, bales(), straws);
    }

    int was(int camel, int what) {
        if (camel < 0 || camel >= camels().size() || what < 0 || what > 1) {
            return BAD;
        }
        Camel own = camels().get(camel);
        int bits = 0;
        if (what == 0) {
            for (int sort = 0; sort < 3; sort++) {
                bits += with(camel, sort, own.figure()).shows(seen) ? 1 << sort : 0;
            }
        } else {
            for (int figure = 1; figure < 10; figure++) {
                bits += with(camel, own.sort(), figure).shows(seen) ? 1 << figure : 0;
            }
        }
        return bits;
    }

    int ask(int camel) {
        if (camel < 0 || camel >= camels().size()) {
            return BAD;
        }
        int strong = was(camel, 1);
        int sort = camels().get(camel).sort();
        int bestDay = NONE, least = Integer.MAX_VALUE;
        for (int day = 0; day < 24; day++) {
            int[] groups = new int[200];
            int greatest = 0;
            for (int figure = 1; figure < 10; figure++) {
                if ((strong >> figure & 1) == 1) {
                    int load = with(camel, sort, figure).behind[day][camel][0];
                    groups[load]++;
                    greatest = Math.max(greatest, groups[load]);
                }
            }
            if (greatest < least) {
                least = greatest;
                bestDay = day;
            }
        }
        return bestDay;
    }

    long chance(int c, int camel, int what) {
        if (c < 0 || c > 16 || camel < 0 || camel >= camels().size() || what < 0 || what > 1) {
            return Long.MIN_VALUE + 2;
        }
        int n = straws.size();
        BigInteger above = BigInteger.ZERO, below = BigInteger.valueOf(16).pow(n);
        for (int come = 0; come < 1 << n; come++) {
            if (new Story(camels(), bales(), strawsOf(come)).behind[23][camel][5] > 0) {
                int k = Integer.bitCount(come);
                above = above.add(BigInteger.valueOf(c).pow(k).multiply(BigInteger.valueOf(16 - c).pow(n - k)));
            }
        }
        BigInteger divisor = above.gcd(below);
        return (what == 0 ? above : below).divide(divisor).longValueExact();
    }

    int years(int seed, int n, int what) {
        if (n < 0 || n > 8 || what < 0 || what > 1) {
            return BAD;
        }
        List<Straw> drawn = new ArrayList<>();
        long s = seed;
        for (int i = 0; i < n && !camels().isEmpty(); i++) {
            s = 1103515245L * s + 12345 & 0xffffffffL;
            int day = (int) (s / 65536 % 24);
            s = 1103515245L * s + 12345 & 0xffffffffL;
            drawn.add(new Straw(day, (int) (s / 65536 % camels().size())));
        }
        return new Story(camels(), bales(), drawn).sum(23, what == 0 ? 5 : 4);
    }

    private int found(int number) {
        finding = number;
        return -10 - number;
    }

    private int length(int s) {
        return java.lang.reflect.Array.getLength(sheets[s]);
    }

    private int item(int s, int i) {
        return ((Number) java.lang.reflect.Array.get(sheets[s], i)).intValue();
    }

    int sheet(int s, int form, int n) {
        if (s < 0 || s > 3 || form < 0 || form > 2 || n > 60) {
            return BAD;
        }
        try {
            sheets[s] = form == 0 ? new byte[n] : form == 1 ? new short[n] : new int[n];
            return n;
        } catch (NegativeArraySizeException e) {
            return found(5);
        }
    }

    int lose(int s) {
        if (s < 0 || s > 3) {
            return BAD;
        }
        if (sheets[s] == null) {
            return found(1);
        }
        int had = length(s);
        sheets[s] = null;
        return had;
    }

    int put(int s, int form, int i, int v) {
        if (s < 0 || s > 3 || form < 0 || form > 2) {
            return BAD;
        }
        try {
            switch (form) {
                case 0 -> ((byte[]) sheets[s])[i] = (byte) v;
                case 1 -> ((short[]) sheets[s])[i] = (short) v;
                default -> ((int[]) sheets[s])[i] = v;
            }
            return 1;
        } catch (NullPointerException e) {
            return found(1);
        } catch (ArrayIndexOutOfBoundsException e) {
            return found(2);
        } catch (ClassCastException e) {
            return found(3);
        }
    }

    int get(int s, int form, int i) {
        if (s < 0 || s > 3 || form < 0 || form > 2) {
            return Integer.MIN_VALUE;
        }
        try {
            return switch (form) {
                case 0 -> ((byte[]) sheets[s])[i];
                case 1 -> ((short[]) sheets[s])[i];
                default -> ((int[]) sheets[s])[i];
            };
        } catch (NullPointerException e) {
            found(1);
        } catch (ArrayIndexOutOfBoundsException e) {
            found(2);
        } catch (ClassCastException e) {
            found(3);
        }
        return Integer.MIN_VALUE;
    }

    int copy(int s, int i, int t, int j, int n) {
        if (s < 0 || s > 3 || t < 0 || t > 3) {
            return BAD;
        }
        try {
            System.arraycopy(sheets[s], i, sheets[t], j, n);
            return 1;
        } catch (NullPointerException e) {
            return found(1);
        } catch (IndexOutOfBoundsException e) {
            return found(2);
        } catch (ArrayStoreException e) {
            return found(4);
        }
    }

    int write(int camel, int s) {
        if (camel < 0 || camel >= camels().size() || s < 0 || s > 3) {
            return BAD;
        }
        if (sheets[s] == null) {
            return found(1);
        }
        int form = sheets[s] instanceof byte[] ? 0 : sheets[s] instanceof short[] ? 1 : 2;
        int n = 0;
        for (; n < 24 && n < length(s); n++) {
            put(s, form, n, story().behind[n][camel][1]);
        }
        return n;
    }

    int count(int what) {
        return switch (what) {
            case 0 -> camels().size();
            case 1 -> bales().size();
            case 2, 3 -> texts[what - 2].length();
            case 4 -> straws.size();
            case 5 -> story().sum(23, 3);
            case 6 -> story().sum(23, 5);
            case 7 -> seen.size();
            case 8 -> finding;
            default -> BAD;
        };
    }

    long digest() {
        List<Long> all = new ArrayList<>();
        for (int what = 0; what < 8; what++) {
            all.add((long) count(what));
        }
        all.add((long) fault(0));
        all.add((long) fault(1));
        for (int b = 0; b < bales().size(); b++) {
            for (int v : new int[] {bale(b, 0), bale(b, 1), bale(b, 2), bear(b, 0), bear(b, 1), when(b, 0), when(b, 1)}) {
                all.add((long) v);
            }
        }
        for (int c = 0; c < camels().size(); c++) {
            all.add((long) camel(c, 0));
            all.add((long) camel(c, 1));
            for (int day : new int[] {0, 7, 14, 23}) {
                for (int what = 0; what < 6; what++) {
                    all.add((long) at(day, c, what));
                }
            }
            for (int v : new int[] {last(c, 5), was(c, 0), was(c, 1), ask(c)}) {
                all.add((long) v);
            }
            all.add(chance(5, c, 0));
            all.add(chance(5, c, 1));
        }
        for (int v : new int[] {through(), lost(), first(0), first(1), best(), whole(), tired(), spare(-1), spare(0),
                never(), years(7, 6, 0), years(7, 6, 1)}) {
            all.add((long) v);
        }
        BigInteger h = BigInteger.valueOf(17);
        for (long v : all) {
            h = h.multiply(BigInteger.valueOf(31)).add(BigInteger.valueOf(v));
        }
        return h.longValue();
    }
}
