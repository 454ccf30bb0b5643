import java.util.ArrayList;
import java.util.HashMap;
import java.util.List;
import java.util.Map;

/**
 * The document said a second time, as plainly as the Java library allows and without regard to
 * cost, so that random runs of calls can be compared with it.
 */
final class Model {
    static final int NONE = -1, UNKNOWN = -1000000001, OUTSIDE = -1000000002, NOT = -1000000003, FULL = -1000000004;
    private static final List<String> KINDS = List.of("plain", "plum", "glass");

    private static final class Jar {
        int kind, house, date, q, keeps, sealed;
        boolean gone;

        Jar copy() {
            Jar j = new Jar();
            j.kind = kind;
            j.house = house;
            j.date = date;
            j.q = q;
            j.keeps = keeps;
            j.sealed = sealed;
            j.gone = gone;
            return j;
        }

        int filled(int year) {
            int age = year - sealed;
            if (kind == 0) {
                return age > keeps ? q / 2 : q;
            }
            return kind == 1 ? q + Math.min(age, keeps) : q;
        }

        boolean may(int law, int year) {
            return law == 2 || (law == 1 ? year == date : year >= date);
        }
    }

    private static final class World {
        List<Jar> jars = new ArrayList<>();
        List<Integer> harvest = new ArrayList<>();
        List<Integer> want = new ArrayList<>();
        List<Integer> s = new ArrayList<>();
        List<Integer> stock = new ArrayList<>();
        int year, law;
        long hunger, seed;
        long[] missed;
        boolean siege;

        World copy() {
            World w = new World();
            for (Jar j : jars) {
                w.jars.add(j.copy());
            }
            w.harvest.addAll(harvest);
            w.want.addAll(want);
            w.s.addAll(s);
            w.stock.addAll(stock);
            w.year = year;
            w.law = law;
            w.hunger = hunger;
            w.seed = seed;
            return w;
        }

        int harvestOf(int t) {
            return siege ? 0 : harvest.isEmpty() ? 10 : harvest.get(t % harvest.size());
        }

        int draw(int n) {
            seed = (seed * 1103515245L + 12345L) % (1L << 31);
            return (int) (seed / 65536 % n);
        }

        List<Integer> of(int h) {
            List<Integer> row = new ArrayList<>();
            for (int j = 0; j < jars.size(); j++) {
                if (jars.get(j).house == h && !jars.get(j).gone) {
                    row.add(j);
                }
            }
            return row;
        }

        int oneYear(boolean draws) {
            if (draws) {
                for (Jar j : jars) {
                    if (!j.gone && j.kind != 2 && year - j.sealed > j.keeps && draw(10) == 0) {
                        j.gone = true;
                    }
                }
            }
            int all = 0;
            for (int h = 0; h < want.size(); h++) {
                int has = stock.get(h) + (draws ? draw(30) : harvestOf(year));
                stock.set(h, 0);
                List<Integer> can = of(h);
                can.removeIf(j -> !jars.get(j).may(law, year));
                can.sort((a, b) -> jars.get(a).date != jars.get(b).date ? jars.get(a).date - jars.get(b).date : a - b);
                boolean opened = false;
                while (has < want.get(h) && !can.isEmpty()) {
                    Jar j = jars.get(can.remove(0));
                    j.gone = true;
                    has += j.filled(year);
                    opened = true;
                }
                if (has < want.get(h)) {
                    all += want.get(h) - has;
                    missed[h] += want.get(h) - has;
                } else if (has > want.get(h) && s.get(h) > 0 && !opened && !siege && jars.size() < 24) {
                    Jar j = new Jar();
                    j.house = h;
                    j.sealed = year;
                    j.date = year + s.get(h);
                    j.q = Math.min(99, has - want.get(h));
                    j.keeps = 5;
                    jars.add(j);
                }
            }
            year++;
            hunger += all;
            return all;
        }

        int years(int n, boolean draws) {
            missed = new long[4];
            int all = 0;
            for (int i = 0; i < n; i++) {
                all += oneYear(draws);
            }
            return all;
        }
    }

    private World w = new World();
    private final World[] images = new World[2];
    private final StringBuilder text = new StringBuilder();
    private int fault = NONE;
    private final List<int[]> glass = new ArrayList<>();
    private final List<int[]> book = new ArrayList<>();

    private boolean noHouse(int h) {
        return h < 0 || h >= w.want.size();
    }

    private boolean noJar(int j) {
        return j < 0 || j >= w.jars.size();
    }

    int feed(int n, long bytes) {
        if (n < 1 || n > 8) {
            return OUTSIDE;
        }
        if (text.length() + n > 400) {
            return FULL;
        }
        for (int i = 8 - n; i < 8; i++) {
            text.append((char) (bytes >> 8 * (7 - i) & 255));
        }
        return text.length();
    }

    /** Words, numbers and single signs with where they begin; the end is an empty one. */
    private static List<String> tokens(String t, List<Integer> places) {
        List<String> row = new ArrayList<>();
        int i = 0;
        while (i < t.length()) {
            int k = i + 1;
            String same = Character.toString(t.charAt(i)).matches("[a-z]") ? "[a-z]+" : t.charAt(i) >= '0' && t.charAt(i) <= '9' ? "[0-9]+" : "";
            while (k < t.length() && !same.isEmpty() && t.substring(i, k + 1).matches(same)) {
                k++;
            }
            if (t.charAt(i) != ' ') {
                row.add(t.substring(i, k));
                places.add(i);
            }
            i = k;
        }
        row.add("");
        places.add(t.length());
        return row;
    }

    /** What is expected, sign by sign: N with its bounds, K a kind, or a sign itself. */
    int land() {
        String t = text.toString();
        text.setLength(0);
        List<Integer> places = new ArrayList<>();
        List<String> row = tokens(t, places);
        World made = new World();
        int i = 0;
        int number = 0;
        boolean told = false;
        while (number == 0 && !row.get(i).isEmpty()) {
            String word = row.get(i);
            List<Integer> got = new ArrayList<>();
            String form;
            if (word.equals("harvest")) {
                form = "h.";
                number = told ? 3 : 0;
                told = true;
            } else if (word.equals("house")) {
                form = "ws;.";
                number = made.want.size() == 4 ? 3 : 0;
            } else if (word.equals("jar")) {
                form = "kodqe;.";
                number = made.jars.size() == 12 ? 3 : 0;
            } else {
                form = ".";
                number = 1;
            }
            if (number != 0) {
                break;
            }
            i++;
            for (int f = 0; form.charAt(f) != '.' && number == 0; f++) {
                char part = form.charAt(f);
                if (part == 'h') {
                    number = numberFault(row.get(i), 0, 99);
                    if (number == 0) {
                        got.add(Integer.parseInt(row.get(i)));
                        i++;
                        if (row.get(i).equals(",") && got.size() < 8) {
                            i++;
                            f--;
                        } else {
                            number = row.get(i).equals(";") ? 0 : 1;
                            i += number == 0 ? 1 : 0;
                        }
                    }
                    continue;
                }
                if (part == ';') {
                    number = row.get(i).equals(";") ? 0 : 1;
                } else if (part == 'k') {
                    number = KINDS.contains(row.get(i)) ? 0 : 1;
                    got.add(KINDS.indexOf(row.get(i)));
                } else {
                    int least = part == 'q' ? 1 : 0;
                    int most = part == 's' ? 20 : part == 'o' ? made.want.size() - 1 : 99;
                    number = numberFault(row.get(i), least, most);
                    got.add(number == 0 ? Integer.parseInt(row.get(i)) : 0);
                }
                i += number == 0 ? 1 : 0;
            }
            if (number == 0) {
                take(made, word, got);
            }
        }
        fault = number == 0 ? NONE : places.get(i);
        if (number != 0) {
            return -10 - number;
        }
        made.law = w.law;
        made.seed = w.seed;
        w = made;
        images[0] = null;
        images[1] = null;
        glass.clear();
        book.clear();
        return w.want.size();
    }

    private static int numberFault(String word, int least, int most) {
        if (!word.matches("[0-9]+")) {
            return 1;
        }
        return word.length() > 3 || Integer.parseInt(word) < least || Integer.parseInt(word) > most ? 2 : 0;
    }

    private static void take(World made, String word, List<Integer> got) {
        if (word.equals("harvest")) {
            made.harvest.addAll(got);
        } else if (word.equals("house")) {
            made.want.add(got.get(0));
            made.s.add(got.get(1));
            made.stock.add(0);
        } else {
            Jar j = new Jar();
            j.kind = got.get(0);
            j.house = got.get(1);
            j.date = got.get(2);
            j.q = got.get(3);
            j.keeps = got.get(4);
            made.jars.add(j);
        }
    }

    int fault() {
        return fault;
    }

    int told(int what) {
        int gone = 0;
        for (int j = 0; j < w.jars.size(); j++) {
            gone += w.jars.get(j).gone ? 1 << j : 0;
        }
        int[] all = {w.want.size(), w.jars.size(), text.length(), w.year, w.law, w.harvestOf(w.year),
            (int) Math.min(w.hunger, 999999999), gone, glass.size(), book.size()};
        return what < 0 || what >= all.length ? OUTSIDE : all[what];
    }

    int house(int h, int what) {
        if (noHouse(h)) {
            return UNKNOWN;
        }
        int set = 0;
        int may = 0;
        for (int j : w.of(h)) {
            set += 1 << j;
            may += w.jars.get(j).may(w.law, w.year) ? 1 << j : 0;
        }
        int[] all = {w.want.get(h), w.s.get(h), w.stock.get(h), set, may};
        return what < 0 || what >= all.length ? OUTSIDE : all[what];
    }

    int jar(int j, int what) {
        if (noJar(j)) {
            return UNKNOWN;
        }
        Jar x = w.jars.get(j);
        int[] all = {x.kind, x.house, x.date, x.q, x.keeps, w.year - x.sealed, x.filled(w.year), x.gone ? 1 : 0};
        return what < 0 || what >= all.length ? OUTSIDE : all[what];
    }

    int law(int v) {
        if (v < 0 || v > 2) {
            return OUTSIDE;
        }
        int was = w.law;
        w.law = v;
        return was;
    }

    int seals(int h, int v) {
        if (noHouse(h)) {
            return UNKNOWN;
        }
        return v < 0 || v > 20 ? OUTSIDE : w.s.set(h, v);
    }

    int give(int j, int h) {
        if (noJar(j) || noHouse(h)) {
            return UNKNOWN;
        }
        if (w.jars.get(j).gone) {
            return NOT;
        }
        int was = w.jars.get(j).house;
        w.jars.get(j).house = h;
        return was;
    }

    int label(int j, int v) {
        if (noJar(j)) {
            return UNKNOWN;
        }
        if (v < 0 || v > 9999) {
            return OUTSIDE;
        }
        if (w.jars.get(j).gone) {
            return NOT;
        }
        int was = w.jars.get(j).date;
        w.jars.get(j).date = v;
        return was;
    }

    int open(int j) {
        if (noJar(j)) {
            return UNKNOWN;
        }
        Jar x = w.jars.get(j);
        if (x.gone || !x.may(w.law, w.year)) {
            return NOT;
        }
        x.gone = true;
        w.stock.set(x.house, w.stock.get(x.house) + x.filled(w.year));
        return x.filled(w.year);
    }

    int year(int n) {
        return n < 1 || n > 99 ? OUTSIDE : w.years(n, false);
    }

    int drift(int n) {
        return n < 1 || n > 99 ? OUTSIDE : w.years(n, true);
    }

    int plan(int h, int n, int k) {
        if (noHouse(h)) {
            return UNKNOWN;
        }
        if (n < 1 || n > 12 || k < -1 || k >= n) {
            return OUTSIDE;
        }
        List<Integer> row = w.of(h);
        int all = 0;
        for (int j : row.subList(0, Math.min(8, row.size()))) {
            all |= 1 << j;
        }
        int[] best = bestPlan(h, n, 0, all, new HashMap<>());
        return k == NONE ? best[n] : best[k];
    }

    /** Sets of the years from k on at their places, and the hunger of these years behind them. */
    private int[] bestPlan(int h, int n, int k, int left, Map<Long, int[]> known) {
        if (k == n) {
            return new int[n + 1];
        }
        long key = (long) k << 32 | left;
        if (known.containsKey(key)) {
            return known.get(key);
        }
        int[] best = null;
        int set = 0;
        do {
            int has = w.harvestOf(w.year + k) + (k == 0 ? w.stock.get(h) : 0);
            boolean may = true;
            for (int j = 0; j < w.jars.size(); j++) {
                if ((set >> j & 1) == 1) {
                    may = may && w.jars.get(j).may(w.law, w.year + k);
                    has += w.jars.get(j).filled(w.year + k);
                }
            }
            if (may) {
                int[] rest = bestPlan(h, n, k + 1, left & ~set, known);
                int hunger = rest[n] + Math.max(0, w.want.get(h) - has);
                if (best == null || hunger < best[n]) {
                    best = rest.clone();
                    best[k] = set;
                    best[n] = hunger;
                }
            }
            set = (set - left) & left;
        } while (set != 0);
        known.put(key, best);
        return best;
    }

    int sealing(int h, int n) {
        if (noHouse(h)) {
            return UNKNOWN;
        }
        if (n < 1 || n > 60) {
            return OUTSIDE;
        }
        long[] hunger = new long[21];
        int best = 0;
        for (int s = 0; s <= 20; s++) {
            World t = w.copy();
            t.s.set(h, s);
            t.years(n, false);
            hunger[s] = t.missed[h];
            best = hunger[s] < hunger[best] ? s : best;
        }
        return best;
    }

    int change(int n) {
        if (n < 1 || n > 20) {
            return OUTSIDE;
        }
        int done = 0;
        while (done < 20 && changeOnce(n)) {
            done++;
        }
        return done;
    }

    private boolean changeOnce(int n) {
        World before = w.copy();
        before.years(n, false);
        for (int a = 0; a < w.jars.size(); a++) {
            for (int b = a + 1; b < w.jars.size(); b++) {
                int ha = w.jars.get(a).house;
                int hb = w.jars.get(b).house;
                World t = w.copy();
                t.jars.get(a).house = hb;
                t.jars.get(b).house = ha;
                World run = t.copy();
                run.years(n, false);
                if (ha != hb && !t.jars.get(a).gone && !t.jars.get(b).gone
                        && run.missed[ha] < before.missed[ha] && run.missed[hb] < before.missed[hb]) {
                    w = t;
                    return true;
                }
            }
        }
        return false;
    }

    int bequest(int h, int j) {
        if (noHouse(h) || (j != NONE && noJar(j))) {
            return UNKNOWN;
        }
        if (w.want.size() == 1) {
            return NONE;
        }
        List<Integer> row = w.of(h);
        row = row.subList(0, Math.min(8, row.size()));
        int[] best = deal(h, row, 0, new int[4], new int[row.size()]);
        if (j == NONE) {
            return best[row.size()];
        }
        return row.contains(j) ? best[row.indexOf(j)] : NONE;
    }

    private int[] deal(int h, List<Integer> row, int i, int[] sums, int[] heirs) {
        if (i == row.size()) {
            int least = Integer.MAX_VALUE;
            int greatest = 0;
            for (int o = 0; o < w.want.size(); o++) {
                if (o != h) {
                    least = Math.min(least, sums[o]);
                    greatest = Math.max(greatest, sums[o]);
                }
            }
            int[] way = java.util.Arrays.copyOf(heirs, heirs.length + 1);
            way[heirs.length] = greatest - least;
            return way;
        }
        int[] best = null;
        for (int o = 0; o < w.want.size(); o++) {
            if (o != h) {
                heirs[i] = o;
                sums[o] += w.jars.get(row.get(i)).q;
                int[] way = deal(h, row, i + 1, sums, heirs);
                sums[o] -= w.jars.get(row.get(i)).q;
                best = best == null || way[row.size()] < best[row.size()] ? way : best;
            }
        }
        return best;
    }

    int siege(int n, int k) {
        if (n < 1 || n > 20 || k < 0 || k > n) {
            return OUTSIDE;
        }
        World t = w.copy();
        t.siege = true;
        int all = 0;
        for (int i = 0; i < n; i++) {
            t.law = i >= k ? 2 : w.law;
            all += t.years(1, false);
        }
        return all;
    }

    int when(int n, int c) {
        if (n < 1 || n > 20 || c < 0 || c > 999) {
            return OUTSIDE;
        }
        int best = 0;
        for (int k = 1; k <= n; k++) {
            int cost = siege(n, k) + (k < n ? c : 0);
            best = cost <= siege(n, best) + c ? k : best;
        }
        return best;
    }

    int older(int a, int b) {
        if (noJar(a) || noJar(b) || a == b) {
            return UNKNOWN;
        }
        if (glass.size() == 12) {
            return FULL;
        }
        glass.add(new int[] {a, b});
        return glass.size();
    }

    int forged() {
        int named = 0;
        for (int[] g : glass) {
            named |= 1 << g[0] | 1 << g[1];
        }
        int best = named;
        int set = 0;
        do {
            boolean so = true;
            for (int[] g : glass) {
                so = so && (noJar(g[0]) || noJar(g[1]) || (set >> g[0] & 1) == 1 || (set >> g[1] & 1) == 1
                        || w.jars.get(g[0]).date < w.jars.get(g[1]).date);
            }
            if (so && Integer.bitCount(set) < Integer.bitCount(best)) {
                best = set;
            } else if (so && Integer.bitCount(set) == Integer.bitCount(best)) {
                best = Math.min(best, set);
            }
            set = (set - named) & named;
        } while (set != 0);
        return best;
    }

    int write(int year, int j) {
        if (noJar(j)) {
            return UNKNOWN;
        }
        if (year < 0 || year > 9999) {
            return OUTSIDE;
        }
        if (book.size() == 30) {
            return FULL;
        }
        book.add(new int[] {year, j});
        return book.size();
    }

    int tear() {
        int had = book.size() + glass.size();
        book.clear();
        glass.clear();
        return had;
    }

    int judge() {
        for (int i = 0; i < book.size(); i++) {
            int[] o = book.get(i);
            boolean wrong = noJar(o[1]) || !w.jars.get(o[1]).may(w.law, o[0]);
            for (int k = 0; k < i; k++) {
                wrong = wrong || book.get(k)[1] == o[1];
            }
            if (wrong || (i > 0 && o[0] < book.get(i - 1)[0])) {
                return i;
            }
        }
        return NONE;
    }

    int seed(int v) {
        if (v < 0) {
            return OUTSIDE;
        }
        long was = w.seed;
        w.seed = v;
        return (int) was;
    }

    int keep(int i) {
        if (i != 0 && i != 1) {
            return UNKNOWN;
        }
        images[i] = w.copy();
        return 1;
    }

    int goBack(int i) {
        if (i != 0 && i != 1) {
            return UNKNOWN;
        }
        if (images[i] == null) {
            return NOT;
        }
        w = images[i].copy();
        return 1;
    }
}
