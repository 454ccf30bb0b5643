import java.util.function.Supplier;
import java.util.function.ToIntFunction;

/**
 * Every call with every argument at the last value that is taken and the first that is refused on
 * each side, and far off, in lands that are new, full, of one house, of many jars: "REFUSALS, of
 * several the first in this order: UNKNOWN, OUTSIDE, NOT, FULL. What is refused changes nothing."
 */
public final class RefusalsTest {
    private static final Checks c = new Checks("RefusalsTest");
    private static final int NONE = DatedJars.NONE, UNKNOWN = DatedJars.UNKNOWN, OUTSIDE = DatedJars.OUTSIDE;
    private static final int NOT = DatedJars.NOT, FULL = DatedJars.FULL;
    private static final int LEAST = Integer.MIN_VALUE, MOST = Integer.MAX_VALUE;

    /** What is so in a land that a maker makes, as told by hand: sets are of jars, kept of images. */
    private record State(String name, Supplier<DatedJars> maker, int houses, int jars, int gone, int may,
            int text, int glass, int book, int kept) {
        boolean noHouse(int h) {
            return h < 0 || h >= houses;
        }

        boolean noJar(int j) {
            return j < 0 || j >= jars;
        }

        boolean isGone(int j) {
            return !noJar(j) && (gone >> j & 1) == 1;
        }

        boolean mayNot(int j) {
            return !noJar(j) && (may >> j & 1) == 0;
        }
    }

    private final State s;

    private RefusalsTest(State s) {
        this.s = s;
    }

    public static void main(String[] args) {
        State[] states = {
            new State("new", DatedJars::new, 0, 0, 0, 0, 0, 0, 0, 0),
            new State("some", RefusalsTest::some, 2, 4, 8, 3, 8, 2, 2, 1),
            new State("full", RefusalsTest::full, 4, 5, 1, 30, 397, 12, 30, 2),
            new State("text to its end", RefusalsTest::textToItsEnd, 1, 1, 0, 0, 400, 0, 0, 3),
            new State("many jars", RefusalsTest::manyJars, 1, 24, 3, 0xfffffc, 0, 1, 1, 0)};
        for (State s : states) {
            new RefusalsTest(s).all();
        }
        c.finish();
    }

    /** In the year 1 by law 0: jar 3 is gone, jar 2 may not be opened. */
    private static DatedJars some() {
        DatedJars x = Checks.landOf("harvest 12,14,5;house 10 0;house 7 0;"
            + "jar plain 0 1 6 2;jar plum 1 0 5 3;jar glass 0 2 9 0;jar plain 1 0 4 9;");
        x.seed(5);
        x.open(3);
        x.keep(0);
        x.year(1);
        x.seed(77);
        x.older(0, 1);
        x.older(2, 1);
        x.write(1, 0);
        x.write(2, 1);
        Checks.feedText(x, "house 1 ");
        return x;
    }

    /** By law 2: jar 0 is gone, glass and book are full, three bytes of the text are left. */
    private static DatedJars full() {
        DatedJars x = Checks.landOf("harvest 1;house 1 1;house 2 2;house 3 3;house 4 4;"
            + "jar plain 0 1 6 2;jar plum 1 50 5 3;jar glass 2 2 9 0;jar plain 3 0 4 9;jar glass 3 9 4 9;");
        x.law(2);
        x.open(0);
        x.keep(1);
        x.seed(MOST);
        for (int i = 0; i < 12; i++) {
            x.older(i % 5, (i + 1) % 5);
        }
        for (int i = 0; i < 30; i++) {
            x.write(i, i % 5);
        }
        Checks.feedText(x, "house 1 1;" + " ".repeat(387));
        return x;
    }

    private static DatedJars textToItsEnd() {
        DatedJars x = Checks.landOf("house 11 1;jar plum 0 5 1 1;");
        x.keep(0);
        x.year(1);
        x.keep(1);
        Checks.feedText(x, " ".repeat(390) + "house 2 2;");
        return x;
    }

    /** One house that sealed twelve: by law 2 all may be opened, the first two are. */
    private static DatedJars manyJars() {
        DatedJars x = Checks.landOf("harvest 9;house 1 3;" + "jar glass 0 90 1 0;".repeat(12));
        x.year(12);
        x.law(2);
        x.open(0);
        x.open(1);
        x.older(23, 5);
        x.write(7, 23);
        return x;
    }

    private static int[] around(int least, int most) {
        return new int[] {LEAST, least - 1, least, most, most + 1, MOST};
    }

    private int[] someHouses() {
        return around(0, s.houses - 1);
    }

    private int[] someJars() {
        return new int[] {LEAST, -2, -1, 0, 1, 2, 3, s.jars - 1, s.jars, 24, 31, 32, MOST};
    }

    private static int first(boolean unknown, boolean outside, boolean not, boolean full) {
        return unknown ? UNKNOWN : outside ? OUTSIDE : not ? NOT : full ? FULL : 0;
    }

    private static boolean out(int a, int least, int most) {
        return a < least || a > most;
    }

    /** Due is a refusal, or 0 where there is to be none. */
    private void look(String call, int due, ToIntFunction<DatedJars> calling) {
        String what = s.name + ": " + call;
        if (due != 0) {
            c.changesNothing(what, s.maker, calling, due);
            return;
        }
        int got = calling.applyAsInt(s.maker.get());
        c.due(what + " is not to be refused (" + got + ")", got <= UNKNOWN ? 1 : 0, 0);
    }

    private void all() {
        theStateIsAsTold();
        askedOfText();
        askedOfHouses();
        askedOfJars();
        years();
        plans();
        sealingsAndBequests();
        sieges();
        glassAndBook();
        seedsAndImages();
    }

    private void theStateIsAsTold() {
        DatedJars x = s.maker.get();
        int[] due = {s.houses, s.jars, s.text, NONE, NONE, NONE, NONE, s.gone, s.glass, s.book};
        for (int what = 0; what < due.length; what++) {
            if (due[what] != NONE) {
                c.due(s.name + ": told(" + what + ")", x.told(what), due[what]);
            }
        }
        int may = 0;
        for (int h = 0; h < s.houses; h++) {
            may |= x.house(h, 4);
        }
        c.due(s.name + ": may be opened", may, s.may);
    }

    private void askedOfText() {
        for (int n : around(1, 8)) {
            look("feed(" + n + ")", first(false, out(n, 1, 8), false, s.text + n > 400), x -> x.feed(n, 0x3b3b3b3b3b3b3b3bL));
        }
        for (int n = 1; n <= 8; n++) {
            int bytes = n;
            look("feed(" + n + ")", first(false, false, false, s.text + n > 400), x -> x.feed(bytes, 0x3b3b3b3b3b3b3b3bL));
        }
        for (int what : around(0, 9)) {
            look("told(" + what + ")", first(false, out(what, 0, 9), false, false), x -> x.told(what));
        }
    }

    private void askedOfHouses() {
        for (int h : someHouses()) {
            for (int what : around(0, 4)) {
                look("house(" + h + ", " + what + ")", first(s.noHouse(h), out(what, 0, 4), false, false), x -> x.house(h, what));
            }
            for (int v : around(0, 20)) {
                look("seals(" + h + ", " + v + ")", first(s.noHouse(h), out(v, 0, 20), false, false), x -> x.seals(h, v));
            }
        }
    }

    private void askedOfJars() {
        for (int j : someJars()) {
            for (int what : around(0, 7)) {
                look("jar(" + j + ", " + what + ")", first(s.noJar(j), out(what, 0, 7), false, false), x -> x.jar(j, what));
            }
            for (int h : someHouses()) {
                look("give(" + j + ", " + h + ")", first(s.noJar(j) || s.noHouse(h), false, s.isGone(j), false), x -> x.give(j, h));
            }
            for (int v : around(0, 9999)) {
                look("label(" + j + ", " + v + ")", first(s.noJar(j), out(v, 0, 9999), s.isGone(j), false), x -> x.label(j, v));
            }
            look("open(" + j + ")", first(s.noJar(j), false, s.isGone(j) || s.mayNot(j), false), x -> x.open(j));
        }
    }

    private void years() {
        for (int v : around(0, 2)) {
            look("law(" + v + ")", first(false, out(v, 0, 2), false, false), x -> x.law(v));
        }
        for (int n : around(1, 99)) {
            look("year(" + n + ")", first(false, out(n, 1, 99), false, false), x -> x.year(n));
            look("drift(" + n + ")", first(false, out(n, 1, 99), false, false), x -> x.drift(n));
        }
        for (int n : around(1, 20)) {
            look("change(" + n + ")", first(false, out(n, 1, 20), false, false), x -> x.change(n));
        }
    }

    private void plans() {
        for (int h : someHouses()) {
            for (int n : new int[] {LEAST, -1, 0, 1, 2, 12, 13, MOST}) {
                for (int k : new int[] {LEAST, -2, NONE, 0, 1, 2, 11, 12, 13, MOST}) {
                    look("plan(" + h + ", " + n + ", " + k + ")",
                        first(s.noHouse(h), out(n, 1, 12) || k < NONE || k >= n, false, false), x -> x.plan(h, n, k));
                }
            }
        }
    }

    private void sealingsAndBequests() {
        for (int h : someHouses()) {
            for (int n : around(1, 60)) {
                look("sealing(" + h + ", " + n + ")", first(s.noHouse(h), out(n, 1, 60), false, false), x -> x.sealing(h, n));
            }
            for (int j : someJars()) {
                look("bequest(" + h + ", " + j + ")", first(s.noHouse(h) || (j != NONE && s.noJar(j)), false, false, false),
                    x -> x.bequest(h, j));
            }
        }
    }

    private void sieges() {
        for (int n : new int[] {LEAST, -1, 0, 1, 2, 20, 21, MOST}) {
            for (int k : new int[] {LEAST, -1, 0, 1, 2, 3, 20, 21, 22, MOST}) {
                look("siege(" + n + ", " + k + ")", first(false, out(n, 1, 20) || k < 0 || k > n, false, false), x -> x.siege(n, k));
            }
            for (int cost : around(0, 999)) {
                look("when(" + n + ", " + cost + ")", first(false, out(n, 1, 20) || out(cost, 0, 999), false, false), x -> x.when(n, cost));
            }
        }
    }

    private void glassAndBook() {
        for (int a : someJars()) {
            for (int b : someJars()) {
                look("older(" + a + ", " + b + ")", first(s.noJar(a) || s.noJar(b) || a == b, false, false, s.glass == 12), x -> x.older(a, b));
            }
            for (int year : around(0, 9999)) {
                look("write(" + year + ", " + a + ")", first(s.noJar(a), out(year, 0, 9999), false, s.book == 30), x -> x.write(year, a));
            }
        }
    }

    private void seedsAndImages() {
        for (int v : new int[] {LEAST, -1, 0, MOST}) {
            look("seed(" + v + ")", first(false, v < 0, false, false), x -> x.seed(v));
        }
        for (int i : new int[] {LEAST, -1, 0, 1, 2, 31, 32, MOST}) {
            boolean unknown = out(i, 0, 1);
            look("keep(" + i + ")", first(unknown, false, false, false), x -> x.keep(i));
            look("goBack(" + i + ")", first(unknown, false, !unknown && (s.kept >> i & 1) == 0, false), x -> x.goBack(i));
        }
    }
}
