/** Promises 8 to 14: law, seals, give, label, open, year, drift. */
public final class YearsTest {
    private static final Checks c = new Checks("YearsTest");
    private static final int UNKNOWN = DatedJars.UNKNOWN, OUTSIDE = DatedJars.OUTSIDE, NOT = DatedJars.NOT;

    public static void main(String[] args) {
        laws();
        sealsOfHouses();
        giving();
        labelling();
        opening();
        hungerOfYears();
        orderOfOpening();
        whatIsSealed();
        sealingEndsAtTwentyFour();
        houseThatOpensSealsNothing();
        drawsOfHarvest();
        jarsThatBurst();
        c.finish();
    }

    private static void laws() {
        DatedJars x = Checks.landOf("house 0 0;jar plain 0 1 5 9;");
        String before = Checks.look(x);
        c.refused(x, before, "law(-1)", x.law(-1), OUTSIDE);
        c.refused(x, before, "law(3)", x.law(3), OUTSIDE);
        c.due("law(1)", x.law(1), 0);
        c.due("law(2)", x.law(2), 1);
        c.due("law(0)", x.law(0), 2);
        int[][] may = {{0, 0, 1}, {1, 1, 1}, {1, 0, 1}};
        for (int year = 0; year < 3; year++) {
            for (int law = 0; law < 3; law++) {
                x.law(law);
                c.due("year " + year + ", law " + law, x.house(0, 4), may[year][law]);
            }
            x.year(1);
        }
    }

    private static void sealsOfHouses() {
        DatedJars x = Checks.landOf("house 0 7;house 0 0;");
        String before = Checks.look(x);
        c.refused(x, before, "seals(2, 1)", x.seals(2, 1), UNKNOWN);
        c.refused(x, before, "seals(-1, 1)", x.seals(-1, 1), UNKNOWN);
        c.refused(x, before, "seals(2, 21): UNKNOWN first", x.seals(2, 21), UNKNOWN);
        c.refused(x, before, "seals(0, 21)", x.seals(0, 21), OUTSIDE);
        c.refused(x, before, "seals(0, -1)", x.seals(0, -1), OUTSIDE);
        c.due("seals(0, 0)", x.seals(0, 0), 7);
        c.due("seals(0, 20)", x.seals(0, 20), 0);
        c.due("seals(1, 3)", x.seals(1, 3), 0);
        c.due("S of 0", x.house(0, 1), 20);
        c.due("S of 1", x.house(1, 1), 3);
    }

    private static void giving() {
        DatedJars x = Checks.landOf("house 0 0;house 0 0;house 0 0;jar plain 1 0 5 9;jar plum 2 0 5 9;");
        x.open(1);
        String before = Checks.look(x);
        c.refused(x, before, "give(2, 0)", x.give(2, 0), UNKNOWN);
        c.refused(x, before, "give(-1, 0)", x.give(-1, 0), UNKNOWN);
        c.refused(x, before, "give(0, 3)", x.give(0, 3), UNKNOWN);
        c.refused(x, before, "give(0, -1)", x.give(0, -1), UNKNOWN);
        c.refused(x, before, "give(1, 3): UNKNOWN first", x.give(1, 3), UNKNOWN);
        c.refused(x, before, "give(1, 0) of a gone one", x.give(1, 0), NOT);
        c.due("give(0, 2)", x.give(0, 2), 1);
        c.due("give(0, 2) again", x.give(0, 2), 2);
        c.due("jars of 1", x.house(1, 3), 0);
        c.due("jars of 2", x.house(2, 3), 1);
    }

    private static void labelling() {
        DatedJars x = Checks.landOf("house 0 0;jar plain 0 3 5 9;jar plum 0 0 5 9;");
        x.open(1);
        String before = Checks.look(x);
        c.refused(x, before, "label(2, 0)", x.label(2, 0), UNKNOWN);
        c.refused(x, before, "label(-1, 0)", x.label(-1, 0), UNKNOWN);
        c.refused(x, before, "label(2, -1): UNKNOWN first", x.label(2, -1), UNKNOWN);
        c.refused(x, before, "label(0, -1)", x.label(0, -1), OUTSIDE);
        c.refused(x, before, "label(0, 10000)", x.label(0, 10000), OUTSIDE);
        c.refused(x, before, "label(1, 10000): OUTSIDE first", x.label(1, 10000), OUTSIDE);
        c.refused(x, before, "label(1, 1) of a gone one", x.label(1, 1), NOT);
        c.due("label(0, 9999)", x.label(0, 9999), 3);
        c.due("label(0, 0)", x.label(0, 0), 9999);
        c.due("it may be opened now", x.house(0, 4), 1);
        c.due("it is as old as ever", x.jar(0, 5), 0);
    }

    private static void opening() {
        DatedJars x = Checks.landOf("house 4 0;house 5 0;jar plain 0 0 5 0;jar plum 1 1 7 9;jar glass 1 1 8 0;jar plain 0 1 9 0;");
        String before = Checks.look(x);
        c.refused(x, before, "open(4)", x.open(4), UNKNOWN);
        c.refused(x, before, "open(-1)", x.open(-1), UNKNOWN);
        c.refused(x, before, "open(1) ahead of its date", x.open(1), NOT);
        c.due("open(0)", x.open(0), 5);
        c.due("open(0) again", x.open(0), NOT);
        c.due("stock of 0", x.house(0, 2), 5);
        x.year(1);
        c.due("stock is eaten or left", x.house(0, 2), 0);
        c.due("open(1), a year riper", x.open(1), 8);
        c.due("open(2)", x.open(2), 8);
        c.due("stock of 1", x.house(1, 2), 16);
        c.due("open(3), too old", x.open(3), 4);
        c.due("gone", x.told(7), 15);
        x.law(2);
        c.due("a gone one by law 2", x.open(3), NOT);
    }

    private static void hungerOfYears() {
        DatedJars x = Checks.landOf("harvest 4,9;house 10 0;house 5 0;");
        String before = Checks.look(x);
        c.refused(x, before, "year(0)", x.year(0), OUTSIDE);
        c.refused(x, before, "year(-1)", x.year(-1), OUTSIDE);
        c.refused(x, before, "year(100)", x.year(100), OUTSIDE);
        c.due("year(1)", x.year(1), 7);
        c.due("year(1)", x.year(1), 1);
        c.due("year(3)", x.year(3), 15);
        c.due("hunger so far", x.told(6), 23);
        c.due("year(99)", x.year(99), 49 * 8 + 1);
        c.due("the year", x.told(3), 104);
        c.due("hunger so far", x.told(6), 23 + 49 * 8 + 1);
    }

    private static void orderOfOpening() {
        DatedJars x = Checks.landOf("harvest 1;house 10 0;house 3 0;"
                + "jar plain 0 2 5 9;jar plain 0 1 2 9;jar plain 0 1 3 9;jar plain 0 0 1 9;jar glass 1 0 4 0;jar plain 0 9 5 9;");
        c.due("year 0", x.year(1), 8);
        c.due("both opened theirs", x.told(7), 16 + 8);
        c.due("year 1", x.year(1), 4 + 2);
        c.due("the lesser of like dates first, then the other", x.told(7), 16 + 8 + 2 + 4);
        c.due("year 2", x.year(1), 4 + 2);
        x.law(2);
        c.due("year 3", x.year(1), 4 + 2);
        c.due("all", x.told(7), 63);
        DatedJars y = Checks.landOf("harvest 8;house 10 0;jar plain 0 3 2 9;jar plain 0 2 1 9;jar plain 0 2 1 9;");
        y.law(2);
        c.due("enough by the first two", y.year(1), 0);
        c.due("the least dates went", y.told(7), 6);
        DatedJars z = Checks.landOf("harvest 10;house 10 0;jar plain 0 0 2 9;");
        c.due("a want that is met", z.year(1), 0);
        c.due("nothing is opened", z.told(7), 0);
        DatedJars late = Checks.landOf("harvest 0;house 9 0;jar plain 0 1 7 9;");
        late.law(1);
        c.due("law 1: early", late.year(1), 9);
        c.due("law 1: in its year", late.year(1), 2);
        late = Checks.landOf("harvest 0;house 9 0;jar plain 0 1 7 9;");
        late.year(2);
        late = Checks.landOf("harvest 0;house 9 0;jar plain 0 0 7 9;");
        late.label(0, 50);
        late.year(1);
        late.label(0, 0);
        late.law(1);
        c.due("law 1: too late", late.year(1), 9);
        late.law(0);
        c.due("law 0: later", late.year(1), 2);
    }

    private static void whatIsSealed() {
        DatedJars x = Checks.landOf("harvest 50,0;house 10 3;house 10 0;house 50 4;");
        c.due("year(1)", x.year(1), 0);
        c.due("one jar is sealed", x.told(1), 1);
        int[] due = {0, 0, 3, 40, 5, 1, 40, 0};
        for (int what = 0; what < 8; what++) {
            c.due("jar(0, " + what + ")", x.jar(0, what), due[what]);
        }
        c.due("year(1)", x.year(1), 10 + 10 + 50);
        c.due("nothing is sealed in a bad year", x.told(1), 1);
        x.year(1);
        c.due("sealed in year 2", x.jar(1, 2), 5);
        c.due("its age", x.jar(1, 5), 1);
        DatedJars much = Checks.landOf("harvest 99;house 0 1;jar glass 0 0 60 0;");
        much.open(0);
        c.due("year(1)", much.year(1), 0);
        c.due("99 at most", much.jar(1, 3), 99);
        c.due("the rest is lost", much.house(0, 2), 0);
    }

    private static void sealingEndsAtTwentyFour() {
        DatedJars x = Checks.landOf("harvest 5;house 4 20;house 3 20;house 2 20;");
        c.due("year(7)", x.year(7), 0);
        c.due("21 jars", x.told(1), 21);
        c.due("year(1)", x.year(1), 0);
        c.due("24 jars", x.told(1), 24);
        c.due("the last is the third house's", x.jar(23, 1), 2);
        c.due("year(1)", x.year(1), 0);
        c.due("no more", x.told(1), 24);
        x.law(2);
        x.open(0);
        x.year(1);
        c.due("gone ones count, too", x.told(1), 24);
        DatedJars y = Checks.landOf("harvest 5;house 4 20;house 3 20;house 2 20;house 5 5;jar plain 0 99 1 1;");
        y.year(8);
        c.due("24 jars", y.told(1), 24);
        c.due("the second house had the last place", y.jar(23, 1), 1);
    }

    private static void houseThatOpensSealsNothing() {
        DatedJars x = Checks.landOf("harvest 5;house 6 2;house 6 2;jar glass 0 0 9 0;jar glass 1 0 9 0;");
        x.open(1);
        c.due("year(1)", x.year(1), 0);
        c.due("who opened in the year seals nothing; who did by hand does", x.told(1), 3);
        c.due("whose", x.jar(2, 1), 1);
        c.due("how much", x.jar(2, 3), 8);
        c.due("both are gone", x.told(7), 3);
        DatedJars y = Checks.landOf("harvest 0;house 6 2;jar plain 0 0 1 0;");
        y.label(0, 1);
        y.year(1);
        c.due("a jar that is filled with nothing is opened all the same", y.year(1), 6);
        c.due("it is gone", y.told(7), 1);
    }

    /** The draws by the rule alone, to tell the harvests that are due. */
    private static final class Draws {
        private long seed;

        Draws(long seed) {
            this.seed = seed;
        }

        int of(int n) {
            seed = (seed * 1103515245L + 12345L) % 2147483648L;
            return (int) (seed / 65536 % n);
        }
    }

    private static void drawsOfHarvest() {
        DatedJars x = Checks.landOf("harvest 50;house 30 0;house 29 0;");
        String before = Checks.look(x);
        c.refused(x, before, "drift(0)", x.drift(0), OUTSIDE);
        c.refused(x, before, "drift(-5)", x.drift(-5), OUTSIDE);
        c.refused(x, before, "drift(100)", x.drift(100), OUTSIDE);
        int[] seeds = {0, 1, 7, 123456789, 2147483647};
        for (int seed : seeds) {
            x.seed(seed);
            Draws draws = new Draws(seed);
            int due = 0;
            for (int i = 0; i < 99; i++) {
                due += 30 - draws.of(30);
                due += 29 - draws.of(30);
            }
            c.due("drift(99) by seed " + seed, x.drift(99), due);
            c.due("the seed after it", x.seed(0), draws.seed);
        }
        c.due("years passed", x.told(3), 99 * seeds.length);
    }

    private static void jarsThatBurst() {
        for (int seed = 0; seed < 40; seed++) {
            DatedJars x = Checks.landOf("house 0 0;jar plain 0 99 9 2;jar plum 0 99 9 0;jar glass 0 99 9 0;jar plain 0 0 9 0;jar plain 0 99 9 3;");
            x.law(0);
            x.seed(seed);
            Draws draws = new Draws(seed);
            int gone = 8;
            x.open(3);
            int[] keeps = {2, 0, 1000, 0, 3};
            for (int year = 0; year < 12; year++) {
                for (int j = 0; j < 5; j++) {
                    if ((gone >> j & 1) == 0 && year > keeps[j] && draws.of(10) == 0) {
                        gone |= 1 << j;
                    }
                }
                draws.of(30);
                c.due("drift(1) where nobody wants", x.drift(1), 0);
                c.due("seed " + seed + ", gone in year " + year, x.told(7), gone);
            }
            c.due("the seed after it", x.seed(0), draws.seed);
        }
        DatedJars x = Checks.landOf("house 9 3;jar plain 0 0 9 0;");
        x.seed(5);
        x.year(3);
        c.due("years without draws leave the seed", x.seed(0), 5);
    }
}
