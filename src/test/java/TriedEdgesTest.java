/** PLAN, BEST SEALING, CHANGE, BEQUEST, SIEGE, WHEN (promises 15 to 20), sentence by sentence, at their edges. */
public final class TriedEdgesTest {
    private static final Checks c = new Checks("TriedEdgesTest");
    private static final int NONE = DatedJars.NONE, UNKNOWN = DatedJars.UNKNOWN;

    public static void main(String[] args) {
        nothingChangesByIt();
        planOfOneToTwelveYears();
        planAfterALongerOne();
        planLooksAtEightAtMost();
        planOfTheLastNumbers();
        planSealsNothing();
        planCountsStockOnce();
        planByLaw();
        planOfAges();
        planIsTheFirstOfLikeOnes();
        planIsExact();
        sealingOfOneToSixtyYears();
        sealingOfNothingToTwenty();
        sealingOfOneHouse();
        changeOfOneToTwentyYears();
        changeIfBothHungerLess();
        changeOfUnlikeHouses();
        changeOfNoneThatIsGone();
        changeTheFirst();
        changeTwentyAtMost();
        bequestOfEightAtMost();
        bequestToTheOthers();
        bequestOfQuantities();
        bequestIsTheFirstOfLikeOnes();
        bequestOfTheOnlyHouse();
        siegeOfOneToTwentyYears();
        siegeWithoutHarvest();
        siegeFromItsYear();
        agesOfSealedOnesAreTried();
        whenItCosts();
        whenTheGreatestOfLikeOnes();
        c.finish();
    }

    private static DatedJars lived() {
        DatedJars x = Checks.landOf("harvest 22,3,0;house 10 2;house 15 0;jar plain 0 1 6 2;jar plum 1 0 5 3;jar glass 0 4 9 0;jar plain 1 0 4 9;");
        x.seed(7);
        x.year(1);
        x.keep(0);
        x.open(1);
        x.older(0, 1);
        x.write(1, 0);
        Checks.feedText(x, "house 1 ");
        return x;
    }

    /** "TRIED from now, nothing changes by it." */
    private static void nothingChangesByIt() {
        DatedJars x = lived();
        for (int n : new int[] {1, 5, 12}) {
            c.changesNothing("plan", TriedEdgesTest::lived, y -> y.plan(0, n, NONE), x.plan(0, n, NONE));
            c.changesNothing("plan", TriedEdgesTest::lived, y -> y.plan(1, n, n - 1), x.plan(1, n, n - 1));
            c.changesNothing("sealing", TriedEdgesTest::lived, y -> y.sealing(0, 5 * n), x.sealing(0, 5 * n));
            c.changesNothing("siege", TriedEdgesTest::lived, y -> y.siege(n, 1), x.siege(n, 1));
            c.changesNothing("when", TriedEdgesTest::lived, y -> y.when(n, n), x.when(n, n));
        }
        c.changesNothing("bequest", TriedEdgesTest::lived, y -> y.bequest(0, NONE), x.bequest(0, NONE));
        c.changesNothing("bequest of a JAR", TriedEdgesTest::lived, y -> y.bequest(1, 3), x.bequest(1, 3));
        c.changesNothing("change that finds none", TriedEdgesTest::lived, y -> y.change(1), 0);
        c.changesNothing("forged", TriedEdgesTest::lived, DatedJars::forged, x.forged());
        c.changesNothing("judge", TriedEdgesTest::lived, DatedJars::judge, x.judge());
    }

    private static void planIs(DatedJars x, int h, int hunger, int... sets) {
        int n = sets.length;
        c.due("plan(" + h + ", " + n + ", NONE)", x.plan(h, n, NONE), hunger);
        for (int k = 0; k < n; k++) {
            c.due("plan(" + h + ", " + n + ", " + k + ")", x.plan(h, n, k), sets[k]);
        }
    }

    /** "PLAN of a HOUSE for n YEARS (1 .. 12)"; "k = NONE the HUNGER, else the SET of JARS of YEAR k (0 .. n less 1)". */
    private static void planOfOneToTwelveYears() {
        DatedJars x = Checks.landOf("harvest 0,1,2,3,4;house 10 0;house 0 0;jar glass 0 11 5 0;jar glass 1 0 50 0;");
        x.law(1);
        planIs(x, 0, 10, 0);
        planIs(x, 0, 10 + 9, 0, 0);
        planIs(x, 0, 2 * 40 + 10, 0, 0, 0, 0, 0, 0, 0, 0, 0, 0, 0);
        planIs(x, 0, 2 * 40 + 10 + 9 - 5, 0, 0, 0, 0, 0, 0, 0, 0, 0, 0, 0, 1);
        planIs(x, 1, 0, 0, 0, 0, 0, 0, 0, 0, 0, 0, 0, 0, 0);
        x.year(3);
        planIs(x, 0, 7 + 6 + 10, 0, 0, 0);
        DatedJars untold = Checks.landOf("house 12 0;");
        planIs(untold, 0, 2, 0);
        planIs(untold, 0, 24, 0, 0, 0, 0, 0, 0, 0, 0, 0, 0, 0, 0);
    }

    /** What a longer PLAN found is nothing to a shorter one, whether there are JARS or not. */
    private static void planAfterALongerOne() {
        DatedJars x = Checks.landOf("harvest 0;house 5 0;house 5 0;jar glass 1 0 2 0;jar glass 1 9 2 0;");
        for (int n = 12; n >= 1; n--) {
            c.due("plan(0, " + n + ", NONE)", x.plan(0, n, NONE), 5 * n);
            c.due("plan(1, " + n + ", NONE)", x.plan(1, n, NONE), 5 * n - (n > 9 ? 4 : 2));
        }
    }

    /** "8 at most, the least ones, are looked at". */
    private static void planLooksAtEightAtMost() {
        for (int n = 0; n <= 12; n++) {
            DatedJars x = Checks.landOf("harvest 0;house 99 0;" + "jar glass 0 0 8 0;".repeat(n));
            int seen = Math.min(8, n);
            planIs(x, 0, 99 - 8 * seen, (1 << seen) - 1);
        }
        DatedJars x = Checks.landOf("harvest 0;house 99 0;house 99 0;" + "jar glass 1 0 1 0;".repeat(2) + "jar glass 0 0 8 0;".repeat(10));
        planIs(x, 0, 99 - 64, 0x3fc);
        x.give(2, 1);
        planIs(x, 0, 99 - 64, 0x7f8);
        planIs(x, 1, 99 - 10, 0x7);
        x.open(3);
        planIs(x, 0, 99 - 64 - 8, 0xff0);
        x.open(4);
        planIs(x, 0, 99 - 56 - 16, 0xfe0);
    }

    /** Twelve JARS told, twelve sealed: those that are looked at have the numbers 16 to 23. */
    private static void planOfTheLastNumbers() {
        DatedJars x = Checks.landOf("harvest 9;house 5 1;house 10 0;" + "jar glass 0 0 1 0;".repeat(12));
        x.law(1);
        x.year(12);
        c.due("24 JARS", x.told(1), 24);
        for (int j = 16; j < 24; j++) {
            x.give(j, 1);
        }
        x.law(2);
        planIs(x, 1, 0, 0x10000);
        x.law(0);
        x.label(23, 0);
        for (int j = 16; j < 23; j++) {
            x.label(j, 99);
        }
        planIs(x, 1, 0, 0x800000);
    }

    /** "it seals nothing". */
    private static void planSealsNothing() {
        DatedJars x = Checks.landOf("harvest 20,0;house 10 1;");
        planIs(x, 0, 10, 0, 0);
        c.due("in YEARS it would seal", x.year(2), 0);
    }

    /** "STOCK counts in the first YEAR". */
    private static void planCountsStockOnce() {
        for (int stock : new int[] {9, 10, 11, 99}) {
            DatedJars x = Checks.landOf("harvest 0;house 10 5;jar glass 0 0 " + stock + " 0;jar glass 0 0 1 0;");
            x.open(0);
            planIs(x, 0, Math.max(0, 10 - stock - 1), stock < 10 ? 2 : 0);
            planIs(x, 0, stock < 10 ? 10 : 9, 0, 2);
        }
    }

    /** "any of its JARS that MAY be": by the LAW of now, in that YEAR. */
    private static void planByLaw() {
        DatedJars x = Checks.landOf("harvest 0;house 10 0;jar glass 0 1 10 0;");
        planIs(x, 0, 10, 0);
        planIs(x, 0, 10, 0, 1);
        planIs(x, 0, 20, 0, 0, 1);
        x.law(1);
        planIs(x, 0, 20, 0, 1, 0);
        x.law(2);
        planIs(x, 0, 20, 0, 0, 1);
        planIs(x, 0, 0, 1);
        x.law(1);
        x.year(1);
        planIs(x, 0, 10, 1, 0);
        x.label(0, 0);
        planIs(x, 0, 20, 0, 0);
        x.law(0);
        planIs(x, 0, 10, 0, 1);
    }

    /** What is FILLED in that YEAR counts. */
    private static void planOfAges() {
        DatedJars plain = Checks.landOf("harvest 0,9;house 9 0;jar plain 0 0 9 2;");
        planIs(plain, 0, 9, 0, 0, 1);
        planIs(plain, 0, 9, 0, 0, 1, 0);
        plain.year(1);
        c.due("opened in that year", plain.told(7), 1);
        DatedJars later = Checks.landOf("harvest 9,9,9,0;house 9 0;jar plain 0 0 9 2;");
        planIs(later, 0, 5, 0, 0, 0, 1);
        DatedJars plum = Checks.landOf("harvest 0;house 9 0;jar plum 0 0 5 2;");
        planIs(plum, 0, 4, 1);
        planIs(plum, 0, 9 + 3, 0, 1);
        planIs(plum, 0, 18 + 2, 0, 0, 1);
        planIs(plum, 0, 27 + 2, 0, 0, 0, 1);
        planIs(plum, 0, 36 + 2, 0, 0, 0, 0, 1);
    }

    /** "of like ones the first (YEAR by YEAR the lesser SET that is opened)". */
    private static void planIsTheFirstOfLikeOnes() {
        DatedJars x = Checks.landOf("harvest 0;house 4 0;jar glass 0 0 2 0;jar glass 0 0 4 0;jar glass 0 0 2 0;");
        planIs(x, 0, 0, 2);
        planIs(x, 0, 0, 2, 5);
        planIs(x, 0, 4, 0, 2, 5);
        DatedJars more = Checks.landOf("harvest 0;house 4 0;jar glass 0 0 4 0;jar glass 0 0 9 0;");
        planIs(more, 0, 0, 1);
        planIs(more, 0, 0, 1, 2);
        DatedJars enough = Checks.landOf("harvest 4;house 4 0;jar glass 0 0 4 0;");
        planIs(enough, 0, 0, 0, 0);
        // a jar that is filled with nothing changes nothing: it stays
        DatedJars spoilt = Checks.landOf("harvest 0;house 4 0;jar plain 0 1 1 0;");
        planIs(spoilt, 0, 8, 0, 0);
    }

    /** "the least HUNGER together": by taking what is best in each YEAR alone it would not be found. */
    private static void planIsExact() {
        DatedJars x = Checks.landOf("harvest 0;house 10 0;jar glass 0 0 7 0;jar glass 0 0 6 0;jar glass 0 0 4 0;jar glass 0 0 3 0;");
        planIs(x, 0, 0, 6, 9);
        DatedJars y = Checks.landOf("harvest 4,0;house 10 0;jar glass 0 0 10 0;jar glass 0 0 6 0;");
        planIs(y, 0, 0, 2, 1);
    }

    /** "BEST SEALING of a HOUSE for n YEARS (1 .. 60)". */
    private static void sealingOfOneToSixtyYears() {
        // by law 1 what is sealed in year 0 is wanted in year 3; from then on each round again
        DatedJars x = Checks.landOf("harvest 20,10,10,0;house 10 5;");
        x.law(1);
        c.due("sealing(0, 1)", x.sealing(0, 1), 0);
        c.due("sealing(0, 3)", x.sealing(0, 3), 0);
        c.due("sealing(0, 4)", x.sealing(0, 4), 3);
        c.due("sealing(0, 60)", x.sealing(0, 60), 3);
        // hunger in the year 59 alone is met by what is sealed then years ahead: of 60 years, not of 59
        DatedJars y = Checks.landOf("harvest 10;house 10 0;house 0 0;jar glass 0 0 5 0;jar glass 1 99 1 0;");
        c.due("no hunger at all", y.sealing(0, 60), 0);
        DatedJars last = Checks.landOf("harvest 5,5,5,5,0,5,5,5;house 5 0;jar glass 0 0 5 0;" + "jar glass 0 0 5 0;".repeat(7));
        int[] bad = {4, 12, 20, 28, 36, 44, 52};
        for (int i = 0; i < bad.length; i++) {
            last.label(1 + i, bad[i]);
        }
        last.law(1);
        last.year(39);
        last.label(0, 39);
        last.open(0);
        c.due("bad years 44 and 52 have their jars, 60 is too far", last.sealing(0, 60), 0);
        last.label(6, 99);
        c.due("without the one of year 44", last.sealing(0, 60), 5);
        c.due("sealing(0, 6)", last.sealing(0, 6), 5);
        c.due("sealing(0, 5): it is not among these", last.sealing(0, 5), 0);
    }

    /** "S of 0 to 20 by which its HUNGER in these YEARS is least; of like ones the least". */
    private static void sealingOfNothingToTwenty() {
        for (int bad = 1; bad <= 22; bad++) {
            DatedJars x = Checks.landOf("harvest 0;house 5 9;jar glass 0 0 10 0;");
            x.open(0);
            x.law(1);
            // in each year but the first it hungers, whatever S is, but for the year that S tells
            c.due("of like ones the least, " + bad + " years", x.sealing(0, bad), bad == 1 ? 0 : 1);
        }
        // a house with a jar for each year up to 'bad': only there what is sealed is wanted
        for (int bad : new int[] {1, 2, 7}) {
            StringBuilder text = new StringBuilder("harvest 5");
            for (int t = 1; t < 8; t++) {
                text.append(t == bad ? ",0" : ",5");
            }
            DatedJars x = Checks.landOf(text + ";house 5 0;jar glass 0 0 5 0;");
            x.open(0);
            x.law(1);
            c.due("by LAW 1, year " + bad, x.sealing(0, bad + 1), bad);
            x.law(0);
            c.due("by LAW 0, year " + bad, x.sealing(0, bad + 1), 1);
            x.law(2);
            c.due("by LAW 2, year " + bad, x.sealing(0, bad + 1), 1);
            c.due("one year less", x.sealing(0, bad), 0);
        }
        DatedJars far = Checks.landOf("harvest 5,5,5,5,0,5,5,5;house 5 0;jar glass 0 4 5 0;jar glass 0 12 5 0;jar glass 0 0 5 0;");
        far.law(1);
        far.open(2);
        c.due("S of 20", far.sealing(0, 21), 20);
        DatedJars farther = Checks.landOf("harvest 5,5,5,5,5,0,5,5;house 5 0;jar glass 0 5 5 0;jar glass 0 13 5 0;jar glass 0 0 5 0;");
        farther.law(1);
        farther.open(2);
        c.due("21 would be best: no S does it", farther.sealing(0, 22), 0);
    }

    private static void sealingOfOneHouse() {
        DatedJars x = Checks.landOf("harvest 20,0;house 20 3;house 10 0;");
        c.due("who has nothing left", x.sealing(0, 60), 0);
        c.due("who has", x.sealing(1, 60), 1);
        c.due("S is as it was", x.house(0, 1), 3);
        c.due("S of the other, too", x.house(1, 1), 0);
        DatedJars full = Checks.landOf("harvest 9;house 8 20;" + "jar glass 0 90 1 0;".repeat(12));
        full.year(12);
        full.seals(0, 0);
        c.due("24 JARS: nothing can be sealed", full.sealing(0, 60), 0);
        c.due("24 JARS still", full.told(1), 24);
    }

    private static DatedJars twoThatCanChange(int late) {
        DatedJars x = Checks.landOf("harvest 0;house 5 0;house 5 0;jar glass 0 0 5 0;jar glass 0 0 5 0;"
            + "jar glass 1 " + late + " 5 0;jar glass 1 " + late + " 5 0;");
        x.law(1);
        return x;
    }

    /** "in the next n YEARS (1 .. 20)". */
    private static void changeOfOneToTwentyYears() {
        c.due("wanted in the 20th year: change(20)", twoThatCanChange(19).change(20), 1);
        c.due("wanted in the 20th year: change(19)", twoThatCanChange(19).change(19), 0);
        c.due("wanted in the 21st year: change(20)", twoThatCanChange(20).change(20), 0);
        c.due("wanted in the second year: change(2)", twoThatCanChange(1).change(2), 1);
        c.due("wanted in the second year: change(1)", twoThatCanChange(1).change(1), 0);
        // in one year: what each has would do for the other
        DatedJars x = Checks.landOf("harvest 0;house 9 0;house 9 0;jar glass 0 0 3 0;jar glass 0 0 9 0;jar glass 1 0 8 0;");
        c.due("change(1) with one that has no HUNGER", x.change(1), 0);
        DatedJars later = twoThatCanChange(5);
        later.label(0, 3);
        later.label(1, 3);
        later.year(3);
        c.due("from now: 5 is in the third year", later.change(2), 0);
        c.due("from now, three years", later.change(3), 1);
    }

    /** "change owners, if HUNGER of both .. is less by that". */
    private static void changeIfBothHungerLess() {
        DatedJars x = twoThatCanChange(1);
        c.due("change(2)", x.change(2), 1);
        int[] owners = {1, 0, 0, 1};
        for (int j = 0; j < 4; j++) {
            c.due("whose " + j + " is then", x.jar(j, 1), owners[j]);
        }
        c.due("as long as there is one: there is none", x.change(2), 0);
        // house 1 gains, house 0 is as it was: not both
        DatedJars alike = Checks.landOf("harvest 0;house 5 0;house 5 0;jar glass 0 0 5 0;jar glass 1 0 4 0;jar glass 0 0 4 0;jar glass 1 0 9 0;");
        c.due("no HUNGER that could be less", alike.change(1), 0);
        // house 1 hungers as much as ever in year 1, house 0 less in year 0: not both, whose number is the lesser too
        String[] owners01 = {"jar glass 0 0 1 0;jar glass 1 0 5 0;", "jar glass 1 0 5 0;jar glass 0 0 1 0;"};
        for (String jars : owners01) {
            DatedJars still = Checks.landOf("harvest 5,0;house 10 0;house 5 0;" + jars);
            still.law(1);
            c.due("HUNGER of one less, of the other as it was: " + jars, still.change(2), 0);
            still.law(0);
            c.due("by LAW 0 the other one would eat it in year 1: " + jars, still.change(2), 0);
        }
        // together they would have less, one more
        DatedJars one = Checks.landOf("harvest 0;house 9 0;house 4 0;jar glass 0 0 3 0;jar glass 1 0 9 0;");
        c.due("one would have more", one.change(1), 0);
    }

    /** "two JARS of unlike HOUSES". */
    private static void changeOfUnlikeHouses() {
        DatedJars alone = Checks.landOf("harvest 0;house 5 0;jar glass 0 0 5 0;jar glass 0 1 5 0;");
        c.due("the only HOUSE", alone.change(5), 0);
        DatedJars none = Checks.landOf("harvest 0;house 5 0;house 5 0;");
        c.due("no JARS", none.change(5), 0);
        DatedJars oneSide = Checks.landOf("harvest 0;house 5 0;house 5 0;jar glass 0 0 5 0;jar glass 0 1 5 0;");
        c.due("JARS of one HOUSE alone", oneSide.change(5), 0);
        // jars of the houses 3 and 2
        DatedJars x = Checks.landOf("harvest 0;house 0 0;house 0 0;house 5 0;house 5 0;jar glass 3 0 5 0;jar glass 3 0 5 0;jar glass 2 1 5 0;jar glass 2 1 5 0;");
        x.law(1);
        c.due("the last two HOUSES", x.change(2), 1);
        c.due("JAR 0", x.jar(0, 1), 2);
        c.due("JAR 2", x.jar(2, 1), 3);
    }

    /** "neither GONE". */
    private static void changeOfNoneThatIsGone() {
        DatedJars x = twoThatCanChange(1);
        x.open(0);
        c.due("the STOCK feeds house 0: the other one can be changed", x.change(2), 1);
        c.due("the GONE one stays", x.jar(0, 1), 0);
        c.due("the next one is changed", x.jar(1, 1), 1);
        x = twoThatCanChange(1);
        x.open(0);
        x.open(1);
        c.due("both are GONE", x.change(2), 0);
    }

    /** "the first (the lesser JAR, then the other one)". */
    private static void changeTheFirst() {
        // three houses: 0 and 1 would be better off by (0, 3), 0 and 2 by (0, 2)
        DatedJars x = Checks.landOf("harvest 0;house 5 0;house 5 0;house 5 0;jar glass 0 0 5 0;jar glass 0 0 5 0;"
            + "jar glass 2 1 5 0;jar glass 1 1 5 0;jar glass 1 1 5 0;jar glass 2 1 5 0;");
        x.law(1);
        c.due("change(2)", x.change(2), 1);
        int[] owners = {2, 0, 0, 1, 1, 2};
        for (int j = 0; j < owners.length; j++) {
            c.due("whose " + j + " is then", x.jar(j, 1), owners[j]);
        }
        // a second change comes of the first: 1 has two of year 1, 0 two of year 0, 2 two of year 2
        DatedJars y = Checks.landOf("harvest 0;house 5 0;house 5 0;house 5 0;jar glass 0 0 5 0;jar glass 0 0 5 0;jar glass 0 0 5 0;"
            + "jar glass 1 1 5 0;jar glass 1 1 5 0;jar glass 1 1 5 0;jar glass 2 2 5 0;jar glass 2 2 5 0;jar glass 2 2 5 0;");
        y.law(1);
        c.due("change(3)", y.change(3), 3);
        int[] then = {1, 2, 0, 0, 2, 1, 0, 1, 2};
        for (int j = 0; j < then.length; j++) {
            c.due("whose " + j + " is after three", y.jar(j, 1), then[j]);
        }
        c.due("nobody hungers then", y.year(3), 0);
    }

    /** "as long as there is one, 20 at most: how many." */
    private static void changeTwentyAtMost() {
        DatedJars x = Checks.landOf("harvest 99,99,99,12,8,33,30,24;house 34 20;house 97 20;house 39 20;house 88 20;"
            + "jar plain 2 6 70 18;jar plum 0 5 49 4;jar glass 1 22 51 9;jar plum 2 13 55 0;jar plum 0 10 5 9;jar plum 3 15 5 13;"
            + "jar plain 3 14 73 0;jar glass 2 21 37 2;jar plum 3 12 2 12;jar plain 2 15 4 1;jar glass 2 9 84 16;jar plain 0 8 5 14;");
        x.year(3);
        int[] owners = {2, 3, 0, 0, 1, 1, 3, 1, 0, 3, 3, 0};
        int[] dates = {18, 21, 13, 3, 4, 16, 9, 15, 10, 4, 16, 13};
        for (int h = 0; h < 4; h++) {
            x.seals(h, 0);
        }
        for (int i = 0; i < 12; i++) {
            x.give(12 + i, owners[i]);
            x.label(12 + i, dates[i]);
        }
        c.due("20 at most", x.change(20), 20);
        c.due("there were more", x.change(20), 2);
        c.due("then none", x.change(20), 0);
    }

    private static DatedJars withJars(int houses, int... much) {
        StringBuilder text = new StringBuilder("house 0 0;".repeat(houses));
        for (int q : much) {
            text.append("jar glass 0 0 ").append(q).append(" 0;");
        }
        return Checks.landOf(text.toString());
    }

    private static void bequestIs(DatedJars x, int h, int differ, int... heirs) {
        c.due("bequest(" + h + ", NONE)", x.bequest(h, NONE), differ);
        for (int j = 0; j < heirs.length; j++) {
            c.due("bequest(" + h + ", " + j + ")", x.bequest(h, j), heirs[j]);
        }
    }

    /** "its JARS (8 at most, the least ones, the others are left)"; "NONE: it is not of these". */
    private static void bequestOfEightAtMost() {
        bequestIs(withJars(3, 5, 5, 5, 5, 5, 5, 5), 0, 5, 1, 1, 1, 1, 2, 2, 2);
        bequestIs(withJars(3, 5, 5, 5, 5, 5, 5, 5, 5), 0, 0, 1, 1, 1, 1, 2, 2, 2, 2);
        bequestIs(withJars(3, 5, 5, 5, 5, 5, 5, 5, 5, 99), 0, 0, 1, 1, 1, 1, 2, 2, 2, 2, NONE);
        DatedJars x = withJars(3, 5, 5, 5, 5, 5, 5, 5, 5, 35, 99);
        x.open(0);
        // seven of 5 and one of 35: 35 each
        bequestIs(x, 0, 0, NONE, 1, 1, 1, 1, 1, 1, 1, 2, NONE);
        x.give(3, 1);
        bequestIs(x, 0, 34, NONE, 1, 1, NONE, 1, 1, 1, 1, 1, 2);
        bequestIs(x, 1, 5, NONE, NONE, NONE, 0, NONE, NONE, NONE, NONE, NONE, NONE);
        // two, three and three of them: 99 and 98 are 197, of the others the most even are 284 and 283
        bequestIs(withJars(4, 99, 98, 97, 96, 95, 94, 93, 92), 0, 87, 1, 1, 2, 3, 2, 3, 3, 2);
    }

    /** "dealt to the other HOUSES so that the sums of Q differ least (the greatest less the least)". */
    private static void bequestToTheOthers() {
        bequestIs(withJars(2, 7, 1), 0, 0, 1, 1);
        bequestIs(withJars(3, 7), 0, 7, 1);
        bequestIs(withJars(4, 7), 0, 7, 1);
        bequestIs(withJars(4, 7, 6), 0, 7, 1, 2);
        bequestIs(withJars(4, 7, 6, 5), 0, 2, 1, 2, 3);
        bequestIs(withJars(4, 1, 2, 3, 4, 5, 6), 0, 0, 1, 2, 3, 3, 2, 1);
        bequestIs(withJars(4), 0, 0);
        bequestIs(withJars(4, 9), 3, 0, NONE);
        DatedJars x = withJars(4, 9, 8, 7);
        for (int j = 0; j < 3; j++) {
            x.give(j, 3);
        }
        bequestIs(x, 3, 2, 0, 1, 2);
        x.give(1, 2);
        x.give(0, 2);
        bequestIs(x, 2, 9, 0, 1, NONE);
        c.due("a JAR that there is not", x.bequest(3, 3), UNKNOWN);
        c.due("a JAR of another one", x.bequest(3, 0), NONE);
    }

    /** The sums are of Q, not of what is FILLED, and of what is dealt alone. */
    private static void bequestOfQuantities() {
        DatedJars x = Checks.landOf("house 0 0;house 0 0;house 0 0;jar plum 0 99 5 9;jar plain 0 99 5 0;jar glass 1 0 90 0;");
        x.year(5);
        c.due("FILLED of the plum one", x.jar(0, 6), 10);
        c.due("FILLED of the plain one", x.jar(1, 6), 2);
        bequestIs(x, 0, 0, 1, 2, NONE);
    }

    /** "of like ones the first (JAR by JAR the lesser HOUSE)". */
    private static void bequestIsTheFirstOfLikeOnes() {
        bequestIs(withJars(3, 4, 4), 0, 0, 1, 2);
        bequestIs(withJars(3, 1, 2, 3), 0, 0, 1, 1, 2);
        bequestIs(withJars(3, 3, 2, 1), 0, 0, 1, 2, 2);
        bequestIs(withJars(4, 2, 2, 1, 1, 2), 0, 1, 1, 2, 1, 2, 3);
        bequestIs(withJars(4, 3, 3, 3), 0, 0, 1, 2, 3);
        DatedJars x = withJars(4, 6, 6);
        x.give(0, 1);
        x.give(1, 1);
        bequestIs(x, 1, 6, 0, 2);
    }

    /** "NONE: it is the only HOUSE." */
    private static void bequestOfTheOnlyHouse() {
        DatedJars x = withJars(1, 5, 5);
        bequestIs(x, 0, NONE, NONE, NONE);
        c.due("a JAR that there is not", x.bequest(0, 2), UNKNOWN);
        c.due("a HOUSE that there is not", x.bequest(1, NONE), UNKNOWN);
        c.due("without JARS", withJars(1).bequest(0, NONE), NONE);
        c.due("of two it is told", withJars(2).bequest(0, NONE), 0);
    }

    /** "SIEGE of n YEARS (1 .. 20)"; "k 0 .. n". */
    private static void siegeOfOneToTwentyYears() {
        DatedJars x = Checks.landOf("harvest 99;house 10 1;house 99 20;jar glass 0 99 7 0;");
        for (int n = 1; n <= 20; n++) {
            for (int k = 0; k <= n; k++) {
                c.due("siege(" + n + ", " + k + ")", x.siege(n, k), 109 * n - (k < n ? 7 : 0));
            }
        }
    }

    /** "no HARVEST, nothing is sealed". */
    private static void siegeWithoutHarvest() {
        DatedJars x = Checks.landOf("harvest 99;house 5 1;jar glass 0 0 20 0;");
        x.open(0);
        c.due("STOCK counts in the first year", x.siege(1, 1), 0);
        c.due("what is left of it is not sealed", x.siege(2, 2), 5);
        c.due("nor by breaking the law", x.siege(20, 0), 95);
        DatedJars untold = Checks.landOf("house 5 1;");
        c.due("not the 10 untold either", untold.siege(3, 0), 15);
        DatedJars wantless = Checks.landOf("house 0 1;");
        c.due("who wants nothing", wantless.siege(20, 20), 0);
    }

    /** "from its YEAR k on (0 the first) all MAY be opened (n: never)". */
    private static void siegeFromItsYear() {
        // by law 1 the jar of year 4 alone; from k on both, the least date first
        DatedJars x = Checks.landOf("harvest 0;house 10 0;jar plain 0 5 9 3;jar plain 0 4 8 2;");
        x.law(1);
        x.year(2);
        c.due("never", x.siege(4, 4), 40 - 4 - 4);
        c.due("from 3 on: the one of 4 went in its year", x.siege(4, 3), 40 - 4 - 4);
        c.due("from 2 on: both at once", x.siege(4, 2), 40 - 4 - 4);
        c.due("from 1 on: 4 and 9 in one year, of which 10 are wanted", x.siege(4, 1), 40 - 10);
        c.due("from 0 on", x.siege(4, 0), 40 - 10);
        c.due("of one year, never", x.siege(1, 1), 10);
        c.due("of one year, from 0 on", x.siege(1, 0), 0);
        c.due("LAW is as it was", x.told(4), 1);
        x.law(2);
        c.due("by LAW 2 it is so from 0 on, never as well", x.siege(4, 4), 40 - 10);
    }

    /** What was sealed later than in year 0 has its own AGE in what is tried, whatever was tried ahead of it. */
    private static void agesOfSealedOnesAreTried() {
        DatedJars x = Checks.landOf("harvest 10,10,10,30,10,10,10,10;house 10 20;");
        x.year(4);
        c.due("sealed in year 3", x.jar(0, 5), 1);
        c.due("from the first year on: 20", x.siege(6, 0), 60 - 10);
        c.due("in year 8 it keeps", x.siege(5, 4), 50 - 10);
        x.year(4);
        c.due("AGE 5", x.jar(0, 5), 5);
        x.seals(0, 0);
        c.due("all of it", x.siege(1, 0), 0);
        x.label(0, 8);
        planIs(x, 0, 0, 0);
        x.year(1);
        c.due("AGE 6", x.jar(0, 5), 6);
        c.due("half of it", x.jar(0, 6), 10);
        // a plain one of 20 sealed in year 3, wanted whole: only by its own AGE it is half in year 9
        DatedJars y = Checks.landOf("harvest 10,10,10,30,0,0,0,0;house 10 6;");
        y.law(1);
        y.year(4);
        y.label(0, 8);
        c.due("tried ahead: year 8 is the fifth", y.siege(5, 5), 40);
        y.label(0, 9);
        c.due("year 9 is the sixth: half is just enough", y.siege(6, 6), 50);
        DatedJars less = Checks.landOf("harvest 10,10,10,28,0,0,0,0;house 10 6;");
        less.law(1);
        less.year(4);
        less.label(0, 8);
        c.due("18 in year 8", less.siege(5, 5), 40);
        less.label(0, 9);
        c.due("9 in year 9", less.siege(6, 6), 51);
    }

    /** "if that costs C (0 .. 999) once: k of 0 to n by which HUNGER and C (not for n) are least". */
    private static void whenItCosts() {
        DatedJars x = Checks.landOf("harvest 50;house 10 0;jar glass 0 99 10 0;");
        for (int n : new int[] {1, 2, 20}) {
            c.due("when(" + n + ", 0)", x.when(n, 0), n - 1);
            c.due("when(" + n + ", 9)", x.when(n, 9), n - 1);
            c.due("when(" + n + ", 10): as dear as never", x.when(n, 10), n);
            c.due("when(" + n + ", 11)", x.when(n, 11), n);
            c.due("when(" + n + ", 999)", x.when(n, 999), n);
        }
        String houses = "house 99 0;".repeat(4);
        DatedJars dear = Checks.landOf(houses + "jar glass 0 99 99 0;jar glass 1 99 99 0;jar glass 2 99 99 0;jar glass 3 99 99 0;".repeat(3));
        c.due("1188 by three years of four houses", dear.siege(20, 20) - dear.siege(20, 17), 1188);
        c.due("when(20, 999) pays", dear.when(20, 999), 17);
        DatedJars just = Checks.landOf(houses + "jar glass 0 99 99 0;jar glass 1 99 99 0;".repeat(5) + "jar glass 2 99 9 0;");
        c.due("999", just.siege(20, 20) - just.siege(20, 15), 999);
        c.due("when(20, 999) is as dear as never", just.when(20, 999), 20);
        c.due("when(20, 998) pays", just.when(20, 998), 15);
    }

    /** "of like ones the greatest". */
    private static void whenTheGreatestOfLikeOnes() {
        DatedJars nothing = Checks.landOf("house 10 0;");
        c.due("no JARS: never", nothing.when(20, 0), 20);
        c.due("no JARS, one year", nothing.when(1, 0), 1);
        DatedJars x = Checks.landOf("harvest 0;house 10 0;jar plain 0 99 10 3;");
        c.due("of 0 to 3 all alike", x.when(10, 0), 3);
        DatedJars first = Checks.landOf("harvest 0;house 10 0;jar plain 0 99 10 0;");
        c.due("in the first year alone", first.when(10, 4), 0);
        c.due("so that half would do as well", first.when(10, 5), 0);
        c.due("as dear as never", first.when(10, 10), 10);
        DatedJars two = Checks.landOf("harvest 0;house 10 0;" + "jar glass 0 99 10 0;".repeat(2));
        c.due("the last two years", two.when(10, 0), 8);
        c.due("one less than both", two.when(10, 19), 8);
        c.due("both", two.when(10, 20), 10);
    }
}
