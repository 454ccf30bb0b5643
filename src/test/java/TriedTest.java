/** Promises 15 to 20: plan, sealing, change, bequest, siege, when. */
public final class TriedTest {
    private static final Checks c = new Checks("TriedTest");
    private static final int NONE = DatedJars.NONE, UNKNOWN = DatedJars.UNKNOWN, OUTSIDE = DatedJars.OUTSIDE;

    public static void main(String[] args) {
        plans();
        planIsTheFirstOfLikeOnes();
        planLooksAtEight();
        planByLawAndStock();
        planRefuses();
        sealings();
        changes();
        changeNeedsBothBetter();
        bequestRefuses();
        bequestsToThree();
        bequestsToOneAndNone();
        bequestLooksAtEight();
        siegeRefuses();
        sieges();
        whenToBreakTheLaw();
        c.finish();
    }

    private static void planIs(DatedJars x, int h, int n, int hunger, int... sets) {
        String before = Checks.look(x);
        c.due("plan(" + h + ", " + n + ", NONE)", x.plan(h, n, NONE), hunger);
        for (int k = 0; k < sets.length; k++) {
            c.due("plan(" + h + ", " + n + ", " + k + ")", x.plan(h, n, k), sets[k]);
        }
        c.same("what is so, by plans of " + n + " years", Checks.look(x), before);
    }

    private static void plans() {
        // by need alone the great jar would go first: better is the small one now
        DatedJars x = Checks.landOf("harvest 7,0;house 10 5;jar glass 0 0 10 0;jar glass 0 0 3 0;");
        planIs(x, 0, 1, 0, 1);
        planIs(x, 0, 2, 0, 2, 1);
        planIs(x, 0, 3, 3, 0, 1, 2);
        // a plain one is opened while it keeps, a plum one when it is ripe
        DatedJars y = Checks.landOf("harvest 0;house 8 0;jar plum 0 0 5 3;jar plain 0 0 8 1;");
        planIs(y, 0, 4, 16, 0, 2, 0, 1);
        planIs(y, 0, 2, 2, 2, 1);
        // all that is above the want is lost
        DatedJars z = Checks.landOf("harvest 10;house 5 5;jar plain 0 0 8 1;");
        planIs(z, 0, 12, 0, 0, 0, 0, 0, 0, 0, 0, 0, 0, 0, 0, 0);
    }

    private static void planIsTheFirstOfLikeOnes() {
        DatedJars x = Checks.landOf("harvest 0;house 4 0;jar glass 0 0 4 0;jar glass 0 0 4 0;jar glass 0 0 4 0;");
        planIs(x, 0, 4, 4, 0, 1, 2, 4);
        planIs(x, 0, 3, 0, 1, 2, 4);
        planIs(x, 0, 2, 0, 1, 2);
        DatedJars y = Checks.landOf("harvest 0;house 4 0;house 4 0;jar glass 1 0 4 0;jar glass 0 0 2 0;jar glass 1 0 4 0;jar glass 0 0 2 0;");
        planIs(y, 0, 2, 4, 0, 10);
        planIs(y, 1, 2, 0, 1, 4);
    }

    private static void planLooksAtEight() {
        StringBuilder text = new StringBuilder("harvest 0;house 50 0;house 0 0;jar glass 1 0 1 0;");
        for (int j = 1; j <= 10; j++) {
            text.append("jar glass 0 0 ").append(j).append(" 0;");
        }
        DatedJars x = Checks.landOf(text.toString());
        planIs(x, 0, 1, 50 - 36, 0x1fe);
        x.law(2);
        x.open(1);
        x.year(1);
        c.due("all of 0 went in that year", x.house(0, 3), 0);
        x = Checks.landOf(text.toString());
        x.open(3);
        x.give(5, 1);
        planIs(x, 0, 1, 50 - 3 - (1 + 2 + 4 + 6 + 7 + 8 + 9 + 10), 0x7d6);
    }

    private static void planByLawAndStock() {
        DatedJars x = Checks.landOf("harvest 1;house 9 0;jar glass 0 1 6 0;jar glass 0 0 6 0;");
        planIs(x, 0, 3, 2 + 2 + 8, 0, 1, 2);
        x.law(1);
        planIs(x, 0, 3, 2 + 2 + 8, 2, 1, 0);
        x.law(2);
        planIs(x, 0, 1, 0, 3);
        x.law(0);
        x.open(1);
        planIs(x, 0, 3, 2 + 8 + 2, 0, 0, 1);
        DatedJars y = Checks.landOf("harvest 1,2,3;house 9 0;");
        y.year(2);
        planIs(y, 0, 2, 6 + 8, 0, 0);
    }

    private static void planRefuses() {
        DatedJars x = Checks.landOf("house 9 0;jar glass 0 1 6 0;");
        String before = Checks.look(x);
        c.refused(x, before, "plan(1, 1, 0)", x.plan(1, 1, 0), UNKNOWN);
        c.refused(x, before, "plan(-1, 0, 0): UNKNOWN first", x.plan(-1, 0, 0), UNKNOWN);
        c.refused(x, before, "plan(0, 0, NONE)", x.plan(0, 0, NONE), OUTSIDE);
        c.refused(x, before, "plan(0, 13, NONE)", x.plan(0, 13, NONE), OUTSIDE);
        c.refused(x, before, "plan(0, 3, 3)", x.plan(0, 3, 3), OUTSIDE);
        c.refused(x, before, "plan(0, 3, -2)", x.plan(0, 3, -2), OUTSIDE);
        c.refused(x, before, "plan(0, 12, 11)", x.plan(0, 12, 11), 0);
    }

    private static void sealings() {
        // 20 above want every third year, 10 wanted in each
        DatedJars x = Checks.landOf("harvest 30,0,0;house 10 0;");
        String before = Checks.look(x);
        c.refused(x, before, "sealing(1, 5)", x.sealing(1, 5), UNKNOWN);
        c.refused(x, before, "sealing(-1, 0): UNKNOWN first", x.sealing(-1, 0), UNKNOWN);
        c.refused(x, before, "sealing(0, 0)", x.sealing(0, 0), OUTSIDE);
        c.refused(x, before, "sealing(0, 61)", x.sealing(0, 61), OUTSIDE);
        c.refused(x, before, "sealing(0, 1): all alike", x.sealing(0, 1), 0);
        c.refused(x, before, "sealing(0, 3): one year is met by any", x.sealing(0, 3), 1);
        c.refused(x, before, "sealing(0, 60)", x.sealing(0, 60), 1);
        x.law(1);
        c.due("by law 1 it must come in a year without harvest", x.sealing(0, 60), 1);
        DatedJars y = Checks.landOf("harvest 30,10,10,0;house 10 1;");
        y.law(1);
        c.due("sealing for the one bad year", y.sealing(0, 4), 3);
        y.law(0);
        c.due("by law 0 each S up to it does", y.sealing(0, 4), 1);
        // hunger in the years 4, 12, 20, jars for the first two of them, a stock to seal now
        DatedJars far = Checks.landOf("harvest 5,5,5,5,0,5,5,5;house 5 0;jar glass 0 4 5 0;jar glass 0 12 5 0;jar glass 0 0 5 0;");
        far.law(1);
        far.open(2);
        c.due("S of 20", far.sealing(0, 21), 20);
        c.due("S of 0: the year 20 is not among these", far.sealing(0, 20), 0);
        DatedJars z = Checks.landOf("harvest 20,0;house 20 0;house 10 7;");
        c.due("a house that has nothing left", z.sealing(0, 60), 0);
        c.due("S stays as it was", z.house(1, 1), 7);
    }

    private static void changes() {
        DatedJars x = Checks.landOf("harvest 0;house 10 0;house 4 0;jar glass 0 0 4 0;jar glass 1 5 10 0;jar glass 1 0 1 0;");
        String before = Checks.look(x);
        c.refused(x, before, "change(0)", x.change(0), OUTSIDE);
        c.refused(x, before, "change(-1)", x.change(-1), OUTSIDE);
        c.refused(x, before, "change(21)", x.change(21), OUTSIDE);
        c.refused(x, before, "change(5) betters none", x.change(5), 0);
        // 0 and 1 better each other in either of two ways: the first jars are taken
        DatedJars y = Checks.landOf("harvest 0;house 3 0;house 3 0;house 0 0;jar glass 2 0 9 0;"
                + "jar glass 1 1 3 0;jar glass 0 0 3 0;jar glass 1 1 3 0;jar glass 0 0 3 0;");
        y.law(1);
        c.due("change(2)", y.change(2), 1);
        int[] owners = {2, 0, 1, 1, 0};
        for (int j = 0; j < owners.length; j++) {
            c.due("whose is " + j, y.jar(j, 1), owners[j]);
        }
    }

    private static void changeNeedsBothBetter() {
        // together they would hunger less if the 3 and the 9 were changed, but house 1 would not
        DatedJars x = Checks.landOf("harvest 0,2;house 9 0;house 3 0;jar plain 0 0 1 9;jar glass 0 0 3 0;jar glass 1 0 9 0;");
        c.due("hunger without a change", hungerOf(x, 1), 5);
        c.due("none is better off without the other's loss", x.change(1), 0);
        // by law 1 house 0 can eat in year 0 alone, house 1 in year 1 alone
        DatedJars y = Checks.landOf("harvest 0;house 5 0;house 5 0;jar glass 0 0 5 0;jar glass 0 0 5 0;jar glass 1 1 5 0;jar glass 1 1 5 0;");
        y.law(1);
        c.due("hunger of both", hungerOf(y, 2), 10);
        c.due("change(2)", y.change(2), 1);
        c.due("jar 0 is 1's", y.jar(0, 1), 1);
        c.due("jar 2 is 0's", y.jar(2, 1), 0);
        c.due("jar 1 stays", y.jar(1, 1), 0);
        c.due("jar 3 stays", y.jar(3, 1), 1);
        c.due("hunger of both now", hungerOf(y, 2), 0);
        c.due("change(2) again", y.change(2), 0);
        c.due("the year stays", y.told(3), 0);
        DatedJars least = Checks.landOf("harvest 0;house 1 0;house 1 0;jar glass 0 0 1 0;jar glass 0 0 1 0;jar glass 1 1 1 0;jar glass 1 1 1 0;");
        least.law(1);
        c.due("a hunger of 1 each", least.change(2), 1);
        // in one year alone only 1 gains
        DatedJars z = Checks.landOf("harvest 0;house 5 0;house 5 0;jar glass 0 0 5 0;jar glass 0 0 5 0;jar glass 1 1 5 0;jar glass 1 1 5 0;");
        z.law(1);
        c.due("change(1)", z.change(1), 0);
        z.open(0);
        c.due("a gone one is not changed, the next one is", z.change(2), 1);
        c.due("jar 0 is 0's still", z.jar(0, 1), 0);
        c.due("jar 1 is 1's", z.jar(1, 1), 1);
        c.due("jar 2 is 0's", z.jar(2, 1), 0);
    }

    /** Hunger of all in the next n years, by going back after them. */
    private static int hungerOf(DatedJars x, int n) {
        x.keep(1);
        int hunger = x.year(n);
        x.goBack(1);
        return hunger;
    }

    private static void bequestRefuses() {
        DatedJars x = fourHouses();
        String before = Checks.look(x);
        c.refused(x, before, "bequest(4, NONE)", x.bequest(4, NONE), UNKNOWN);
        c.refused(x, before, "bequest(-1, NONE)", x.bequest(-1, NONE), UNKNOWN);
        c.refused(x, before, "bequest(1, 6)", x.bequest(1, 6), UNKNOWN);
        c.refused(x, before, "bequest(1, -2)", x.bequest(1, -2), UNKNOWN);
    }

    private static DatedJars fourHouses() {
        DatedJars x = Checks.landOf("house 1 0;house 1 0;house 1 0;house 1 0;"
                + "jar plain 1 0 8 0;jar plain 1 0 5 0;jar glass 0 0 90 0;jar plum 1 0 4 9;jar plain 1 0 3 0;jar plain 1 0 50 0;");
        x.open(5);
        return x;
    }

    private static void bequestsToThree() {
        DatedJars x = fourHouses();
        String before = Checks.look(x);
        // 8 | 5 and 3 | 4 differ by 4, but 8 | 5 | 4 and 3 by 3
        c.refused(x, before, "bequest(1, NONE)", x.bequest(1, NONE), 3);
        int[] heirs = {0, 2, NONE, 3, 3, NONE};
        for (int j = 0; j < heirs.length; j++) {
            c.due("bequest(1, " + j + ")", x.bequest(1, j), heirs[j]);
        }
        c.due("one jar to three", x.bequest(0, NONE), 90);
        c.due("the first of them", x.bequest(0, 2), 1);
        c.due("no jars", x.bequest(2, NONE), 0);
        c.due("not of these", x.bequest(2, 0), NONE);
    }

    private static void bequestsToOneAndNone() {
        DatedJars two = Checks.landOf("house 1 0;house 1 0;jar plain 1 0 8 0;jar plain 1 0 5 0;");
        c.due("one heir", two.bequest(1, NONE), 0);
        c.due("all to it", two.bequest(1, 1), 0);
        DatedJars alone = Checks.landOf("house 1 0;jar plain 0 0 8 0;");
        c.due("the only house", alone.bequest(0, NONE), NONE);
        c.due("the only house, a jar", alone.bequest(0, 0), NONE);
        c.due("the only house, no jar: UNKNOWN first", alone.bequest(0, 1), UNKNOWN);
        c.due("no house", alone.bequest(1, 0), UNKNOWN);
    }

    private static void bequestLooksAtEight() {
        StringBuilder text = new StringBuilder("house 0 0;house 0 0;house 0 0;");
        int[] much = {1, 2, 4, 8, 16, 32, 64, 3, 99, 98};
        for (int q : much) {
            text.append("jar plain 2 0 ").append(q).append(" 0;");
        }
        DatedJars x = Checks.landOf(text.toString());
        // 130 in all: 65 each
        c.due("bequest(2, NONE)", x.bequest(2, NONE), 0);
        int[] heirs = {0, 1, 1, 1, 1, 1, 0, 1, NONE, NONE};
        for (int j = 0; j < heirs.length; j++) {
            c.due("bequest(2, " + j + ")", x.bequest(2, j), heirs[j]);
        }
        x.open(6);
        // without the 64 the ninth comes in: 1, 2, 4, 8, 16, 32, 3, 99 differ by 33
        c.due("bequest(2, NONE) of the next eight", x.bequest(2, NONE), 99 - 66);
        c.due("the ninth is dealt", x.bequest(2, 8), 1);
        c.due("the tenth is not", x.bequest(2, 9), NONE);
        c.due("a gone one is not", x.bequest(2, 6), NONE);
    }

    private static DatedJars besieged() {
        return Checks.landOf("harvest 50;house 6 5;house 4 5;jar glass 0 2 6 0;jar glass 0 0 1 0;jar plain 1 9 8 0;");
    }

    private static void siegeRefuses() {
        DatedJars x = besieged();
        String before = Checks.look(x);
        c.refused(x, before, "siege(0, 0)", x.siege(0, 0), OUTSIDE);
        c.refused(x, before, "siege(21, 0)", x.siege(21, 0), OUTSIDE);
        c.refused(x, before, "siege(3, 4)", x.siege(3, 4), OUTSIDE);
        c.refused(x, before, "siege(3, -1)", x.siege(3, -1), OUTSIDE);
    }

    private static void sieges() {
        DatedJars x = besieged();
        String before = Checks.look(x);
        c.refused(x, before, "siege(3, 3)", x.siege(3, 3), 5 + 6 + 0 + 4 + 4 + 4);
        c.refused(x, before, "siege(3, 2)", x.siege(3, 2), 5 + 6 + 0 + 4 + 4 + 0);
        c.refused(x, before, "siege(3, 0)", x.siege(3, 0), 0 + 6 + 6 + 0 + 4 + 4);
        c.refused(x, before, "siege(1, 1)", x.siege(1, 1), 5 + 4);
        c.refused(x, before, "siege(20, 20)", x.siege(20, 20), 200 - 7 - 4);
        x.open(1);
        c.due("the stock counts", x.siege(1, 1), 5 + 4);
        x.law(2);
        c.due("by law 2 it is broken already", x.siege(3, 3), 0 + 6 + 6 + 0 + 4 + 4);
        // what is left above want is not sealed in a siege
        DatedJars y = Checks.landOf("harvest 0;house 3 1;jar glass 0 0 9 0;");
        y.open(0);
        c.due("a stock above want", y.siege(2, 2), 3);
        c.due("but in years it is", hungerOf(y, 2), 0);
    }

    private static void whenToBreakTheLaw() {
        DatedJars x = Checks.landOf("harvest 50;house 6 5;jar glass 0 9 6 0;jar plain 0 9 8 0;");
        String before = Checks.look(x);
        c.refused(x, before, "when(0, 0)", x.when(0, 0), OUTSIDE);
        c.refused(x, before, "when(21, 0)", x.when(21, 0), OUTSIDE);
        c.refused(x, before, "when(3, -1)", x.when(3, -1), OUTSIDE);
        c.refused(x, before, "when(3, 1000)", x.when(3, 1000), OUTSIDE);
        // never: 18; from 2: 12; from 1 on the 6 and the spoilt 4 are eaten; from 0 on likewise
        c.due("siege from 2", x.siege(3, 2), 12);
        c.due("siege from 1", x.siege(3, 1), 6 + 0 + 2);
        c.due("siege from 0", x.siege(3, 0), 0 + 2 + 6);
        c.refused(x, before, "when(3, 0): of like ones the greatest", x.when(3, 0), 1);
        c.refused(x, before, "when(3, 9)", x.when(3, 9), 1);
        c.refused(x, before, "when(3, 10): as dear as never", x.when(3, 10), 3);
        c.refused(x, before, "when(3, 999)", x.when(3, 999), 3);
        c.refused(x, before, "when(20, 0): the law would do", x.when(20, 0), 20);
    }
}
