import java.math.BigInteger;

/** The document's part 2, BY DRAWS, and promises 5 to 14, sentence by sentence, at their edges. */
public final class YearEdgesTest {
    private static final Checks c = new Checks("YearEdgesTest");
    private static final int NOT = DatedJars.NOT;
    private static final long ROUND = 1L << 31;

    public static void main(String[] args) {
        harvestsComeRound();
        ageOfJars();
        plainKeeps();
        plumRipens();
        glassStays();
        halvesAreCut();
        lawsAroundTheDate();
        aHouseOpensIfItMust();
        aHouseOpensAllThereAre();
        theLeastDateThenTheLeastJar();
        onlyItsOwnJars();
        hungerIsWhatIsMissing();
        whatIsLeftAboveWant();
        ninetyNineAtMost();
        sealsFor();
        whoOpenedSealsNothing();
        fewerThanTwentyFour();
        aSealedJar();
        stockIsNothingThen();
        theYearIsOneMore();
        toOpenByHand();
        upToNinetyNineYears();
        hungerSoFarAtMost();
        toldOfGone();
        aGivenJar();
        aLabelledJar();
        drawsAreLeftOver();
        harvestsByDraws();
        burstsByDraws();
        burstsAboveKeeps();
        whatCannotBurst();
        c.finish();
    }

    /** "THE HARVEST of year t is number t of those told, left over by how many they are". */
    private static void harvestsComeRound() {
        int[] told = {9, 8, 7, 6, 5, 4, 3, 2};
        StringBuilder text = new StringBuilder("house 20 0;house 30 0;harvest 9");
        for (int n = 1; n <= 8; n++) {
            DatedJars x = Checks.landOf(text + ";");
            for (int t = 0; t < 3 * n + 1; t++) {
                c.due(n + " told, year " + t + ": told(5)", x.told(5), told[t % n]);
                c.due(n + " told, year " + t + ": each HOUSE has so much", x.year(1), 50 - 2 * told[t % n]);
            }
            x.year(99);
            c.due(n + " told, a hundred years on", x.told(5), told[(3 * n + 100) % n]);
            text.append(',').append(n < 8 ? told[n] : 0);
        }
    }

    /** "AGE of a JAR: THE YEAR less the year in which it was sealed (0 of those told)". */
    private static void ageOfJars() {
        DatedJars x = Checks.landOf("harvest 3;house 2 9;jar glass 0 99 5 0;");
        for (int year = 0; year <= 12; year++) {
            c.due("AGE of one told", x.jar(0, 5), year);
            for (int j = 1; j <= year; j++) {
                c.due("AGE of one sealed in year " + (j - 1), x.jar(j, 5), year - (j - 1));
            }
            x.year(1);
        }
    }

    private static DatedJars inYear(String text, int year) {
        DatedJars x = Checks.landOf(text);
        for (int left = year; left > 0; left -= 99) {
            x.year(Math.min(left, 99));
        }
        return x;
    }

    /** "plain: Q, Q / 2 if AGE is above KEEPS". */
    private static void plainKeeps() {
        for (int keeps : new int[] {0, 1, 7, 99}) {
            for (int year : new int[] {0, keeps, keeps + 1, keeps + 2, 300}) {
                DatedJars x = inYear("house 0 0;jar plain 0 0 80 " + keeps + ";", year);
                int due = year > keeps ? 40 : 80;
                c.due("plain, KEEPS " + keeps + ", AGE " + year + ": FILLED", x.jar(0, 6), due);
                c.due("plain, KEEPS " + keeps + ", AGE " + year + ": Q stays", x.jar(0, 3), 80);
                c.due("plain, KEEPS " + keeps + ", AGE " + year + ": open", x.open(0), due);
            }
        }
    }

    /** "plum: Q and AGE (KEEPS at most)". */
    private static void plumRipens() {
        for (int keeps : new int[] {0, 1, 7, 99}) {
            for (int year : new int[] {0, Math.max(0, keeps - 1), keeps, keeps + 1, 300}) {
                DatedJars x = inYear("house 0 0;jar plum 0 0 99 " + keeps + ";", year);
                int due = 99 + (year > keeps ? keeps : year);
                c.due("plum, KEEPS " + keeps + ", AGE " + year + ": FILLED", x.jar(0, 6), due);
                c.due("plum, KEEPS " + keeps + ", AGE " + year + ": open", x.open(0), due);
                c.due("plum, KEEPS " + keeps + ", AGE " + year + ": STOCK", x.house(0, 2), due);
            }
        }
    }

    /** "glass: Q". */
    private static void glassStays() {
        for (int year : new int[] {0, 1, 2, 3, 300}) {
            DatedJars x = inYear("house 0 0;jar glass 0 0 99 2;jar glass 0 0 1 0;", year);
            c.due("glass, AGE " + year, x.jar(0, 6), 99);
            c.due("glass of 1, AGE " + year, x.open(1), 1);
        }
    }

    /** "All numbers are whole; / cuts towards 0." */
    private static void halvesAreCut() {
        int[] much = {1, 2, 3, 98, 99};
        int[] half = {0, 1, 1, 49, 49};
        for (int i = 0; i < much.length; i++) {
            DatedJars x = inYear("house 0 0;jar plain 0 0 " + much[i] + " 0;", 1);
            c.due("half of " + much[i], x.jar(0, 6), half[i]);
            c.due("half of " + much[i] + " opened", x.open(0), half[i]);
            c.due("half of " + much[i] + " in STOCK", x.house(0, 2), half[i]);
            c.due("half of " + much[i] + ": it is GONE, also with nothing in it", x.told(7), 1);
        }
    }

    /** "LAW 0 (at first): in the year of its DATE and later; LAW 1: in that year alone; LAW 2: in any year." */
    private static void lawsAroundTheDate() {
        int[][] may = {{0, 1, 1}, {0, 1, 0}, {1, 1, 1}};
        for (int date : new int[] {0, 1, 50, 99}) {
            for (int law = 0; law <= 2; law++) {
                for (int off = date == 0 ? 0 : -1; off <= 1; off++) {
                    DatedJars x = inYear("harvest 0;house 0 0;jar glass 0 " + date + " 7 0;", date + off);
                    String what = "LAW " + law + ", DATE " + date + ", year " + (date + off);
                    int due = may[law][off + 1];
                    c.due(what + ": LAW was", x.law(law), 0);
                    c.due(what + ": house(0, 4)", x.house(0, 4), due);
                    c.due(what + ": open", x.open(0), due == 1 ? 7 : NOT);
                    c.due(what + ": GONE", x.told(7), due);
                }
            }
        }
        for (int law = 0; law <= 2; law++) {
            for (int date = 0; date <= 2; date++) {
                DatedJars x = Checks.landOf("harvest 0;house 7 0;jar glass 0 " + date + " 7 0;");
                x.law(2);
                x.label(0, 99);
                x.law(1);
                x.year(1);
                x.label(0, date);
                x.law(law);
                c.due("a YEAR by LAW " + law + ", DATE " + date + ", year 1", x.year(1), 7 - 7 * may[law][2 - date]);
            }
        }
    }

    /** "As long as that is less than its WANT, it opens". */
    private static void aHouseOpensIfItMust() {
        // harvest 10, then jars of 1: so many are opened as WANT is above it
        for (int want = 9; want <= 15; want++) {
            DatedJars x = Checks.landOf("harvest 10;house " + want + " 0;" + "jar glass 0 0 1 0;".repeat(4));
            int opened = Math.max(0, Math.min(4, want - 10));
            c.due("WANT " + want + ": HUNGER", x.year(1), Math.max(0, want - 14));
            c.due("WANT " + want + ": GONE", x.told(7), (1 << opened) - 1);
        }
        DatedJars x = Checks.landOf("harvest 4;house 9 0;jar glass 0 0 5 0;jar glass 0 0 5 0;");
        x.open(0);
        c.due("STOCK that is just enough", x.year(1), 0);
        c.due("nothing more is opened", x.told(7), 1);
        x = Checks.landOf("harvest 4;house 10 0;jar glass 0 0 5 0;jar glass 0 0 5 0;");
        x.open(0);
        c.due("STOCK of one too little", x.year(1), 0);
        c.due("the other one is opened", x.told(7), 3);
        x = Checks.landOf("harvest 0;house 0 0;jar glass 0 0 5 0;");
        c.due("WANT of 0", x.year(99), 0);
        c.due("WANT of 0 opens nothing", x.told(7), 0);
        x = Checks.landOf("harvest 0;house 99 0;" + "jar plum 0 0 9 0;".repeat(11) + "jar plum 0 1 9 0;");
        c.due("all that MAY be", x.year(1), 0);
        c.due("all but the last", x.told(7), 0x7ff);
    }

    /** Twelve JARS told and twelve sealed, all of one HOUSE, and it opens every one in one YEAR. */
    private static void aHouseOpensAllThereAre() {
        DatedJars x = Checks.landOf("harvest 1;house 99 0;" + "house 0 20;".repeat(3) + "jar glass 1 0 1 0;".repeat(12));
        c.due("HUNGER until there are 24", x.year(4), 4 * 98);
        c.due("JARS", x.told(1), 24);
        c.due("none GONE", x.told(7), 0);
        for (int j = 0; j < 24; j++) {
            x.give(j, 0);
        }
        x.law(2);
        c.due("HUNGER in a siege of one YEAR", x.siege(1, 1), 99 - 24);
        c.due("HUNGER with all", x.year(1), 99 - 1 - 24);
        c.due("all GONE", x.told(7), (1 << 24) - 1);
    }

    /** "the first (the least DATE, of like ones the least JAR)". */
    private static void theLeastDateThenTheLeastJar() {
        int[] dates = {3, 1, 2, 1, 0, 3};
        int[] order = {4, 1, 3, 2, 0, 5};
        StringBuilder text = new StringBuilder("harvest 0;house 1 0;");
        for (int date : dates) {
            text.append("jar glass 0 ").append(date).append(" 1 0;");
        }
        DatedJars x = Checks.landOf(text.toString());
        x.law(2);
        int gone = 0;
        for (int j : order) {
            c.due("one a year", x.year(1), 0);
            gone |= 1 << j;
            c.due("the first is " + j, x.told(7), gone);
        }
        c.due("then there are none", x.year(1), 1);
        x = Checks.landOf("harvest 0;house 3 0;jar glass 0 9 3 0;jar glass 0 0 3 0;");
        x.year(1);
        c.due("a lesser JAR that MAY not be is not the first", x.told(7), 2);
    }

    private static void onlyItsOwnJars() {
        DatedJars x = Checks.landOf("harvest 0;house 5 0;house 5 0;jar glass 1 0 5 0;jar glass 1 0 5 0;");
        c.due("a HOUSE without JARS", x.year(1), 5);
        c.due("the other one opened one", x.told(7), 1);
        x.give(1, 0);
        c.due("a JAR that was given", x.year(1), 5);
        c.due("it was opened by whose it is", x.told(7), 3);
    }

    /** "What is missing then is HUNGER". */
    private static void hungerIsWhatIsMissing() {
        DatedJars x = Checks.landOf("harvest 9;house 9 0;house 10 0;house 11 0;house 99 0;");
        c.due("HUNGER of all", x.year(1), 0 + 1 + 2 + 90);
        c.due("HUNGER so far", x.told(6), 93);
        x = Checks.landOf("harvest 99;house 0 0;house 99 0;");
        c.due("what is above is not counted against it", x.year(99), 0);
        x = Checks.landOf("harvest 99,0;house 99 0;house 99 0;house 99 0;house 99 0;");
        c.due("as much as can be", x.year(2), 396);
    }

    /** "what is left above WANT is sealed". */
    private static void whatIsLeftAboveWant() {
        for (int harvest = 19; harvest <= 22; harvest++) {
            DatedJars x = Checks.landOf("harvest " + harvest + ";house 20 3;");
            c.due("harvest " + harvest, x.year(1), Math.max(0, 20 - harvest));
            c.due("harvest " + harvest + ": JARS", x.told(1), harvest > 20 ? 1 : 0);
            c.due("harvest " + harvest + ": Q", x.jar(0, 3), harvest > 20 ? harvest - 20 : DatedJars.UNKNOWN);
        }
    }

    /** "so much (99 at most)". */
    private static void ninetyNineAtMost() {
        for (int stock = 0; stock <= 3; stock++) {
            DatedJars x = Checks.landOf("harvest 98;house 0 3;" + "jar glass 0 0 1 0;".repeat(3));
            for (int j = 0; j < stock; j++) {
                x.open(j);
            }
            x.year(1);
            c.due(98 + stock + " above WANT", x.jar(3, 3), Math.min(99, 98 + stock));
        }
    }

    /** "SEALS for S years, 0 .. 20; 0: it seals nothing"; "DATE THE YEAR and S". */
    private static void sealsFor() {
        for (int s : new int[] {0, 1, 19, 20}) {
            DatedJars x = Checks.landOf("harvest 9;house 5 " + s + ";");
            x.year(2);
            c.due("S " + s + ": JARS", x.told(1), s == 0 ? 0 : 2);
            for (int j = 0; j < 2; j++) {
                c.due("S " + s + ": DATE", x.jar(j, 2), s == 0 ? DatedJars.UNKNOWN : j + s);
            }
        }
        DatedJars x = Checks.landOf("harvest 9;house 5 0;");
        c.due("seals(0, 20)", x.seals(0, 20), 0);
        x.year(1);
        c.due("seals(0, 0)", x.seals(0, 0), 20);
        x.year(1);
        c.due("seals(0, 1)", x.seals(0, 1), 0);
        x.year(1);
        c.due("two were sealed", x.told(1), 2);
        c.due("by 20", x.jar(0, 2), 20);
        c.due("by 1", x.jar(1, 2), 3);
    }

    /** "if it did not open any JAR in this YEAR". */
    private static void whoOpenedSealsNothing() {
        DatedJars x = Checks.landOf("harvest 9;house 10 1;house 9 1;house 8 1;jar glass 0 0 50 0;jar glass 1 0 50 0;");
        c.due("year(1)", x.year(1), 0);
        c.due("only who had more than WANT without opening", x.told(1), 3);
        c.due("that is house 2", x.jar(2, 1), 2);
        c.due("only who had less opened", x.told(7), 1);
        x = Checks.landOf("harvest 9,20;house 10 1;jar glass 0 0 50 0;");
        x.year(1);
        c.due("none in the year of the opening", x.told(1), 1);
        x.year(1);
        c.due("but in the next", x.told(1), 2);
        c.due("without what was left in the year ahead", x.jar(1, 3), 10);
        x = Checks.landOf("harvest 9;house 10 1;jar glass 0 0 50 0;");
        x.open(0);
        x.year(1);
        c.due("opened by hand is not opened in the YEAR", x.jar(1, 3), 49);
    }

    /** "there are fewer than 24 JARS (gone ones, too)". */
    private static void fewerThanTwentyFour() {
        DatedJars x = Checks.landOf("harvest 9;house 8 20;" + "jar glass 0 0 1 0;".repeat(12));
        x.year(11);
        c.due("23 JARS", x.told(1), 23);
        x.year(1);
        c.due("the 24th", x.told(1), 24);
        c.due("its Q", x.jar(23, 3), 1);
        c.due("its set", x.house(0, 3), 0xffffff);
        x.year(50);
        c.due("no 25th", x.told(1), 24);
        c.due("no JAR 24", x.jar(24, 0), DatedJars.UNKNOWN);
        x.law(2);
        for (int j = 0; j < 24; j++) {
            x.open(j);
        }
        c.due("all GONE", x.told(7), 0xffffff);
        x.year(1);
        c.due("gone ones count", x.told(1), 24);
        c.due("what was left is not in STOCK", x.house(0, 2), 0);
        // two places are left for three houses: the first two in order have them
        DatedJars y = Checks.landOf("harvest 9;house 8 20;house 8 20;house 8 20;house 9 20;" + "jar glass 3 0 1 0;".repeat(10));
        y.year(4);
        c.due("22 JARS", y.told(1), 22);
        y.year(1);
        c.due("24 JARS", y.told(1), 24);
        c.due("the first", y.jar(22, 1), 0);
        c.due("the second", y.jar(23, 1), 1);
    }

    /** "a new plain JAR of that HOUSE, sealed now, DATE THE YEAR and S, so much, KEEPS 5". */
    private static void aSealedJar() {
        DatedJars x = Checks.landOf("harvest 10,25,10;house 10 0;house 12 4;");
        x.year(2);
        int[] due = {0, 1, 5, 13, 5, 1, 13, 0};
        for (int what = 0; what < due.length; what++) {
            c.due("jar(0, " + what + ")", x.jar(0, what), due[what]);
        }
        x.law(1);
        x.label(0, 9999);
        x.year(4);
        c.due("AGE 5", x.jar(0, 5), 5);
        c.due("it KEEPS 5", x.jar(0, 6), 13);
        x.year(1);
        c.due("AGE 6", x.jar(0, 5), 6);
        c.due("then half of it", x.jar(0, 6), 6);
    }

    /** "STOCK is 0 then." */
    private static void stockIsNothingThen() {
        DatedJars x = Checks.landOf("harvest 1;house 50 0;house 2 0;house 1 5;house 3 0;"
            + "jar glass 0 0 9 0;jar glass 1 0 9 0;jar glass 2 0 9 0;jar glass 3 0 2 0;");
        for (int j = 0; j < 4; j++) {
            x.open(j);
            c.due("STOCK of " + j, x.house(j, 2), j < 3 ? 9 : 2);
        }
        c.due("year(1)", x.year(1), 40);
        for (int h = 0; h < 4; h++) {
            c.due("STOCK of " + h + " then", x.house(h, 2), 0);
        }
        c.due("only who SEALS sealed it", x.jar(4, 3), 9);
        c.due("the next year has none of it", x.year(1), 49 + 1 + 0 + 2);
    }

    /** "THE YEAR is one more." */
    private static void theYearIsOneMore() {
        DatedJars x = Checks.landOf("house 1 0;");
        c.due("YEARS are counted from 0", x.told(3), 0);
        x.year(1);
        c.due("year(1)", x.told(3), 1);
        x.year(99);
        c.due("year(99)", x.told(3), 100);
        x.drift(1);
        c.due("drift(1)", x.told(3), 101);
        x.drift(99);
        c.due("drift(99)", x.told(3), 200);
        x.year(100);
        x.drift(0);
        c.due("refused ones pass none", x.told(3), 200);
    }

    /** "what is FILLED comes to its HOUSE's STOCK"; "UNKNOWN, NOT: it is GONE; it MAY not be." */
    private static void toOpenByHand() {
        DatedJars x = Checks.landOf("harvest 0;house 9 0;house 9 0;jar glass 1 0 99 0;jar plum 1 0 98 0;jar plain 0 1 5 0;");
        c.due("open(0)", x.open(0), 99);
        c.due("open(1)", x.open(1), 98);
        c.due("both in STOCK", x.house(1, 2), 197);
        c.due("not in the other's", x.house(0, 2), 0);
        c.changesNothing("a GONE one", YearEdgesTest::oneOpened, y -> y.open(0), NOT);
        c.changesNothing("one that MAY not be", YearEdgesTest::oneOpened, y -> y.open(2), NOT);
        c.changesNothing("one that there is not", YearEdgesTest::oneOpened, y -> y.open(3), DatedJars.UNKNOWN);
        x.give(2, 1);
        x.law(2);
        c.due("open(2)", x.open(2), 5);
        c.due("to whom it was given", x.house(1, 2), 202);
        for (int j = 0; j < 3; j++) {
            c.due("GONE: " + j, x.jar(j, 7), 1);
        }
        c.due("GONE ones are nobody's to open", x.house(1, 4), 0);
    }

    private static DatedJars oneOpened() {
        DatedJars x = Checks.landOf("harvest 0;house 9 0;jar glass 0 0 9 0;jar glass 0 0 9 0;jar glass 0 1 9 0;");
        x.open(0);
        return x;
    }

    /** "n YEARS (1 .. 99): HUNGER of all in these." */
    private static void upToNinetyNineYears() {
        DatedJars x = Checks.landOf("harvest 1,2,3;house 9 0;");
        c.due("year(1)", x.year(1), 8);
        c.due("year(99): not what was ahead of these", x.year(99), 33 * (8 + 7 + 6));
        c.due("HUNGER so far", x.told(6), 8 + 33 * 21);
        DatedJars one = Checks.landOf("harvest 1,2,3;house 9 3;house 3 3;jar plum 0 4 9 9;");
        DatedJars each = Checks.landOf("harvest 1,2,3;house 9 3;house 3 3;jar plum 0 4 9 9;");
        int together = 0;
        for (int i = 0; i < 99; i++) {
            together += each.year(1);
        }
        c.due("year(99) is year(1) so often", one.year(99), together);
        c.same("year(99) and year(1) so often", Checks.look(one), Checks.look(each));
        one.seed(5);
        each.seed(5);
        together = 0;
        for (int i = 0; i < 99; i++) {
            together += each.drift(1);
        }
        c.due("drift(99) is drift(1) so often", one.drift(99), together);
        c.same("drift(99) and drift(1) so often", Checks.look(one), Checks.look(each));
        c.due("the seed, too", one.seed(0), each.seed(0));
    }

    /** "HUNGER so far (999999999 at most)": only far behind the 512th call, so nothing is promised there. */
    private static void hungerSoFarAtMost() {
        DatedJars x = Checks.landOf("harvest 0;house 99 0;house 99 0;house 99 0;house 99 0;");
        int each = 99 * 4 * 99;
        int calls = 999999999 / each;
        for (int i = 0; i < calls; i++) {
            x.year(99);
        }
        c.due("just below", x.told(6), calls * each);
        c.due("HUNGER of these", x.year(99), each);
        c.due("at most", x.told(6), 999999999);
        c.due("HUNGER of these", x.year(99), each);
        c.due("no more", x.told(6), 999999999);
    }

    /** "7 JARS that are GONE (a SET)"; "its JARS (a SET; GONE ones not)". */
    private static void toldOfGone() {
        DatedJars x = Checks.landOf("harvest 0;house 0 0;house 0 0;" + "jar glass 0 0 1 0;jar glass 1 1 1 0;".repeat(6));
        c.due("none is GONE", x.told(7), 0);
        c.due("JARS of 0", x.house(0, 3), 0x555);
        c.due("JARS of 1", x.house(1, 3), 0xaaa);
        c.due("that MAY be, of 0", x.house(0, 4), 0x555);
        c.due("that MAY be, of 1", x.house(1, 4), 0);
        x.open(10);
        x.open(0);
        c.due("GONE", x.told(7), 0x401);
        c.due("JARS of 0 then", x.house(0, 3), 0x154);
        c.due("that MAY be then", x.house(0, 4), 0x154);
        c.due("JARS, GONE ones too", x.told(1), 12);
        c.due("whose a GONE one was", x.jar(10, 1), 0);
    }

    /** "A JAR becomes a HOUSE's: whose it was. UNKNOWN, NOT: it is GONE." */
    private static void aGivenJar() {
        DatedJars x = Checks.landOf("house 0 0;house 0 0;house 0 0;house 0 0;jar glass 0 0 1 0;jar glass 0 0 1 0;");
        c.due("give(0, 3)", x.give(0, 3), 0);
        c.due("give(0, 3) to whose it is", x.give(0, 3), 3);
        c.due("give(0, 0)", x.give(0, 0), 3);
        c.due("the other one stays", x.jar(1, 1), 0);
        c.changesNothing("a GONE one", YearEdgesTest::oneOpened, y -> y.give(0, 0), NOT);
    }

    /** "The DATE of a JAR becomes v (0 .. 9999): what it was. UNKNOWN, OUTSIDE, NOT: it is GONE." */
    private static void aLabelledJar() {
        DatedJars x = Checks.landOf("harvest 0;house 5 0;jar glass 0 7 5 0;");
        c.due("label(0, 9999)", x.label(0, 9999), 7);
        c.due("label(0, 0)", x.label(0, 0), 9999);
        c.due("DATE 0", x.jar(0, 2), 0);
        c.due("it MAY be now", x.year(1), 0);
        c.changesNothing("a GONE one", YearEdgesTest::oneOpened, y -> y.label(0, 9999), NOT);
        // behind a hundred years of 99 the year is the greatest DATE that a label can have
        DatedJars far = Checks.landOf("harvest 0;house 5 0;jar glass 0 99 5 0;");
        far.label(0, 9999);
        for (int i = 0; i < 101; i++) {
            far.year(99);
        }
        c.due("year 9999", far.told(3), 9999);
        c.due("it is there still", far.told(7), 0);
        c.due("in its year it is opened", far.year(1), 0);
        c.due("in the next there is none", far.year(1), 5);
    }

    private static long next(long seed) {
        return (seed * 1103515245L + 12345L) % ROUND;
    }

    /** The seed whose next one is this. */
    private static int ahead(long next) {
        BigInteger round = BigInteger.valueOf(ROUND);
        BigInteger back = BigInteger.valueOf(1103515245L).modInverse(round);
        return BigInteger.valueOf(next - 12345L).multiply(back).mod(round).intValueExact();
    }

    /** "it becomes it times 1103515245 and 12345, left over by 2 to the 31; the DRAW of n is it / 65536, left over by n". */
    private static void drawsAreLeftOver() {
        DatedJars x = Checks.landOf("house 30 0;");
        long[] reached = {0, 1, 65535, 65536, 29 * 65536, 30 * 65536 - 1, 30 * 65536, ROUND - 65537, ROUND - 65536, ROUND - 1};
        int[] draws = {0, 0, 0, 1, 29, 29, 0, 32766 % 30, 32767 % 30, 32767 % 30};
        for (int i = 0; i < reached.length; i++) {
            int seed = ahead(reached[i]);
            c.due("the seed ahead of " + reached[i], next(seed), reached[i]);
            x.seed(seed);
            c.due("a DRAW of 30 as it becomes " + reached[i], x.drift(1), 30 - draws[i]);
            c.due("it became " + reached[i], Checks.seedOf(x), reached[i]);
        }
        int[] seeds = {0, 1, 2, 3, 65536, 1073741824, 2147483646, 2147483647};
        for (int seed : seeds) {
            x.seed(seed);
            x.drift(1);
            c.due("the seed behind " + seed, Checks.seedOf(x), next(seed));
        }
        DatedJars untouched = Checks.landOf("house 30 0;");
        c.due("0 at first", untouched.drift(1), 30);
        c.due("then 12345", untouched.seed(0), 12345);
    }

    /** "then THE HARVEST of that YEAR is a DRAW of 30 for each HOUSE in its turn". */
    private static void harvestsByDraws() {
        DatedJars x = Checks.landOf("harvest 99;house 99 0;house 99 0;house 99 0;house 99 0;");
        long seed = 123;
        x.seed(123);
        for (int year = 0; year < 20; year++) {
            int due = 0;
            for (int h = 0; h < 4; h++) {
                seed = next(seed);
                due += 99 - (int) (seed / 65536 % 30);
            }
            c.due("HUNGER in year " + year, x.drift(1), due);
        }
        c.due("the seed", x.seed(0), seed);
        // which house has which draw: the second has none left above its want of 29 at most
        DatedJars y = Checks.landOf("house 0 9;house 29 9;");
        y.seed(ahead(17 * 65536));
        y.drift(1);
        c.due("the first DRAW is house 0's", y.jar(0, 3), 17);
        c.due("its own", y.jar(0, 1), 0);
        c.due("one was sealed", y.told(1), 1);
        DatedJars z = Checks.landOf("house 0 9;");
        z.seed(ahead(30 * 65536));
        z.drift(1);
        c.due("a DRAW of 0 leaves nothing to seal", z.told(1), 0);
        c.due("THE HARVEST that is told is told still", z.told(5), 10);
    }

    /** "it bursts (GONE), if a DRAW of 10 is 0". */
    private static void burstsByDraws() {
        long[] reached = {0, 65535, 65536, 9 * 65536 + 65535, 10 * 65536, 11 * 65536 - 1, 11 * 65536, ROUND - 1};
        int[] gone = {1, 1, 0, 0, 1, 1, 0, 0};
        for (int i = 0; i < reached.length; i++) {
            DatedJars x = Checks.landOf("house 0 0;jar plain 0 99 9 0;");
            x.year(1);
            x.seed(ahead(reached[i]));
            x.drift(1);
            c.due("a DRAW of 10 as it becomes " + reached[i], x.told(7), gone[i]);
            c.due("nothing comes of it", x.house(0, 2), 0);
            c.due("one DRAW and one for the house", x.seed(0), next(reached[i]));
        }
        // it bursts ahead of the year: the house that would open it hungers
        DatedJars hungry = Checks.landOf("harvest 0;house 39 0;jar glass 0 99 9 0;jar plain 0 1 80 0;");
        hungry.year(1);
        hungry.seed(ahead(0));
        c.due("HUNGER", hungry.drift(1), 39 - (int) (next(0) / 65536 % 30));
        c.due("GONE", hungry.told(7), 2);
    }

    /** "whose AGE is above KEEPS". */
    private static void burstsAboveKeeps() {
        for (String kind : new String[] {"plain", "plum"}) {
            for (int keeps : new int[] {0, 1, 5, 99}) {
                for (int age = Math.max(0, keeps - 1); age <= keeps + 1; age++) {
                    DatedJars x = inYear("house 0 0;jar " + kind + " 0 99 9 " + keeps + ";", age);
                    x.seed(ahead(0));
                    x.drift(1);
                    String what = kind + ", KEEPS " + keeps + ", AGE " + age;
                    c.due(what + ": GONE", x.told(7), age > keeps ? 1 : 0);
                    c.due(what + ": THE SEED", x.seed(0), age > keeps ? next(0) : 0);
                }
            }
        }
        // each year ahead of it: of two years only the second is above
        DatedJars x = Checks.landOf("house 0 0;jar plum 0 99 9 0;");
        x.seed(ahead(ahead(0)));
        x.drift(1);
        c.due("year 0: none", x.told(7), 0);
        x.seed(ahead(ahead(0)));
        x.year(1);
        c.due("a YEAR without draws bursts none", x.told(7), 0);
        x = Checks.landOf("house 0 0;jar plum 0 99 9 0;");
        x.seed(ahead(ahead(0)));
        x.drift(2);
        c.due("drift(2): in its second year", x.told(7), 1);
    }

    /** "each JAR that is not GONE .. (glass never), in order". */
    private static void whatCannotBurst() {
        DatedJars x = Checks.landOf("house 0 0;jar glass 0 99 9 0;jar plain 0 0 9 0;jar plum 0 99 9 99;jar plain 0 99 9 0;jar plum 0 99 9 0;");
        x.open(1);
        x.year(1);
        x.seed(ahead(0));
        x.drift(1);
        long second = next(0);
        boolean both = second / 65536 % 10 == 0;
        c.due("the first that can has the first DRAW", x.told(7), 2 + 8 + (both ? 16 : 0));
        c.due("three DRAWS", x.seed(0), next(next(0)));
        DatedJars order = Checks.landOf("house 0 0;jar plum 0 99 9 0;jar plain 0 99 9 0;");
        order.year(1);
        int seed = ahead(ahead(0));
        boolean firstToo = next(seed) / 65536 % 10 == 0;
        order.seed(seed);
        order.drift(1);
        c.due("the second has the second DRAW", order.told(7), 2 + (firstToo ? 1 : 0));
        DatedJars glass = Checks.landOf("house 0 0;jar glass 0 99 9 0;");
        for (int i = 0; i < 3; i++) {
            glass.drift(99);
        }
        c.due("glass never", glass.told(7), 0);
    }
}
