/** GLASS, FORGED, THE BOOK, THE SEED, IMAGES (promises 21 to 28), sentence by sentence, at their edges. */
public final class BookEdgesTest {
    private static final Checks c = new Checks("BookEdgesTest");
    private static final int NONE = DatedJars.NONE, UNKNOWN = DatedJars.UNKNOWN, OUTSIDE = DatedJars.OUTSIDE;
    private static final int NOT = DatedJars.NOT, FULL = DatedJars.FULL;

    public static void main(String[] args) {
        glassTellsTwelveAtMost();
        glassTellsOfTwo();
        itsDateShouldBeLess();
        theFewest();
        theLeastSet();
        asManyAsCanBe();
        forgedOfGoneOnes();
        forgedOfNoneAnyMore();
        thirtyOpenings();
        yearsOfTheBook();
        wrongInThatYear();
        wrongAsItIsNoJarAnyMore();
        wrongAsOpenedAhead();
        wrongAsTheYearIsLess();
        theFirstWrong();
        tearBoth();
        boundsOfTheSeed();
        imagesOfTwoNumbers();
        whatAnImageKeeps();
        anImageKeepsWhenJarsWereSealed();
        whatAnImageDoesNotKeep();
        anImageStays();
        imagesAreTwo();
        anImageBecomesAnother();
        imagesAreGoneByLand();
        c.finish();
    }

    private static DatedJars jarsOfDates(int... dates) {
        StringBuilder text = new StringBuilder("harvest 0;house 0 0;");
        for (int date : dates) {
            text.append("jar glass 0 ").append(date).append(" 1 0;");
        }
        return Checks.landOf(text.toString());
    }

    /** Twelve JARS told, twelve sealed, all of the same DATE. */
    private static DatedJars twentyFour(int date) {
        DatedJars x = Checks.landOf("harvest 9;house 8 20;" + "jar glass 0 90 1 0;".repeat(12));
        x.year(12);
        x.seals(0, 0);
        for (int j = 0; j < 24; j++) {
            x.label(j, date);
        }
        return x;
    }

    private static DatedJars toldTwelve() {
        DatedJars x = jarsOfDates(1, 2, 3);
        for (int i = 0; i < 12; i++) {
            x.older(i % 2, 2);
        }
        return x;
    }

    /** "GLASS tells (12 at most)"; "how much it told"; "FULL (12)". */
    private static void glassTellsTwelveAtMost() {
        DatedJars x = jarsOfDates(1, 2, 3);
        for (int i = 1; i <= 12; i++) {
            c.due("older no. " + i, x.older(i % 2, 2), i);
            c.due("told(8)", x.told(8), i);
        }
        c.changesNothing("older no. 13", BookEdgesTest::toldTwelve, y -> y.older(0, 1), FULL);
        c.changesNothing("older no. 13, one twice", BookEdgesTest::toldTwelve, y -> y.older(0, 0), UNKNOWN);
        c.changesNothing("older no. 13, none such", BookEdgesTest::toldTwelve, y -> y.older(0, 3), UNKNOWN);
        c.due("tear()", x.tear(), 12);
        c.due("older after it", x.older(2, 0), 1);
        c.due("forged() of it alone", x.forged(), 1);
    }

    /** "UNKNOWN (one twice)". */
    private static void glassTellsOfTwo() {
        DatedJars x = jarsOfDates(1, 2, 3);
        for (int j = -1; j <= 3; j++) {
            c.due("older(" + j + ", " + j + ")", x.older(j, j), UNKNOWN);
        }
        c.due("older(0, 3)", x.older(0, 3), UNKNOWN);
        c.due("older(3, 0)", x.older(3, 0), UNKNOWN);
        c.due("older(-1, 0)", x.older(-1, 0), UNKNOWN);
        c.due("older(0, -1)", x.older(0, -1), UNKNOWN);
        c.due("none of these was told", x.told(8), 0);
        c.due("older(0, 2)", x.older(0, 2), 1);
        c.due("older(0, 2) again is told again", x.older(0, 2), 2);
        c.due("older(2, 0) is told as well", x.older(2, 0), 3);
    }

    /** "one JAR is older than another one: its DATE should be less". */
    private static void itsDateShouldBeLess() {
        int[][] dates = {{4, 5}, {5, 5}, {6, 5}, {0, 0}, {0, 9999}, {9999, 9999}, {9999, 0}, {9998, 9999}};
        int[] forged = {0, 1, 1, 1, 0, 1, 1, 0};
        for (int i = 0; i < dates.length; i++) {
            DatedJars x = jarsOfDates(1, 1);
            x.label(0, dates[i][0]);
            x.label(1, dates[i][1]);
            x.older(0, 1);
            c.due("older(0, 1), DATES " + dates[i][0] + ", " + dates[i][1], x.forged(), forged[i]);
            x.tear();
            x.older(1, 0);
            int other = dates[i][1] < dates[i][0] ? 0 : 1;
            c.due("older(1, 0), DATES " + dates[i][0] + ", " + dates[i][1], x.forged(), other);
        }
        c.due("nothing told", jarsOfDates(1, 1).forged(), 0);
    }

    private static DatedJars told(int jars, int... pairs) {
        DatedJars x = jarsOfDates(new int[jars]);
        for (int i = 0; i < pairs.length; i += 2) {
            x.older(pairs[i], pairs[i + 1]);
        }
        return x;
    }

    /** "the fewest JARS so that all that GLASS tells of two others is so". */
    private static void theFewest() {
        c.due("a star of the last one", told(6, 5, 0, 5, 1, 2, 5, 3, 5, 4, 5).forged(), 1 << 5);
        c.due("two stars", told(8, 7, 0, 7, 1, 7, 2, 6, 3, 6, 4, 6, 5).forged(), 3 << 6);
        c.due("a chain of three", told(3, 0, 1, 1, 2).forged(), 2);
        c.due("three of three", told(3, 0, 1, 1, 2, 2, 0).forged(), 3);
        c.due("all of four", told(4, 0, 1, 0, 2, 0, 3, 1, 2, 1, 3, 2, 3).forged(), 7);
        c.due("both ways", told(2, 0, 1, 1, 0).forged(), 1);
        c.due("told often", told(2, 0, 1, 0, 1, 0, 1, 0, 1, 0, 1, 0, 1, 0, 1, 0, 1, 0, 1, 0, 1, 0, 1, 0, 1).forged(), 1);
        DatedJars x = jarsOfDates(1, 2, 3, 0);
        x.older(0, 1);
        x.older(1, 2);
        c.due("all so", x.forged(), 0);
        x.older(2, 3);
        c.due("one not: the lesser of two", x.forged(), 4);
        x.older(0, 3);
        x.older(1, 3);
        c.due("the one that all are said to be older than", x.forged(), 8);
    }

    /** "of like ones the least SET". */
    private static void theLeastSet() {
        c.due("one of two", told(4, 3, 1).forged(), 2);
        c.due("a chain of four", told(4, 0, 1, 1, 2, 2, 3).forged(), 5);
        c.due("a round of four", told(4, 0, 1, 1, 2, 2, 3, 3, 0).forged(), 5);
        c.due("a chain of four, otherwise", told(4, 3, 0, 0, 2, 2, 1).forged(), 3);
        c.due("pairs", told(6, 5, 2, 0, 4, 3, 1).forged(), 7);
    }

    private static void asManyAsCanBe() {
        DatedJars x = twentyFour(50);
        for (int j = 0; j < 12; j++) {
            x.older(j % 2 == 0 ? j : 12 + j, j % 2 == 0 ? 12 + j : j);
        }
        c.due("12 of 24", x.forged(), 0xfff);
        for (int j = 0; j < 12; j++) {
            x.label(j, j % 2 == 0 ? 49 : 51);
        }
        c.due("all so", x.forged(), 0);
        x.tear();
        x.label(22, 51);
        x.label(23, 51);
        x.older(23, 22);
        c.due("the last two", x.forged(), 1 << 22);
        x.older(23, 20);
        c.due("the last one", x.forged(), 1 << 23);
    }

    /** A GONE one has its DATE still. */
    private static void forgedOfGoneOnes() {
        DatedJars x = jarsOfDates(0, 0, 5);
        x.open(0);
        c.due("of a GONE one", x.older(1, 0), 1);
        c.due("forged()", x.forged(), 1);
        x.label(1, 4);
        x.older(0, 2);
        c.due("forged() then", x.forged(), 1);
    }

    /** "(JARS that there are no more, by an IMAGE, are nothing to it.)" */
    private static void forgedOfNoneAnyMore() {
        DatedJars x = Checks.landOf("harvest 9;house 8 1;jar glass 0 90 1 0;jar glass 0 90 1 0;");
        x.keep(0);
        x.year(2);
        x.older(0, 2);
        x.older(3, 2);
        c.due("two that are sealed", x.forged(), 4);
        x.older(0, 1);
        c.due("and two told", x.forged(), 1 + 4);
        x.goBack(0);
        c.due("two are no more: of the others it is told", x.forged(), 1);
        c.due("GLASS told what it told", x.told(8), 3);
        x.label(0, 1);
        c.due("of the others it is so", x.forged(), 0);
        c.due("nothing can be told of them now", x.older(0, 2), UNKNOWN);
        x.year(1);
        c.due("JAR 2 is there again, JAR 3 not", x.forged(), 1);
    }

    private static DatedJars wroteThirty() {
        DatedJars x = jarsOfDates(1, 2, 3);
        for (int i = 0; i < 30; i++) {
            x.write(i, i % 3);
        }
        return x;
    }

    /** "a row of openings (30 at most"; "An opening behind THE BOOK: how many"; "FULL (30)". */
    private static void thirtyOpenings() {
        DatedJars x = jarsOfDates(1, 2, 3);
        for (int i = 1; i <= 30; i++) {
            c.due("write no. " + i, x.write(i, i % 3), i);
            c.due("told(9)", x.told(9), i);
        }
        c.changesNothing("write no. 31", BookEdgesTest::wroteThirty, y -> y.write(1, 1), FULL);
        c.changesNothing("write no. 31 in year -1", BookEdgesTest::wroteThirty, y -> y.write(-1, 1), OUTSIDE);
        c.changesNothing("write no. 31 in year 10000", BookEdgesTest::wroteThirty, y -> y.write(10000, 1), OUTSIDE);
        c.changesNothing("write no. 31 of none such", BookEdgesTest::wroteThirty, y -> y.write(10000, 3), UNKNOWN);
        c.due("tear()", x.tear(), 30);
        c.due("write after it", x.write(1, 0), 1);
        c.due("judge() of it alone", x.judge(), NONE);
    }

    /** "year 0 .. 9999". */
    private static void yearsOfTheBook() {
        DatedJars x = jarsOfDates(0, 0, 0);
        c.due("write(-1, 0)", x.write(-1, 0), OUTSIDE);
        c.due("write(0, 0)", x.write(0, 0), 1);
        c.due("write(9999, 1)", x.write(9999, 1), 2);
        c.due("write(10000, 2)", x.write(10000, 2), OUTSIDE);
        c.due("judge()", x.judge(), NONE);
        c.due("write(9999, 2)", x.write(9999, 2), 3);
        c.due("like years", x.judge(), NONE);
    }

    private static int judged(int law, int date, int year) {
        DatedJars x = jarsOfDates(0, 1);
        x.label(1, date);
        x.law(law);
        x.write(year, 1);
        return x.judge();
    }

    /** "the first that MAY not be in that year". */
    private static void wrongInThatYear() {
        int[][] may = {{0, 1, 1}, {0, 1, 0}, {1, 1, 1}};
        for (int law = 0; law <= 2; law++) {
            for (int date : new int[] {1, 50, 9998}) {
                for (int off = -1; off <= 1; off++) {
                    c.due("LAW " + law + ", DATE " + date + ", year " + (date + off), judged(law, date, date + off), may[law][off + 1] == 1 ? NONE : 0);
                }
            }
            c.due("LAW " + law + ", DATE 0, year 0", judged(law, 0, 0), NONE);
            c.due("LAW " + law + ", DATE 9999, year 9999", judged(law, 9999, 9999), NONE);
            c.due("LAW " + law + ", DATE 0, year 9999", judged(law, 0, 9999), law == 1 ? 0 : NONE);
            c.due("LAW " + law + ", DATE 9999, year 0", judged(law, 9999, 0), law == 2 ? NONE : 0);
        }
        // that year is the one written, not THE YEAR; the LAW and the DATE are those of now
        DatedJars x = jarsOfDates(5);
        x.write(5, 0);
        c.due("ahead of THE YEAR", x.judge(), NONE);
        x.year(9);
        c.due("behind THE YEAR", x.judge(), NONE);
        x.label(0, 6);
        c.due("by another DATE", x.judge(), 0);
        x.law(2);
        c.due("by another LAW", x.judge(), NONE);
    }

    /** "(or is no JAR any more)". */
    private static void wrongAsItIsNoJarAnyMore() {
        DatedJars x = Checks.landOf("harvest 9;house 8 1;jar glass 0 0 1 0;");
        x.law(2);
        x.keep(1);
        x.year(2);
        x.write(3, 0);
        x.write(3, 1);
        x.write(3, 2);
        c.due("all there", x.judge(), NONE);
        x.goBack(1);
        c.due("no more", x.judge(), 1);
        c.due("what is written stays", x.told(9), 3);
        c.due("it cannot be written now", x.write(3, 1), UNKNOWN);
        x.year(1);
        c.due("JAR 1 is there again, JAR 2 not", x.judge(), 2);
        DatedJars gone = jarsOfDates(0, 0);
        gone.open(0);
        c.due("a GONE one can be written", gone.write(0, 0), 1);
        c.due("a GONE one is a JAR still", gone.judge(), NONE);
    }

    /** "was opened ahead of it". */
    private static void wrongAsOpenedAhead() {
        DatedJars x = jarsOfDates(0, 0, 0);
        x.write(1, 2);
        x.write(1, 0);
        x.write(1, 1);
        c.due("each once", x.judge(), NONE);
        x.write(2, 2);
        c.due("the first of them again", x.judge(), 3);
        x.tear();
        x.write(1, 1);
        x.write(1, 1);
        c.due("in the same year", x.judge(), 1);
        DatedJars many = twentyFour(0);
        for (int j = 23; j >= 0; j--) {
            many.write(5, j);
        }
        c.due("24 of them", many.judge(), NONE);
        many.write(5, 23);
        c.due("the 25th is one of them", many.judge(), 24);
    }

    /** "whose year is less than the one ahead". */
    private static void wrongAsTheYearIsLess() {
        DatedJars x = jarsOfDates(0, 0, 0, 0);
        x.write(7, 0);
        x.write(7, 1);
        c.due("like years", x.judge(), NONE);
        x.write(8, 2);
        c.due("a greater one", x.judge(), NONE);
        x.write(7, 3);
        c.due("one less", x.judge(), 3);
        x.tear();
        x.write(0, 0);
        c.due("the first has none ahead", x.judge(), NONE);
        x.tear();
        x.write(9999, 3);
        x.write(0, 2);
        c.due("far less", x.judge(), 1);
    }

    /** "WRONG: the first"; "NONE". */
    private static void theFirstWrong() {
        c.due("an empty BOOK", jarsOfDates(0).judge(), NONE);
        DatedJars x = twentyFour(3);
        for (int j = 0; j < 24; j++) {
            x.write(3 + j, j);
        }
        c.due("none of 24", x.judge(), NONE);
        x.write(40, 0);
        x.write(39, 1);
        c.due("the 25th, not the 26th", x.judge(), 24);
        x.label(20, 24);
        c.due("one ahead of it", x.judge(), 20);
        x.label(0, 4);
        c.due("the very first", x.judge(), 0);
    }

    /** "THE BOOK is empty, GLASS told nothing: how many both had." */
    private static void tearBoth() {
        DatedJars x = jarsOfDates(5, 5, 5);
        c.due("nothing", x.tear(), 0);
        x.older(0, 1);
        c.due("GLASS alone", x.tear(), 1);
        x.write(0, 0);
        x.write(0, 0);
        c.due("THE BOOK alone", x.tear(), 2);
        for (int i = 0; i < 12; i++) {
            x.older(0, 1);
        }
        for (int i = 0; i < 30; i++) {
            x.write(0, 0);
        }
        c.due("forged() ahead of it", x.forged(), 1);
        c.due("judge() ahead of it", x.judge(), 0);
        c.due("both full", x.tear(), 42);
        c.due("told(8)", x.told(8), 0);
        c.due("told(9)", x.told(9), 0);
        c.due("forged()", x.forged(), 0);
        c.due("judge()", x.judge(), NONE);
        c.due("again", x.tear(), 0);
    }

    /** "THE SEED becomes v (0 .. 2147483647): what it was. OUTSIDE." */
    private static void boundsOfTheSeed() {
        DatedJars x = new DatedJars();
        c.due("0 at first", x.seed(2147483647), 0);
        c.due("the greatest", x.seed(0), 2147483647);
        c.due("the least", x.seed(1), 0);
        c.due("seed(-1)", x.seed(-1), OUTSIDE);
        c.due("seed(min)", x.seed(Integer.MIN_VALUE), OUTSIDE);
        c.due("it is as it was", x.seed(5), 1);
        c.due("it was put", x.seed(5), 5);
    }

    /** "IMAGES 0, 1"; "UNKNOWN, NOT: it was not kept." */
    private static void imagesOfTwoNumbers() {
        for (int kept = 0; kept <= 1; kept++) {
            DatedJars x = jarsOfDates(1, 2);
            c.due("goBack(" + kept + ") ahead of it", x.goBack(kept), NOT);
            c.due("keep(" + kept + ")", x.keep(kept), 1);
            c.due("goBack(" + kept + ")", x.goBack(kept), 1);
            c.due("the other one was not kept", x.goBack(1 - kept), NOT);
            for (int i : new int[] {-1, 2, 3, Integer.MIN_VALUE, Integer.MAX_VALUE}) {
                c.due("keep(" + i + ")", x.keep(i), UNKNOWN);
                c.due("goBack(" + i + ")", x.goBack(i), UNKNOWN);
            }
        }
        c.changesNothing("goBack of one that was not kept", () -> jarsOfDates(3, 4), y -> y.goBack(1), NOT);
    }

    private static DatedJars ofTwoHouses() {
        DatedJars x = Checks.landOf("harvest 12,3,0;house 10 2;house 15 0;jar plain 0 1 6 2;jar plum 1 0 5 3;jar glass 0 2 9 0;jar glass 1 9 4 9;");
        x.year(1);
        x.open(0);
        x.seed(4321);
        x.law(1);
        return x;
    }

    /** "keep JARS, STOCKS, THE YEAR, HUNGER so far, S of all, LAW, THE SEED." */
    private static void whatAnImageKeeps() {
        for (int i = 0; i <= 1; i++) {
            DatedJars x = ofTwoHouses();
            String before = Checks.look(x);
            x.keep(i);
            c.same("keep(" + i + ")", Checks.look(x), before);
            x.give(2, 1);
            x.label(2, 77);
            x.law(2);
            x.open(3);
            c.due("STOCK of 1 is another", x.house(1, 2), 4);
            x.seals(0, 0);
            x.seals(1, 20);
            x.seed(1);
            x.drift(3);
            x.open(2);
            c.due("THE YEAR is another", x.told(3), 4);
            c.due("goBack(" + i + ")", x.goBack(i), 1);
            c.same("goBack(" + i + ")", Checks.look(x), before);
            c.due("THE SEED", Checks.seedOf(x), 4321);
            c.due("STOCK of 0", x.house(0, 2), 6);
            // what comes after it comes as it did
            DatedJars other = ofTwoHouses();
            c.due("drift(9)", x.drift(9), other.drift(9));
            c.same("drift(9) after goBack", Checks.look(x), Checks.look(other));
            c.due("THE SEED then", Checks.seedOf(x), Checks.seedOf(other));
        }
    }

    /** JARS of one number, sealed in unlike years: each has its AGE again. */
    private static void anImageKeepsWhenJarsWereSealed() {
        DatedJars x = Checks.landOf("harvest 9,1,1,9;house 5 20;");
        x.keep(0);
        x.year(2);
        c.due("sealed in year 0", x.jar(0, 5), 2);
        x.keep(1);
        x.goBack(0);
        x.seals(0, 0);
        x.year(2);
        x.seals(0, 7);
        x.year(2);
        int[] later = {0, 0, 10, 4, 5, 1, 4, 0};
        for (int what = 0; what < later.length; what++) {
            c.due("sealed in year 3: jar(0, " + what + ")", x.jar(0, what), later[what]);
        }
        x.goBack(1);
        int[] earlier = {0, 0, 20, 4, 5, 2, 4, 0};
        for (int what = 0; what < earlier.length; what++) {
            c.due("sealed in year 0 again: jar(0, " + what + ")", x.jar(0, what), earlier[what]);
        }
    }

    /** The rest is not kept: THE TEXT, its FAULT, GLASS, THE BOOK. */
    private static void whatAnImageDoesNotKeep() {
        DatedJars x = ofTwoHouses();
        x.keep(0);
        x.older(2, 3);
        x.older(3, 2);
        x.write(9, 3);
        Checks.tell(x, "house 1 x");
        Checks.feedText(x, "house 1 1;");
        x.goBack(0);
        c.due("GLASS", x.told(8), 2);
        c.due("THE BOOK", x.told(9), 1);
        c.due("THE TEXT", x.told(2), 10);
        c.due("its FAULT", x.fault(), 8);
        x.keep(0);
        x.tear();
        x.goBack(0);
        c.due("GLASS is not there again", x.told(8), 0);
        c.due("THE BOOK is not there again", x.told(9), 0);
        c.due("THE TEXT is read", x.land(), 1);
    }

    /** An IMAGE can be gone back to again. */
    private static void anImageStays() {
        DatedJars x = ofTwoHouses();
        String first = Checks.look(x);
        x.keep(0);
        for (int i = 0; i < 3; i++) {
            x.law(2);
            x.open(2);
            x.year(5);
            c.due("goBack(0)", x.goBack(0), 1);
            c.same("goBack(0) no. " + i, Checks.look(x), first);
        }
    }

    /** IMAGES 0 and 1 are two: neither changes by the other. */
    private static void imagesAreTwo() {
        DatedJars x = ofTwoHouses();
        String first = Checks.look(x);
        x.keep(0);
        x.year(1);
        String second = Checks.look(x);
        x.keep(1);
        x.year(1);
        x.goBack(0);
        c.same("image 0 by keep(1)", Checks.look(x), first);
        x.goBack(1);
        c.same("image 1", Checks.look(x), second);
    }

    /** "IMAGE i becomes what is so": what it was ahead is no more. */
    private static void anImageBecomesAnother() {
        DatedJars x = ofTwoHouses();
        x.keep(0);
        x.year(1);
        String second = Checks.look(x);
        x.keep(1);
        x.year(1);
        String third = Checks.look(x);
        c.due("keep(0) again", x.keep(0), 1);
        x.goBack(1);
        c.same("image 1 by keep(0)", Checks.look(x), second);
        x.goBack(0);
        c.same("image 0 is what it became", Checks.look(x), third);
    }

    /** "IMAGES are gone" by land(), not by one with a FAULT. */
    private static void imagesAreGoneByLand() {
        DatedJars x = ofTwoHouses();
        x.keep(0);
        x.keep(1);
        Checks.tell(x, "?");
        c.due("a FAULT leaves image 0", x.goBack(0), 1);
        c.due("a FAULT leaves image 1", x.goBack(1), 1);
        Checks.tell(x, "house 1 1;");
        c.due("goBack(0)", x.goBack(0), NOT);
        c.due("goBack(1)", x.goBack(1), NOT);
        x.keep(1);
        x.land();
        c.due("an empty THE TEXT as well", x.goBack(1), NOT);
    }
}
