/** Promises 1 to 7: the new object, the text, its faults, and what can be asked of a land. */
public final class LandTest {
    private static final Checks c = new Checks("LandTest");
    private static final int UNKNOWN = DatedJars.UNKNOWN, OUTSIDE = DatedJars.OUTSIDE, FULL = DatedJars.FULL;

    public static void main(String[] args) {
        newObject();
        feeding();
        feedingTakesTheLowBytes();
        landsWithoutFault();
        firstFaults();
        textsThatEndWithin();
        secondFaults();
        thirdFaults();
        faultChangesNothing();
        landBeginsAnew();
        answersOfTold();
        answersOfHouse();
        answersOfJar();
        c.finish();
    }

    private static void newObject() {
        DatedJars x = new DatedJars();
        int[] due = {0, 0, 0, 0, 0, 10, 0, 0, 0, 0};
        for (int what = 0; what < due.length; what++) {
            c.due("new: told(" + what + ")", x.told(what), due[what]);
        }
        c.due("new: fault", x.fault(), -1);
        c.due("new: house(0, 0)", x.house(0, 0), UNKNOWN);
        c.due("new: jar(0, 0)", x.jar(0, 0), UNKNOWN);
        c.due("new: year(3)", x.year(3), 0);
        c.due("new: told(3) after three years", x.told(3), 3);
        c.due("new: land of an empty text", x.land(), 0);
        c.due("new: fault of an empty text", x.fault(), -1);
        c.due("new: year after land", x.told(3), 0);
        c.due("new: siege", x.siege(3, 0), 0);
        c.due("new: when", x.when(3, 0), 3);
        c.due("new: change", x.change(1), 0);
        c.due("new: forged", x.forged(), 0);
        c.due("new: judge", x.judge(), -1);
        c.due("new: goBack", x.goBack(0), DatedJars.NOT);
    }

    private static void feeding() {
        DatedJars x = new DatedJars();
        c.due("feed(0)", x.feed(0, 32), OUTSIDE);
        c.due("feed(-1)", x.feed(-1, 32), OUTSIDE);
        c.due("feed(9)", x.feed(9, 32), OUTSIDE);
        c.due("feed(min)", x.feed(Integer.MIN_VALUE, 32), OUTSIDE);
        c.due("feed(max)", x.feed(Integer.MAX_VALUE, 32), OUTSIDE);
        c.due("told(2) after refusals", x.told(2), 0);
        for (int i = 1; i <= 49; i++) {
            c.due("feed no. " + i, x.feed(8, 0x2020202020202020L), 8 * i);
        }
        c.due("feed(4) to 396", x.feed(4, 0x20202020L), 396);
        c.due("feed(5) over the end", x.feed(5, 0x2020202020L), FULL);
        c.due("feed(8) over the end", x.feed(8, 0x2020202020202020L), FULL);
        c.due("told(2) after FULL", x.told(2), 396);
        c.due("feed(4) to the end", x.feed(4, 0x20202020L), 400);
        c.due("feed(1) behind the end", x.feed(1, 0x20L), FULL);
        c.due("feed(9) behind the end: OUTSIDE first", x.feed(9, 0x20L), OUTSIDE);
        c.due("land of 400 blanks", x.land(), 0);
        c.due("told(2) after land", x.told(2), 0);
        c.due("feed after land", x.feed(1, 0x20L), 1);
    }

    private static void feedingTakesTheLowBytes() {
        DatedJars x = new DatedJars();
        c.due("feed(5) of eight bytes", x.feed(5, 0x787878686f757365L), 5);
        c.due("feed(5) with a sign bit", x.feed(5, 0xff78782039203738L >>> 0), 10);
        c.due("feed(1)", x.feed(1, -1L << 8 | ';'), 11);
        c.due("land: 'house 9 78;' has a fault", x.land(), -12);
        c.due("its byte", x.fault(), 8);
        c.due("feed(8), the highest first", x.feed(8, 0x686f757365203920L), 8);
        c.due("feed(2)", x.feed(2, 0x373bL), 10);
        c.due("land: 'house 9 7;'", x.land(), 1);
        c.due("its want", x.house(0, 0), 9);
        c.due("its S", x.house(0, 1), 7);
    }

    private static void good(String text, int houses, int jars) {
        DatedJars x = new DatedJars();
        c.due("land of '" + text + "'", Checks.tell(x, text), houses);
        c.due("fault of '" + text + "'", x.fault(), -1);
        c.due("jars of '" + text + "'", x.told(1), jars);
    }

    private static void landsWithoutFault() {
        good("harvest 1,2,3,4,5,6,7,8;", 0, 0);
        good("harvest1;", 0, 0);
        good("  harvest  99 ,0 , 099;  ", 0, 0);
        good("house 0 0;house 99 20;house 001 02;house 1 1;", 4, 0);
        good("house1 2;jar plain0 0 1 0;jar plum0 99 99 99;jar glass 000 099 001 000;", 1, 3);
        good("house 1 1;harvest 3;jar plum 0 1 1 1;house 2 2;jar plain 1 1 1 1;", 2, 2);
        StringBuilder twelve = new StringBuilder("house 1 1;");
        for (int i = 0; i < 12; i++) {
            twelve.append("jar plum 0 1 1 1;");
        }
        good(twelve.toString(), 1, 12);
    }

    private static void bad(String text, int number, int at) {
        DatedJars x = new DatedJars();
        c.due("land of '" + text + "'", Checks.tell(x, text), -10 - number);
        c.due("fault of '" + text + "'", x.fault(), at);
        c.due("houses of '" + text + "'", x.told(0), 0);
        c.due("bytes left of '" + text + "'", x.told(2), 0);
    }

    private static void firstFaults() {
        bad(";", 1, 0);
        bad("5", 1, 0);
        bad("55555", 1, 0);
        bad("   x", 1, 3);
        bad("House 1 1;", 1, 0);
        bad("ho use 1 1;", 1, 0);
        bad("hous", 1, 0);
        bad("houses 1 1;", 1, 0);
        bad("housejar 1 1;", 1, 0);
        bad("jarplain 0 1 1 1;", 1, 0);
        bad("plain 0 1 1 1;", 1, 0);
        bad("jarz plain 0 1 1 1;", 1, 0);
        bad("jara plain 0 1 1 1;", 1, 0);
        bad("jar`plain 0 1 1 1;", 1, 3);
        bad("jar{plain 0 1 1 1;", 1, 3);
        bad("house 1/1;", 1, 7);
        bad("house 1:1;", 1, 7);
        bad("house", 1, 5);
        bad("house   ", 1, 8);
        bad("houseX 1;", 1, 5);
        bad("house x 1;", 1, 6);
        bad("house 1", 1, 7);
        bad("house 1 1", 1, 9);
        bad("house 1 1  ", 1, 11);
        bad("house 1,1;", 1, 7);
        bad("house 1\t1;", 1, 7);
        bad("house 1a 99;", 1, 7);
        bad("house -1 1;", 1, 6);
        bad("house 1 1 1;", 1, 10);
        bad("house 1 1;;", 1, 10);
        bad("house 1 1;\n", 1, 10);
        bad("house 1 1;" + (char) 200, 1, 10);
        bad("house 1 1;" + (char) 0, 1, 10);
        bad("harvest", 1, 7);
        bad("harvest;", 1, 7);
        bad("harvest ,1;", 1, 8);
        bad("harvest 1 1;", 1, 10);
        bad("harvest 1,;", 1, 10);
        bad("harvest 1,,2;", 1, 10);
        bad("harvest 1,2,3,4,5,6,7,8,9;", 1, 23);
        bad("harvest 1,2,3,4,5,6,7,8 ,1000;", 1, 24);
        bad("house 1 1;jar", 1, 13);
        bad("house 1 1;jar 5555 0 1 1 1;", 1, 14);
        bad("house 1 1;jar pla in 0 1 1 1;", 1, 14);
        bad("house 1 1;jar plainplum 0 1 1 1;", 1, 14);
        bad("house 1 1;jar plain;", 1, 19);
        bad("house 1 1;jar plain 0 1 1;", 1, 25);
        bad("house 1 1;jar plain 0 1 1 1 1;", 1, 28);
        bad("house 1 1;jar plain 0 1 1 1", 1, 27);
    }

    /** The end is the text's own, whatever stood behind it in a text ahead of it. */
    private static void textsThatEndWithin() {
        String whole = "harvest 10,11;house 10 11;jar plain 0 10 11 12;";
        for (int length = 1; length < whole.length(); length++) {
            DatedJars x = Checks.landOf(whole);
            DatedJars fresh = new DatedJars();
            String cut = whole.substring(0, length);
            c.due("land of '" + cut + "' behind another", Checks.tell(x, cut), Checks.tell(fresh, cut));
            c.due("fault of '" + cut + "' behind another", x.fault(), fresh.fault());
        }
        String[] ends = {"house 1 1", "house 1 ", "house", "harvest 1,", "harvest 1", "hous"};
        int[] faults = {400, 400, 400, 400, 400, 396};
        for (int i = 0; i < ends.length; i++) {
            StringBuilder full = new StringBuilder();
            while (full.length() + ends[i].length() < 400) {
                full.append(' ');
            }
            bad(full.append(ends[i]).toString(), 1, faults[i]);
        }
    }

    private static void secondFaults() {
        bad("house 100 1;", 2, 6);
        bad("house 0001 1;", 2, 6);
        bad("house 1 21;", 2, 8);
        bad("house 1 21x", 2, 8);
        bad("house 12345678901234567890 1;", 2, 6);
        bad("house 4294967297 1;", 2, 6);
        bad("harvest 100;", 2, 8);
        bad("harvest 1,2,100;", 2, 12);
        bad("jar plain 0 1 1 1;house 1 1;", 2, 10);
        bad("house 1 1;jar plain 1 1 1 1;house 1 1;", 2, 20);
        bad("house 1 1;jar plain 0000 1 1 1;", 2, 20);
        bad("house 1 1;jar plain 0 100 1 1;", 2, 22);
        bad("house 1 1;jar plain 0 1 0 1;", 2, 24);
        bad("house 1 1;jar plain 0 1 100 1;", 2, 24);
        bad("house 1 1;jar plain 0 1 1 100;", 2, 26);
        bad("house 1 1;jar plain 0 1 0 100", 2, 24);
    }

    private static void thirdFaults() {
        bad("harvest 1;harvest 1;", 3, 10);
        bad("harvest 1;house 1 1;  harvest", 3, 22);
        bad("house 1 1;house 1 1;house 1 1;house 1 1; house 100", 3, 41);
        bad("house 1 1;house 1 1;house 1 1;house 1 1; houses 1 1;", 1, 41);
        StringBuilder thirteen = new StringBuilder("house 1 1;");
        for (int i = 0; i < 12; i++) {
            thirteen.append("jar plum 0 1 1 1;");
        }
        bad(thirteen + " jar", 3, 10 + 12 * 17 + 1);
    }

    private static void faultChangesNothing() {
        DatedJars x = Checks.landOf("harvest 3,4;house 10 2;house 5 0;jar glass 1 0 7 0;jar plain 0 9 20 4;");
        x.law(2);
        x.open(0);
        x.year(1);
        x.older(0, 1);
        x.write(0, 1);
        x.keep(1);
        int hunger = x.told(6);
        c.due("a fault", Checks.tell(x, "harvest 50;house 1 1;hut;"), -11);
        c.due("fault()", x.fault(), 21);
        c.due("houses as they were", x.told(0), 2);
        c.due("jars as they were", x.told(1), 2);
        c.due("year as it was", x.told(3), 1);
        c.due("law as it was", x.told(4), 2);
        c.due("harvest as it was", x.told(5), 4);
        c.due("hunger as it was", x.told(6), hunger);
        c.due("gone as it was", x.told(7), 3);
        c.due("glass as it was", x.told(8), 1);
        c.due("book as it was", x.told(9), 1);
        c.due("want as it was", x.house(0, 0), 10);
        c.due("image as it was", x.goBack(1), 1);
        c.due("fault() stays until the next land()", x.fault(), 21);
    }

    private static void landBeginsAnew() {
        DatedJars x = Checks.landOf("harvest 3,4;house 10 2;jar glass 0 0 7 0;jar plain 0 9 20 4;");
        x.law(1);
        x.seed(77);
        x.open(0);
        x.year(1);
        x.open(0);
        x.older(0, 1);
        x.write(0, 1);
        x.keep(0);
        x.keep(1);
        x.open(1);
        x.siege(4, 4);
        x.sealing(0, 9);
        Checks.tell(x, "?");
        c.due("another land", Checks.tell(x, "house 7 1;house 8 0;jar plum 1 3 4 5;"), 2);
        c.due("no fault any more", x.fault(), -1);
        int[] due = {2, 1, 0, 0, 1, 10, 0, 0, 0, 0};
        for (int what = 0; what < due.length; what++) {
            c.due("another land: told(" + what + ")", x.told(what), due[what]);
        }
        c.due("no stock", x.house(0, 2), 0);
        c.due("not gone", x.jar(0, 7), 0);
        c.due("image 0 is gone", x.goBack(0), DatedJars.NOT);
        c.due("image 1 is gone", x.goBack(1), DatedJars.NOT);
        c.due("the seed stays", x.seed(0), 77);
    }

    private static void answersOfTold() {
        DatedJars x = Checks.landOf("harvest 3,40,5;house 10 2;jar glass 0 1 4 0;jar plain 0 0 1 4;");
        Checks.feedText(x, "harvest");
        x.older(0, 1);
        x.older(1, 0);
        x.write(0, 1);
        x.year(2);
        int[] due = {1, 3, 7, 2, 0, 5, 6, 2, 2, 1};
        for (int what = 0; what < due.length; what++) {
            c.due("told(" + what + ")", x.told(what), due[what]);
        }
        c.due("told(-1)", x.told(-1), OUTSIDE);
        c.due("told(10)", x.told(10), OUTSIDE);
        c.due("told(min)", x.told(Integer.MIN_VALUE), OUTSIDE);
        x.year(1);
        c.due("the harvest comes round", x.told(5), 3);
    }

    private static void answersOfHouse() {
        DatedJars x = Checks.landOf("house 10 2;house 12 0;jar glass 1 1 4 0;jar plain 1 0 9 4;jar plum 0 0 3 1;jar plum 1 0 3 1;");
        x.open(1);
        int[] first = {10, 2, 0, 4, 4};
        int[] second = {12, 0, 9, 9, 8};
        for (int what = 0; what < 5; what++) {
            c.due("house(0, " + what + ")", x.house(0, what), first[what]);
            c.due("house(1, " + what + ")", x.house(1, what), second[what]);
        }
        c.due("house(2, 0)", x.house(2, 0), UNKNOWN);
        c.due("house(-1, 0)", x.house(-1, 0), UNKNOWN);
        c.due("house(2, 9): UNKNOWN first", x.house(2, 9), UNKNOWN);
        c.due("house(0, -1)", x.house(0, -1), OUTSIDE);
        c.due("house(0, 5)", x.house(0, 5), OUTSIDE);
        x.law(1);
        c.due("house(1, 4) by law 1", x.house(1, 4), 8);
        x.law(2);
        c.due("house(1, 4) by law 2", x.house(1, 4), 9);
    }

    private static void answersOfJar() {
        DatedJars x = Checks.landOf("harvest 0;house 0 2;house 3 0;jar plain 1 90 9 2;jar plum 0 91 9 2;jar glass 0 92 9 2;");
        int[][] atFirst = {{0, 1, 90, 9, 2, 0, 9, 0}, {1, 0, 91, 9, 2, 0, 9, 0}, {2, 0, 92, 9, 2, 0, 9, 0}};
        int[][] inTwo = {{0, 1, 90, 9, 2, 2, 9, 0}, {1, 0, 91, 9, 2, 2, 11, 0}, {2, 0, 92, 9, 2, 2, 9, 0}};
        int[][] inThree = {{0, 1, 90, 9, 2, 3, 4, 0}, {1, 0, 91, 9, 2, 3, 11, 1}, {2, 0, 92, 9, 2, 3, 9, 0}};
        jarsAre(x, atFirst);
        x.year(2);
        jarsAre(x, inTwo);
        x.law(2);
        x.open(1);
        x.law(0);
        x.year(1);
        c.due("the stock above want was sealed", x.told(1), 4);
        jarsAre(x, inThree);
        c.due("jar(4, 0)", x.jar(4, 0), UNKNOWN);
        c.due("jar(-1, 0)", x.jar(-1, 0), UNKNOWN);
        c.due("jar(4, 8): UNKNOWN first", x.jar(4, 8), UNKNOWN);
        c.due("jar(0, 8)", x.jar(0, 8), OUTSIDE);
        c.due("jar(0, -1)", x.jar(0, -1), OUTSIDE);
    }

    private static void jarsAre(DatedJars x, int[][] due) {
        for (int j = 0; j < due.length; j++) {
            for (int what = 0; what < 8; what++) {
                c.due("year " + x.told(3) + ": jar(" + j + ", " + what + ")", x.jar(j, what), due[j][what]);
            }
        }
    }
}
