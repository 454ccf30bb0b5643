/** Promises 21 to 28: older, forged, write, tear, judge, seed, keep, goBack. */
public final class GlassTest {
    private static final Checks c = new Checks("GlassTest");
    private static final int NONE = DatedJars.NONE, UNKNOWN = DatedJars.UNKNOWN, OUTSIDE = DatedJars.OUTSIDE;
    private static final int NOT = DatedJars.NOT, FULL = DatedJars.FULL;

    public static void main(String[] args) {
        telling();
        tellingTwelve();
        forging();
        forgingFewest();
        writing();
        writingThirty();
        tearing();
        judging();
        seeds();
        imagesThatThereAreNot();
        images();
        imagesAndJarsThatAreNoMore();
        c.finish();
    }

    private static DatedJars fiveJars() {
        return Checks.landOf("harvest 0;house 0 0;jar glass 0 4 1 0;jar glass 0 3 1 0;jar glass 0 2 1 0;jar glass 0 1 1 0;jar glass 0 1 1 0;");
    }

    private static void telling() {
        DatedJars x = fiveJars();
        String before = Checks.look(x);
        c.refused(x, before, "older(0, 5)", x.older(0, 5), UNKNOWN);
        c.refused(x, before, "older(5, 0)", x.older(5, 0), UNKNOWN);
        c.refused(x, before, "older(-1, 0)", x.older(-1, 0), UNKNOWN);
        c.refused(x, before, "older(0, NONE)", x.older(0, -1), UNKNOWN);
        c.refused(x, before, "older(2, 2)", x.older(2, 2), UNKNOWN);
    }

    private static void tellingTwelve() {
        DatedJars x = fiveJars();
        for (int i = 1; i <= 12; i++) {
            c.due("older(3, 0) no. " + i, x.older(3, 0), i);
        }
        String before = Checks.look(x);
        c.refused(x, before, "older(3, 0) no. 13", x.older(3, 0), FULL);
        c.refused(x, before, "older(3, 3) no. 13: UNKNOWN first", x.older(3, 3), UNKNOWN);
        c.due("told(8)", x.told(8), 12);
    }

    private static void forging() {
        DatedJars x = fiveJars();
        c.due("nothing told", x.forged(), 0);
        x.older(3, 0);
        c.due("what is so", x.forged(), 0);
        x.older(3, 4);
        c.due("like dates are not less", x.forged(), 8);
        x.older(0, 1);
        c.due("another one", x.forged(), 8 + 1);
        x.older(2, 3);
        c.due("the one that tells twice", x.forged(), 8 + 1);
        x.label(1, 9);
        c.due("by a label", x.forged(), 8);
        x.label(3, 0);
        c.due("one is left", x.forged(), 4);
        x.label(2, 0);
        c.due("like dates again", x.forged(), 4);
        x.label(3, 9);
        // 3 is older than 0 and 4: both wrong now, 2 older than 3: so
        c.due("the middle", x.forged(), 8);
        x.open(2);
        x.older(0, 2);
        c.due("a gone one has its date still", x.forged(), 8 + 1);
    }

    private static void forgingFewest() {
        // a star: one forged jar explains five words, but its number is the greatest
        DatedJars x = Checks.landOf("house 0 0;jar glass 0 1 1 0;jar glass 0 1 1 0;jar glass 0 1 1 0;jar glass 0 1 1 0;jar glass 0 1 1 0;jar glass 0 5 1 0;");
        for (int j = 0; j < 5; j++) {
            x.older(5, j);
        }
        c.due("a star", x.forged(), 32);
        // a round of five like dates needs three
        DatedJars y = fiveJars();
        y.label(0, 1);
        y.label(1, 1);
        y.label(2, 1);
        for (int j = 0; j < 5; j++) {
            y.older(j, (j + 1) % 5);
        }
        c.due("a round", y.forged(), 1 + 2 + 8);
        // three words of twelve jars: the lesser of each
        DatedJars z = Checks.landOf("house 0 0;jar glass 0 1 1 0;jar glass 0 1 1 0;jar glass 0 1 1 0;jar glass 0 1 1 0;jar glass 0 1 1 0;jar glass 0 1 1 0;");
        z.older(5, 0);
        z.older(1, 4);
        z.older(3, 2);
        c.due("pairs", z.forged(), 1 + 2 + 4);
    }

    private static void writing() {
        DatedJars x = fiveJars();
        String before = Checks.look(x);
        c.refused(x, before, "write(0, 5)", x.write(0, 5), UNKNOWN);
        c.refused(x, before, "write(-1, -1): UNKNOWN first", x.write(-1, -1), UNKNOWN);
        c.refused(x, before, "write(-1, 0)", x.write(-1, 0), OUTSIDE);
        c.refused(x, before, "write(10000, 0)", x.write(10000, 0), OUTSIDE);
    }

    private static void writingThirty() {
        DatedJars x = fiveJars();
        c.due("write(9999, 0)", x.write(9999, 0), 1);
        for (int i = 2; i <= 30; i++) {
            c.due("write no. " + i, x.write(0, 0), i);
        }
        String before = Checks.look(x);
        c.refused(x, before, "write no. 31", x.write(0, 0), FULL);
        c.refused(x, before, "write no. 31 out of bounds: OUTSIDE first", x.write(10000, 0), OUTSIDE);
        c.due("told(9)", x.told(9), 30);
    }

    private static void tearing() {
        DatedJars x = fiveJars();
        c.due("tear() of nothing", x.tear(), 0);
        x.older(0, 1);
        x.older(1, 2);
        x.write(0, 0);
        c.due("tear()", x.tear(), 3);
        c.due("no glass", x.told(8), 0);
        c.due("no book", x.told(9), 0);
        c.due("forged()", x.forged(), 0);
        c.due("judge()", x.judge(), NONE);
        c.due("tear() again", x.tear(), 0);
    }

    private static void judging() {
        DatedJars x = fiveJars();
        c.due("an empty book", x.judge(), NONE);
        x.write(1, 3);
        x.write(1, 4);
        x.write(3, 2);
        c.due("a right book", x.judge(), NONE);
        x.law(1);
        c.due("by law 1 the third is late", x.judge(), 2);
        x.law(2);
        x.write(4, 0);
        x.write(3, 1);
        c.due("by law 2 a year is less than the one ahead", x.judge(), 4);
        x.tear();
        x.write(0, 0);
        c.due("by law 2 any year", x.judge(), NONE);
        x.law(0);
        c.due("by law 0 too early", x.judge(), 0);
        x.label(0, 0);
        c.due("by the date that it has now", x.judge(), NONE);
        x.write(5, 3);
        x.write(6, 0);
        c.due("opened ahead", x.judge(), 2);
        x.tear();
        x.open(0);
        x.write(5, 0);
        c.due("the book alone tells what was opened ahead", x.judge(), NONE);
    }

    private static void seeds() {
        DatedJars x = fiveJars();
        c.due("seed(5)", x.seed(5), 0);
        c.due("seed(-1)", x.seed(-1), OUTSIDE);
        c.due("seed(min)", x.seed(Integer.MIN_VALUE), OUTSIDE);
        c.due("seed(2147483647)", x.seed(2147483647), 5);
        c.due("seed(0)", x.seed(0), 2147483647);
        x.drift(1);
        c.due("one draw from 0", x.seed(0), 12345);
    }

    private static DatedJars twoOfTwo() {
        return Checks.landOf("harvest 9,0;house 4 2;house 8 0;jar plain 0 0 4 9;jar plum 1 0 5 9;");
    }

    private static void imagesThatThereAreNot() {
        DatedJars x = twoOfTwo();
        String before = Checks.look(x);
        c.refused(x, before, "keep(-1)", x.keep(-1), UNKNOWN);
        c.refused(x, before, "keep(2)", x.keep(2), UNKNOWN);
        c.refused(x, before, "goBack(-1)", x.goBack(-1), UNKNOWN);
        c.refused(x, before, "goBack(2)", x.goBack(2), UNKNOWN);
        c.refused(x, before, "goBack(0)", x.goBack(0), NOT);
        c.refused(x, before, "goBack(1)", x.goBack(1), NOT);
    }

    private static void images() {
        DatedJars x = twoOfTwo();
        String before = Checks.look(x);
        x.seed(3);
        c.due("keep(1)", x.keep(1), 1);
        c.due("goBack(0)", x.goBack(0), NOT);
        x.open(0);
        x.give(1, 0);
        x.label(1, 7);
        x.seals(1, 6);
        x.law(2);
        x.drift(2);
        x.open(1);
        String later = Checks.look(x);
        c.due("keep(0)", x.keep(0), 1);
        c.due("goBack(1)", x.goBack(1), 1);
        c.refused(x, before, "all as it was", x.seed(3), 3);
        c.due("goBack(0)", x.goBack(0), 1);
        c.refused(x, later, "all as it was later", x.goBack(0), 1);
        x.year(5);
        c.due("keep(0) again", x.keep(0), 1);
        int year = x.told(3);
        x.goBack(1);
        x.goBack(0);
        c.due("the later image", x.told(3), year);
        x.older(0, 1);
        x.write(0, 1);
        Checks.feedText(x, "abc");
        x.goBack(1);
        c.due("glass is not of the image", x.told(8), 1);
        c.due("the book is not of the image", x.told(9), 1);
        c.due("the text is not of the image", x.told(2), 3);
    }

    private static void imagesAndJarsThatAreNoMore() {
        DatedJars x = Checks.landOf("harvest 9;house 4 2;jar plain 0 50 4 9;");
        x.keep(0);
        x.year(1);
        c.due("a new jar", x.told(1), 2);
        x.label(1, 20);
        x.older(0, 1);
        x.write(60, 0);
        x.write(60, 1);
        c.due("forged()", x.forged(), 1);
        c.due("judge()", x.judge(), NONE);
        x.goBack(0);
        c.due("one jar is no more", x.told(1), 1);
        c.due("forged() without it", x.forged(), 0);
        c.due("judge() without it", x.judge(), 1);
        c.due("what glass told stays", x.told(8), 1);
        x.law(2);
        c.due("by law 2 it is no jar all the same", x.judge(), 1);
        c.due("jar(1, 0)", x.jar(1, 0), UNKNOWN);
        x.law(0);
        x.year(1);
        c.due("another jar of that number", x.told(1), 2);
        c.due("forged() by its date", x.forged(), 1);
    }
}
