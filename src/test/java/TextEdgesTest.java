import java.util.function.ToIntFunction;

/** The document's part 1 and promises 1 to 4, sentence by sentence, at their edges. */
public final class TextEdgesTest {
    private static final Checks c = new Checks("TextEdgesTest");
    private static final int NONE = DatedJars.NONE, OUTSIDE = DatedJars.OUTSIDE, NOT = DatedJars.NOT, FULL = DatedJars.FULL;
    private static final String HOUSE = "house 1 1;", JAR = "jar plum 0 1 1 1;", SLOT = "@";

    public static void main(String[] args) {
        aNewObject();
        fourHundredBytes();
        upToEightBytes();
        theHighestFirst();
        eightHarvests();
        tenUntold();
        harvestOnce();
        fourHouses();
        twelveJars();
        kindsNumberedSo();
        boundsOfNumbers();
        aHouseToldAhead();
        oneToThreeFigures();
        wordsOfLetters();
        blanksAnywhere();
        blanksNotWithin();
        blanksThatAreNeeded();
        everyByte();
        theEndAtItsLength();
        theFirstByteThatHasOne();
        theLeastOfThese();
        theTextIsEmptyThen();
        theLandAnew();
        allIsAsItWas();
        faultOfTheLatest();
        c.finish();
    }

    private static DatedJars lived() {
        DatedJars x = Checks.landOf("harvest 30,4;house 10 2;house 40 0;jar glass 1 0 7 0;jar plain 0 9 20 4;jar plum 1 0 3 3;");
        x.law(2);
        x.seed(99);
        x.keep(0);
        x.open(0);
        x.year(2);
        x.open(1);
        x.older(0, 1);
        x.write(0, 1);
        x.keep(1);
        return x;
    }

    private static DatedJars taken(String text, int houses, int jars) {
        DatedJars x = lived();
        c.due("land of '" + text + "'", Checks.tell(x, text), houses);
        c.due("fault of '" + text + "'", x.fault(), NONE);
        c.due("houses of '" + text + "'", x.told(0), houses);
        c.due("jars of '" + text + "'", x.told(1), jars);
        c.due("bytes after '" + text + "'", x.told(2), 0);
        c.due("GONE ones of '" + text + "'", x.told(7), 0);
        return x;
    }

    private static void fault(String text, int number, int at) {
        DatedJars x = lived();
        String before = Checks.lookAtLand(x);
        c.due("land of '" + text + "'", Checks.tell(x, text), -10 - number);
        c.due("fault of '" + text + "'", x.fault(), at);
        c.due("bytes after '" + text + "'", x.told(2), 0);
        c.same("'" + text + "'", Checks.lookAtLand(x), before);
    }

    /** "No HOUSES, no JARS." */
    private static void aNewObject() {
        DatedJars x = new DatedJars();
        int[] due = {0, 0, 0, 0, 0, 10, 0, 0, 0, 0};
        for (int what = 0; what < due.length; what++) {
            c.due("new: told(" + what + ")", x.told(what), due[what]);
        }
        c.due("new: house(0, 0)", x.house(0, 0), DatedJars.UNKNOWN);
        c.due("new: jar(0, 0)", x.jar(0, 0), DatedJars.UNKNOWN);
        c.due("new: fault()", x.fault(), NONE);
        c.due("new: the seed", x.seed(1), 0);
        c.due("new: the law", x.law(1), 0);
        c.due("new: image 0", x.goBack(0), NOT);
        c.due("new: image 1", x.goBack(1), NOT);
        c.due("new: year(99)", x.year(99), 0);
        c.due("new: drift(1) draws for nobody", x.drift(1), 0);
        c.due("new: the seed is as it was put", x.seed(0), 1);
        c.due("new: the year", x.told(3), 100);
        c.due("new: siege(20, 20)", x.siege(20, 20), 0);
        c.due("new: when(1, 0)", x.when(1, 0), 1);
        c.due("new: when(20, 999)", x.when(20, 999), 20);
        c.due("new: change(20)", x.change(20), 0);
        c.due("new: forged()", x.forged(), 0);
        c.due("new: judge()", x.judge(), NONE);
        c.due("new: tear()", x.tear(), 0);
        c.due("new: keep(0)", x.keep(0), 1);
        c.due("new: goBack(0)", x.goBack(0), 1);
        DatedJars another = new DatedJars();
        c.due("nothing is shared: the law", another.told(4), 0);
        c.due("nothing is shared: the year", another.told(3), 0);
        c.due("nothing is shared: image 0", another.goBack(0), NOT);
    }

    /** "400 bytes at most"; "FULL (400)". */
    private static void fourHundredBytes() {
        for (int n = 1; n <= 8; n++) {
            DatedJars x = new DatedJars();
            Checks.feedText(x, " ".repeat(400 - n));
            c.due("feed(" + n + ") up to 400", x.feed(n, 0x2020202020202020L), 400);
            for (int more = 1; more <= 8; more++) {
                c.due("feed(" + more + ") at 400", x.feed(more, 0x2020202020202020L), FULL);
            }
            c.due("400 bytes of blanks", x.land(), 0);
            x = new DatedJars();
            Checks.feedText(x, " ".repeat(401 - n));
            c.due("feed(" + n + ") up to 401", x.feed(n, 0x7878787878787878L), FULL);
            c.due("none of these came", x.told(2), 401 - n);
            c.due("not one x came", x.land(), 0);
        }
        String full = " ".repeat(390) + HOUSE;
        taken(full, 1, 0);
        taken(HOUSE + " ".repeat(390), 1, 0);
        taken("harvest 1;" + HOUSE.repeat(4) + JAR.repeat(12) + " ".repeat(146), 4, 12);
        fault(" ".repeat(399) + "x", 1, 399);
        fault(" ".repeat(399) + ";", 1, 399);
        fault(" ".repeat(391) + "house 1 1", 1, 400);
        fault(" ".repeat(391) + "house 121", 2, 397);
    }

    /** "Up to eight bytes (n 1 .. 8)": how many it has. */
    private static void upToEightBytes() {
        DatedJars x = new DatedJars();
        int length = 0;
        for (int n = 1; n <= 8; n++) {
            length += n;
            c.due("feed(" + n + ")", x.feed(n, 0x2020202020202020L), length);
            c.due("told(2)", x.told(2), length);
        }
        int[] outside = {Integer.MIN_VALUE, -8, -1, 0, 9, 16, 256 + 8, Integer.MAX_VALUE};
        for (int n : outside) {
            c.changesNothing("feed(" + n + ")", TextEdgesTest::lived, y -> y.feed(n, 0x3b), OUTSIDE);
        }
    }

    /** "the highest of these first": of the n lowest bytes of the long, whatever stands above. */
    private static void theHighestFirst() {
        DatedJars x = new DatedJars();
        x.feed(8, 0x686f757365203120L);
        x.feed(2, 0x313bL);
        c.due("'house 1 ' '1;'", x.land(), 1);
        x.feed(6, 0xffff686f75736520L);
        x.feed(4, 0x0000003b3120313bL);
        c.due("what is above is not looked at", x.land(), 1);
        for (int n = 1; n <= 8; n++) {
            DatedJars y = new DatedJars();
            long packed = 0;
            for (int i = 0; i < n; i++) {
                packed = packed << 8 | 0x20;
            }
            // the byte at place i of these is the fault; above all n there are other signs
            for (int i = 0; i < n; i++) {
                long sign = packed ^ (0x20L ^ 0x80L) << 8 * (n - 1 - i);
                y.feed(n, n == 8 ? sign : sign | 0x3fL << 8 * n);
                c.due("feed(" + n + "): a sign above 127", y.land(), -11);
                c.due("feed(" + n + "): at its place", y.fault(), i);
            }
        }
    }

    /** "'harvest' Q {',' Q} ';' (8 numbers at most"; "a ninth number of 'harvest': at its ','". */
    private static void eightHarvests() {
        StringBuilder text = new StringBuilder("harvest 11");
        for (int n = 1; n <= 8; n++) {
            DatedJars x = taken(text + ";", 0, 0);
            for (int t = 0; t < 20; t++) {
                c.due(n + " told: THE HARVEST of year " + t, x.told(5), 11 + t % n);
                x.year(1);
            }
            text.append(',').append(11 + n);
        }
        int comma = text.lastIndexOf(",");
        fault(text + ";", 1, comma);
        fault(text.toString(), 1, comma);
        fault(text.substring(0, comma + 1), 1, comma);
        fault(text.substring(0, comma) + ",1000;", 1, comma);
        fault(text.substring(0, comma) + "  , 1;", 1, comma + 2);
        fault(text.substring(0, comma), 1, comma);
        fault("harvest;", 1, 7);
        fault("harvest ,1;", 1, 8);
        fault("harvest 1,;", 1, 10);
        fault("harvest 1,,1;", 1, 10);
        fault("harvest 1 1;", 1, 10);
    }

    /** "10 untold". */
    private static void tenUntold() {
        DatedJars x = taken("house 12 0;", 1, 0);
        for (int t = 0; t < 10; t++) {
            c.due("untold: THE HARVEST of year " + t, x.told(5), 10);
            c.due("untold: HUNGER of year " + t, x.year(1), 2);
        }
        x = taken("harvest 0;house 12 0;", 1, 0);
        c.due("told as 0 is told", x.told(5), 0);
        c.due("told as 0: HUNGER", x.year(1), 12);
    }

    /** "once"; FAULT "3 'harvest' again". */
    private static void harvestOnce() {
        taken(HOUSE + "harvest 1;" + JAR, 1, 1);
        fault("harvest 1;harvest 1;", 3, 10);
        fault("harvest 1; harvest", 3, 11);
        fault("harvest 1;harvest?", 3, 10);
        fault("harvest 1;" + HOUSE + "harvest 1,2;", 3, 20);
        fault("harvest 1;harvests 1;", 1, 10);
        fault("harvest 1 harvest 1;", 1, 10);
    }

    /** "4 HOUSES at most"; FAULT "3 .. a fifth HOUSE". */
    private static void fourHouses() {
        for (int n = 0; n <= 4; n++) {
            taken(HOUSE.repeat(n), n, 0);
        }
        fault(HOUSE.repeat(5), 3, 40);
        fault(HOUSE.repeat(4) + "  house", 3, 42);
        fault(HOUSE.repeat(4) + "house 100", 3, 40);
        fault(HOUSE.repeat(4) + "houses", 1, 40);
        taken(HOUSE.repeat(4) + JAR + "harvest 1;", 4, 1);
    }

    /** "12 JARS at most"; FAULT "3 .. a 13th JAR". */
    private static void twelveJars() {
        for (int n = 0; n <= 12; n++) {
            taken(HOUSE + JAR.repeat(n), 1, n);
        }
        int end = 10 + 12 * 17;
        fault(HOUSE + JAR.repeat(13), 3, end);
        fault(HOUSE + JAR.repeat(12) + " jar", 3, end + 1);
        fault(HOUSE + JAR.repeat(12) + "jar brass", 3, end);
        fault(HOUSE + JAR.repeat(12) + "jars", 1, end);
        taken(HOUSE + JAR.repeat(12) + HOUSE + "harvest 1;", 2, 12);
    }

    /** "KIND 'plain' 'plum' 'glass', numbered so". */
    private static void kindsNumberedSo() {
        String[] kinds = {"plain", "plum", "glass"};
        for (int i = 0; i < kinds.length; i++) {
            DatedJars x = taken(HOUSE + "jar " + kinds[i] + " 0 1 1 1;", 1, 1);
            c.due("KIND " + kinds[i], x.jar(0, 0), i);
            fault(HOUSE + "jar " + kinds[i] + "s 0 1 1 1;", 1, 14);
            fault(HOUSE + "jar " + kinds[i].substring(1) + " 0 1 1 1;", 1, 14);
            fault(HOUSE + "jar " + kinds[i].substring(0, kinds[i].length() - 1) + " 0 1 1 1;", 1, 14);
            fault(HOUSE + kinds[i] + " 0 1 1 1;", 1, 10);
        }
        fault(HOUSE + "jar house 0 1 1 1;", 1, 14);
        fault(HOUSE + "jar Plum 0 1 1 1;", 1, 14);
        fault(HOUSE + "jar 0 1 1 1;", 1, 14);
        fault(HOUSE + "jar;", 1, 13);
    }

    /** A NUMBER with its bounds, told at a slot; what it is afterwards is looked up. */
    private static void slot(String text, int least, int most, ToIntFunction<DatedJars> lookedUp) {
        int at = text.indexOf(SLOT);
        for (int v : new int[] {least, most}) {
            for (String form : new String[] {"" + v, String.format("%03d", v)}) {
                DatedJars x = new DatedJars();
                c.due("land of '" + text + "' with " + form, Checks.tell(x, text.replace(SLOT, form)) >= 0 ? 1 : 0, 1);
                c.due("'" + text + "' with " + form, lookedUp.applyAsInt(x), v);
            }
        }
        String[] outOfBounds = {"" + (most + 1), String.format("%03d", most + 1), "999", "1000", "0000", String.format("%04d", most),
            "4294967296", "4294967297", "18446744073709551617", "9".repeat(99)};
        for (String form : outOfBounds) {
            fault(text.replace(SLOT, form), 2, at);
        }
        for (int v = 0; v < least; v++) {
            fault(text.replace(SLOT, "" + v), 2, at);
            fault(text.replace(SLOT, "00" + v), 2, at);
        }
        for (String form : new String[] {"", "-1", "+1", "x", "?", ";", ",", "plum"}) {
            // a number that is left out: what comes next cannot stand there, wherever that is
            int next = at;
            String told = text.replace(SLOT, form);
            while (next < told.length() && told.charAt(next) == ' ') {
                next++;
            }
            boolean numberNext = next < told.length() && told.charAt(next) >= '0' && told.charAt(next) <= '9';
            if (!numberNext) {
                fault(told, 1, next);
            }
        }
    }

    /** The bounds of each NUMBER: the last that is taken and the first that is not. */
    private static void boundsOfNumbers() {
        slot("harvest @;", 0, 99, x -> x.told(5));
        slot("harvest 1,@;", 0, 99, x -> x.year(1) + x.told(5));
        slot("harvest 1,2,@,4;", 0, 99, x -> x.year(2) + x.told(5));
        slot("harvest 1,2,3,4,5,6,7,@;", 0, 99, x -> x.year(7) + x.told(5));
        slot("house @ 1;", 0, 99, x -> x.house(0, 0));
        slot("house 1 @;", 0, 20, x -> x.house(0, 1));
        slot("house 1 1;house @ 1;", 0, 99, x -> x.house(1, 0));
        slot("house 1 1;house 1 1;house 1 1;house 1 @;", 0, 20, x -> x.house(3, 1));
        slot(HOUSE + "jar plain 0 @ 1 1;", 0, 99, x -> x.jar(0, 2));
        slot(HOUSE + "jar plum 0 1 @ 1;", 1, 99, x -> x.jar(0, 3));
        slot(HOUSE + "jar glass 0 1 1 @;", 0, 99, x -> x.jar(0, 4));
        slot(HOUSE + JAR.repeat(11) + "jar glass 0 1 @ 1;", 1, 99, x -> x.jar(11, 3));
    }

    /** "of HOUSE H told ahead"; FAULT 2 "a HOUSE that was not told yet (at its first)". */
    private static void aHouseToldAhead() {
        for (int n = 1; n <= 4; n++) {
            slot(HOUSE.repeat(n) + "jar plain @ 1 1 1;", 0, n - 1, x -> x.jar(0, 1));
        }
        fault("jar plain 0 1 1 1;", 2, 10);
        fault("jar plain 0 1 1 1;" + HOUSE, 2, 10);
        fault(HOUSE + "jar plain 1 1 1 1;" + HOUSE, 2, 20);
        fault("jar plain 0000 1 1 1;", 2, 10);
        fault("jar plain x", 1, 10);
        taken(HOUSE + "jar plain 0 1 1 1;" + HOUSE + "jar plain 1 1 1 1;", 2, 2);
    }

    /** "NUMBERS have one to three figures". */
    private static void oneToThreeFigures() {
        DatedJars x = taken("harvest 007;house 7 07;house 09 009;jar plain 001 002 003 004;", 2, 1);
        c.due("007", x.told(5), 7);
        c.due("7", x.house(0, 0), 7);
        c.due("07", x.house(0, 1), 7);
        c.due("09", x.house(1, 0), 9);
        c.due("009", x.house(1, 1), 9);
        for (int what = 1; what <= 4; what++) {
            c.due("00" + what, x.jar(0, what), what);
        }
        fault("harvest 0007;", 2, 8);
        fault("harvest 00000000000000000007;", 2, 8);
        fault("harvest 0007", 2, 8);
        fault("harvest 0007x", 2, 8);
        fault("harvest 007x", 1, 11);
    }

    /** "words are letters a .. z side by side". */
    private static void wordsOfLetters() {
        for (String word : new String[] {"harvest", "house", "jar"}) {
            String rest = word.equals("house") ? " 1 1;" : word.equals("jar") ? " plum 0 1 1 1;" : " 1;";
            int jars = word.equals("jar") ? 1 : 0;
            taken(HOUSE + word + rest, word.equals("house") ? 2 : 1, jars);
            for (String wrong : new String[] {word + "a", word + "z", "a" + word, "z" + word, word + word,
                word.substring(0, word.length() - 1), word.substring(1)}) {
                fault(HOUSE + wrong + rest, 1, 10);
            }
            // signs next to a and z are no letters: the word ends ahead of them
            fault(HOUSE + word + "`" + rest, 1, 10 + word.length());
            fault(HOUSE + word + "{" + rest, 1, 10 + word.length());
            fault(HOUSE + word + "Z" + rest, 1, 10 + word.length());
            fault(HOUSE + word.toUpperCase() + rest, 1, 10);
        }
    }

    /** "blanks (32) may stand anywhere but within words and NUMBERS". */
    private static void blanksAnywhere() {
        String[] parts = {"harvest", "10", ",", "11", ";", "house", "12", "13", ";", "jar", "plain", "0", "14", "15", "16", ";"};
        for (int wide = 0; wide <= parts.length; wide++) {
            StringBuilder text = new StringBuilder();
            for (int i = 0; i <= parts.length; i++) {
                text.append(i == wide ? "     " : " ").append(i < parts.length ? parts[i] : "");
            }
            DatedJars x = taken(text.toString(), 1, 1);
            c.due("Q of it", x.jar(0, 3), 15);
        }
        StringBuilder tight = new StringBuilder();
        for (int i = 0; i < parts.length; i++) {
            boolean alike = i > 0 && Character.isLetterOrDigit(parts[i].charAt(0))
                && Character.isLetter(parts[i].charAt(0)) == Character.isLetter(parts[i - 1].charAt(0))
                && Character.isLetterOrDigit(parts[i - 1].charAt(0));
            tight.append(alike ? " " : "").append(parts[i]);
        }
        c.due("as few blanks as can be", tight.indexOf("house12 13;jar plain0 14") > 0 ? 1 : 0, 1);
        c.due("Q of it", taken(tight.toString(), 1, 1).jar(0, 3), 15);
        taken("", 0, 0);
        taken(" ", 0, 0);
        taken(" ".repeat(400), 0, 0);
    }

    private static void blanksNotWithin() {
        for (String word : new String[] {"harvest", "house", "jar", "plain", "plum", "glass"}) {
            boolean kind = word.startsWith("p") || word.startsWith("g");
            String ahead = HOUSE + (kind ? "jar " : "");
            for (int i = 1; i < word.length(); i++) {
                fault(ahead + word.substring(0, i) + " " + word.substring(i) + " 0 1 1 1;", 1, ahead.length());
            }
        }
        fault("harvest 1 0;", 1, 10);
        fault("house 1 0 20;", 1, 10);
        fault("house 10 2 0;", 1, 11);
        fault(HOUSE + "jar plum 0 1 1 1 0;", 1, 27);
    }

    /** "two words, two NUMBERS side by side need one": a word and a NUMBER do not. */
    private static void blanksThatAreNeeded() {
        fault(HOUSE + "jarplum 0 1 1 1;", 1, 10);
        fault("house 11;", 1, 8);
        fault(HOUSE + "jar plum 00 1 1;", 1, 25);
        fault(HOUSE + "jar plum 01 1 1;", 2, 19);
        fault(HOUSE + "jar plum 0 11 1;", 1, 25);
        fault(HOUSE + "jar plum 0 1 11;", 1, 25);
        taken("house1 1;", 1, 0);
        taken("harvest1;", 0, 0);
        taken(HOUSE + "jar plum0 1 1 1;", 1, 1);
        fault("house 1x1;", 1, 7);
        fault("house 1 1x;", 1, 9);
    }

    /** Each of the 256 bytes, ahead of, within and behind a clause. */
    private static void everyByte() {
        for (int b = 0; b < 256; b++) {
            String sign = Character.toString((char) b);
            boolean figure = b >= '0' && b <= '9';
            if (b == ' ') {
                taken(sign + HOUSE, 1, 0);
                taken(HOUSE + sign, 1, 0);
                taken("house 1" + sign + "1;", 1, 0);
                continue;
            }
            fault(sign + HOUSE, 1, 0);
            fault(HOUSE + sign, 1, 10);
            fault("house 1" + sign + "1;", figure ? 2 : 1, figure ? 6 : 7);
            if (b != ';') {
                // a figure makes it 10 to 19, and the end comes too soon
                fault("house 1 1" + sign, 1, figure ? 10 : 9);
            }
        }
    }

    /** "the end at the text's length": every beginning of a text, also where another one was longer. */
    private static void theEndAtItsLength() {
        String whole = "harvest 10, 11 ;house 12 13; jar plain 0 14 15 16;";
        for (int length = 0; length < whole.length(); length++) {
            String cut = whole.substring(0, length);
            String clauses = cut.substring(0, cut.lastIndexOf(';') + 1);
            if (cut.substring(clauses.length()).isBlank()) {
                taken(cut, clauses.contains("house") ? 1 : 0, 0);
                continue;
            }
            int word = length;
            while (word > 0 && Character.isLetter(whole.charAt(word - 1))) {
                word--;
            }
            boolean cutWithin = word < length && Character.isLetter(whole.charAt(length));
            fault(cut, 1, cutWithin ? word : length);
            fault(cut + (cutWithin ? "" : "  "), 1, cutWithin ? word : length + 2);
        }
        taken(whole, 1, 1);
    }

    /** "FAULTS, at the first byte that has one". */
    private static void theFirstByteThatHasOne() {
        fault("house 100 21;", 2, 6);
        fault("house 99 21;;", 2, 9);
        fault("house 99 20;;house 100", 1, 12);
        fault("house 100 x;", 2, 6);
        fault("harvest 1;house x;harvest 1;", 1, 16);
        fault("harvest 1;harvest x;", 3, 10);
        fault(HOUSE + "jar plum 1 100 0 100;", 2, 19);
        fault(HOUSE + "jar plum 0 100 0 100;", 2, 21);
        fault(HOUSE + "jar plum 0 99 0 100;", 2, 24);
        fault(HOUSE + "jar plum 0 99 99 100;", 2, 27);
        fault(HOUSE + "jar plum 0 99 99 99", 1, 29);
        fault(HOUSE + "jar lead 9 100 0 100", 1, 14);
        fault(HOUSE.repeat(4) + "house 1 1;?", 3, 40);
    }

    /** "of these the least": a NUMBER of four figures where no NUMBER can stand, is 1. */
    private static void theLeastOfThese() {
        fault("1000", 1, 0);
        fault("house 1 1 1000;", 1, 10);
        fault("harvest 1 1000;", 1, 10);
        fault(HOUSE + "jar 1000 1 1 1;", 1, 14);
        fault(HOUSE + "jar plum 0 1 1 1 1000;", 1, 27);
        fault(HOUSE + "1000", 1, 10);
        fault("harvest 1,2,3,4,5,6,7,8 1000;", 1, 24);
        fault("harvest 1; house 1 harvest 1;", 1, 19);
        fault(HOUSE.repeat(4) + "jar house 1 1;", 1, 44);
    }

    /** "THE TEXT (it is empty then)": with a FAULT, too. */
    private static void theTextIsEmptyThen() {
        DatedJars x = new DatedJars();
        Checks.feedText(x, HOUSE);
        c.due("told(2)", x.told(2), 10);
        c.due("land()", x.land(), 1);
        c.due("told(2) then", x.told(2), 0);
        c.due("land() of nothing", x.land(), 0);
        c.due("no HOUSES then", x.told(0), 0);
        Checks.feedText(x, "house 1 1");
        c.due("land() with a FAULT", x.land(), -11);
        c.due("told(2) then", x.told(2), 0);
        c.due("feed(1) is the first byte", x.feed(1, ';'), 1);
        c.due("what was there is not there", x.land(), -11);
        c.due("its byte", x.fault(), 0);
    }

    /** "YEAR 0, no STOCKS, HUNGER, GLASS, BOOK; IMAGES are gone; LAW, THE SEED stay". */
    private static void theLandAnew() {
        DatedJars x = lived();
        c.due("YEAR ahead of it", x.told(3), 2);
        c.due("HUNGER ahead of it", x.told(6) > 0 ? 1 : 0, 1);
        c.due("STOCK ahead of it", x.house(0, 2) > 0 ? 1 : 0, 1);
        c.due("land()", Checks.tell(x, "house 7 0;house 8 0;jar plum 0 0 5 5;jar plum 1 0 5 5;jar plum 1 0 5 5;"), 2);
        int[] due = {2, 3, 0, 0, 2, 10, 0, 0, 0, 0};
        for (int what = 0; what < due.length; what++) {
            c.due("land anew: told(" + what + ")", x.told(what), due[what]);
        }
        c.due("no STOCK of 0", x.house(0, 2), 0);
        c.due("no STOCK of 1", x.house(1, 2), 0);
        c.due("AGE 0", x.jar(1, 5), 0);
        c.due("image 0 is gone", x.goBack(0), NOT);
        c.due("image 1 is gone", x.goBack(1), NOT);
        c.due("THE SEED stays", x.seed(0), 99);
        c.due("GLASS begins anew", x.older(0, 1), 1);
        c.due("THE BOOK begins anew", x.write(0, 0), 1);
    }

    /** "-10 less the number of its FAULT (all is as it was)". */
    private static void allIsAsItWas() {
        String[] texts = {"x", "harvest 1,2;house 9 9;jar plum 0 1 1 1;house 100", "harvest 1;harvest"};
        for (int i = 0; i < texts.length; i++) {
            DatedJars x = lived();
            c.due("land of '" + texts[i] + "'", Checks.tell(x, texts[i]), -11 - i);
            DatedJars other = lived();
            Checks.tell(other, "?");
            Checks.tell(x, "?");
            c.same("a FAULT of " + (i + 1), Checks.spend(x), Checks.spend(other));
        }
    }

    /** "The byte of the FAULT of the latest land(); NONE." */
    private static void faultOfTheLatest() {
        DatedJars x = new DatedJars();
        c.due("ahead of any land()", x.fault(), NONE);
        Checks.tell(x, "  ?");
        c.due("after a FAULT", x.fault(), 2);
        Checks.feedText(x, " ");
        c.due("feed() leaves it", x.fault(), 2);
        x.year(1);
        x.told(77);
        c.due("other calls leave it", x.fault(), 2);
        Checks.tell(x, "     ?");
        c.due("after the next FAULT", x.fault(), 6);
        Checks.tell(x, HOUSE);
        c.due("after a land without", x.fault(), NONE);
        Checks.tell(x, "?");
        c.due("a FAULT at byte 0", x.fault(), 0);
        x.land();
        c.due("after an empty text", x.fault(), NONE);
    }
}
