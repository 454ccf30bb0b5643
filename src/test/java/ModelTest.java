import java.util.Random;

/** Random runs of calls, compared with the Model; the draws are the same in every run of the test. */
public final class ModelTest {
    private static final Checks c = new Checks("ModelTest");
    private static final int RUNS = 900;
    /** What an object answers behind so many calls is free. */
    private static final int MOST_CALLS = 512;
    /** A look at 4 HOUSES, 24 JARS and one of each that there is not; a text of 400 bytes. */
    private static final int CALLS_OF_A_LOOK = 12 + 5 * 7 + 25 * 8 + 2;
    private static final int CALLS_OF_A_TEXT = 52;
    private static final String[] PIECES = {"house", "jar", "harvest", "plain", "plum", "glass", " ", " ", ",", ";", ";",
        "0", "1", "20", "21", "99", "100", "0001", "x", "?", "house 1 1;", "jar plum 0 1 1 1;", "harvest 3,4;"};

    private final DatedJars x = new DatedJars();
    private final Model m = new Model();
    private final Random r;
    private final String run;
    private int calls;

    private ModelTest(long seed) {
        r = new Random(seed);
        run = "run " + seed + ": ";
    }

    public static void main(String[] args) {
        for (int i = 0; i < RUNS; i++) {
            new ModelTest(i).go();
        }
        new ModelTest(-1).manyChanges();
        for (int i = 0; i < 4000; i++) {
            new ModelTest(100000 + i).oneText();
        }
        c.finish();
    }

    private void go() {
        tell(goodText());
        while (hasCallsFor(CALLS_OF_A_LOOK + 2)) {
            oneCall();
            if (r.nextBoolean()) {
                oneLook();
            }
            if (r.nextInt(150) == 0 && hasCallsFor(CALLS_OF_A_LOOK + CALLS_OF_A_TEXT)) {
                tell(r.nextInt(3) == 0 ? "house 1 1;?" : goodText());
            }
        }
        lookAtAll();
        end();
    }

    private boolean hasCallsFor(int more) {
        return calls + more <= MOST_CALLS;
    }

    private void end() {
        c.due(run + "calls within what is promised (1: yes)", calls <= MOST_CALLS ? 1 : 0, 1);
    }

    /** 24 jars that can be changed about more often than once is allowed. */
    private void manyChanges() {
        tell("harvest 99,99,99,12,8,33,30,24;house 34 20;house 97 20;house 39 20;house 88 20;"
            + "jar plain 2 6 70 18;jar plum 0 5 49 4;jar glass 1 22 51 9;jar plum 2 13 55 0;jar plum 0 10 5 9;jar plum 3 15 5 13;"
            + "jar plain 3 14 73 0;jar glass 2 21 37 2;jar plum 3 12 2 12;jar plain 2 15 4 1;jar glass 2 9 84 16;jar plain 0 8 5 14;");
        same("year(3)", x.year(3), m.year(3));
        for (int h = 0; h < 4; h++) {
            same("seals", x.seals(h, 0), m.seals(h, 0));
        }
        int[] owners = {2, 3, 0, 0, 1, 1, 3, 1, 0, 3, 3, 0};
        int[] dates = {18, 21, 13, 3, 4, 16, 9, 15, 10, 4, 16, 13};
        for (int i = 0; i < 12; i++) {
            same("give", x.give(12 + i, owners[i]), m.give(12 + i, owners[i]));
            same("label", x.label(12 + i, dates[i]), m.label(12 + i, dates[i]));
        }
        c.due("change(20) of the model", m.change(20), 20);
        same("change(20)", x.change(20), 20);
        for (int j = 0; j < 24; j++) {
            same("jar(" + j + ", 1)", x.jar(j, 1), m.jar(j, 1));
        }
        c.due("change(20) again of the model", m.change(20), 2);
        same("change(20) again", x.change(20), 2);
        lookAtAll();
        end();
    }

    private void oneText() {
        StringBuilder s = new StringBuilder(r.nextBoolean() ? "" : goodText());
        if (r.nextInt(3) == 0 && s.length() > 0) {
            int at = r.nextInt(s.length());
            s.replace(at, at + 1, PIECES[r.nextInt(PIECES.length)]);
        } else {
            for (int i = r.nextInt(12); i > 0; i--) {
                s.append(PIECES[r.nextInt(PIECES.length)]);
            }
        }
        tell(s.toString());
        lookAtAll();
        end();
    }

    /** In pieces of eight bytes, the last one of what is left, above them bytes that are not asked for. */
    private void tell(String text) {
        for (int i = 0; i < text.length(); i += 8) {
            int n = Math.min(8, text.length() - i);
            long bytes = r.nextLong();
            for (int k = i; k < i + n; k++) {
                bytes = bytes << 8 | text.charAt(k);
            }
            same("feed", x.feed(n, bytes), m.feed(n, bytes));
        }
        same("land of '" + text + "'", x.land(), m.land());
        same("fault of '" + text + "'", x.fault(), m.fault());
    }

    private String goodText() {
        StringBuilder s = new StringBuilder();
        if (r.nextInt(5) > 0) {
            s.append("harvest ").append(r.nextInt(40));
            for (int i = r.nextInt(8); i > 0; i--) {
                s.append(',').append(r.nextInt(r.nextBoolean() ? 8 : 60));
            }
            s.append(';');
        }
        int houses = r.nextInt(8) == 0 ? r.nextInt(5) : 2 + r.nextInt(3);
        for (int h = 0; h < houses; h++) {
            s.append("house ").append(r.nextInt(40)).append(' ').append(r.nextInt(3) == 0 ? 0 : r.nextInt(21)).append(';');
        }
        int favoured = r.nextInt(4);
        for (int j = houses == 0 ? 0 : r.nextInt(13); j > 0; j--) {
            int h = favoured < houses && r.nextBoolean() ? favoured : r.nextInt(houses);
            s.append("jar ").append(new String[] {"plain", "plum", "glass"}[r.nextInt(3)]).append(' ').append(h)
                .append(' ').append(r.nextInt(r.nextInt(4) == 0 ? 100 : 8)).append(' ').append(1 + r.nextInt(r.nextInt(4) == 0 ? 99 : 25))
                .append(' ').append(r.nextInt(r.nextInt(4) == 0 ? 100 : 6)).append(';');
        }
        return s.toString();
    }

    /** Compares what one call answered. */
    private void same(String call, int got, int want) {
        calls++;
        c.due(run + call, got, want);
    }

    private void lookAtAll() {
        for (int what = -1; what <= 10; what++) {
            lookAtTold(what);
        }
        for (int h = 0; h <= m.told(0); h++) {
            for (int what = -1; what <= 5; what++) {
                lookAtHouse(h, what);
            }
        }
        for (int j = 0; j <= m.told(1); j++) {
            for (int what = 0; what <= 7; what++) {
                lookAtJar(j, what);
            }
        }
        lookAtJar(0, -1);
        lookAtJar(0, 8);
    }

    private void oneLook() {
        switch (r.nextInt(3)) {
            case 0: lookAtTold(upTo(0, 9)); break;
            case 1: lookAtHouse(someHouse(), upTo(0, 4)); break;
            default: lookAtJar(someJar(), upTo(0, 7)); break;
        }
    }

    private void lookAtTold(int what) {
        same("told(" + what + ")", x.told(what), m.told(what));
    }

    private void lookAtHouse(int h, int what) {
        same("house(" + h + ", " + what + ")", x.house(h, what), m.house(h, what));
    }

    private void lookAtJar(int j, int what) {
        same("jar(" + j + ", " + what + ")", x.jar(j, what), m.jar(j, what));
    }

    private int someHouse() {
        int h = Math.max(1, m.told(0));
        return r.nextInt(20) == 0 ? strange(r.nextInt(7) - 1) : r.nextInt(h);
    }

    private int someJar() {
        int j = Math.max(1, m.told(1));
        return r.nextInt(20) == 0 ? strange(r.nextInt(27) - 1) : r.nextInt(j);
    }

    private int strange(int near) {
        int[] far = {Integer.MIN_VALUE, Integer.MAX_VALUE, DatedJars.UNKNOWN, 1 << 16, 32};
        return r.nextInt(3) == 0 ? far[r.nextInt(far.length)] : near;
    }

    private int upTo(int least, int most) {
        return r.nextInt(25) == 0 ? strange(r.nextBoolean() ? least - 1 : most + 1) : least + r.nextInt(most - least + 1);
    }

    private static int within(int a, int most) {
        return Math.max(0, Math.min(a, most));
    }

    private void oneCall() {
        int h = someHouse();
        int j = someJar();
        int a;
        int b;
        switch (r.nextInt(31)) {
            case 0: a = upTo(0, 2); same("law(" + a + ")", x.law(a), m.law(a)); break;
            case 1: a = upTo(0, 20); same("seals(" + h + ", " + a + ")", x.seals(h, a), m.seals(h, a)); break;
            case 2: case 3: same("give(" + j + ", " + h + ")", x.give(j, h), m.give(j, h)); break;
            case 4: a = r.nextInt(9) == 0 ? upTo(0, 9999) : Math.max(0, m.told(3) + r.nextInt(9) - 3);
                same("label(" + j + ", " + a + ")", x.label(j, a), m.label(j, a)); break;
            case 5: same("open(" + j + ")", x.open(j), m.open(j)); break;
            case 6: a = r.nextInt(12) == 0 ? upTo(1, 99) : 1; same("year(" + a + ")", x.year(a), m.year(a)); break;
            case 7: a = r.nextInt(12) == 0 ? upTo(1, 99) : 1; same("drift(" + a + ")", x.drift(a), m.drift(a)); break;
            case 8: case 9: case 10: a = upTo(1, r.nextInt(4) == 0 ? 12 : 5); b = upTo(-1, within(a, 12) - 1);
                same("plan(" + h + ", " + a + ", " + b + ")", x.plan(h, a, b), m.plan(h, a, b)); break;
            case 11: case 12: a = upTo(1, r.nextBoolean() ? 60 : 8);
                same("sealing(" + h + ", " + a + ")", x.sealing(h, a), m.sealing(h, a)); break;
            case 13: a = upTo(1, r.nextInt(5) == 0 ? 20 : 6); same("change(" + a + ")", x.change(a), m.change(a)); break;
            case 14: case 15: same("bequest(" + h + ", NONE)", x.bequest(h, -1), m.bequest(h, -1)); break;
            case 16: case 17: same("bequest(" + h + ", " + j + ")", x.bequest(h, j), m.bequest(h, j)); break;
            case 18: a = upTo(1, 20); b = upTo(0, within(a, 20)); same("siege(" + a + ", " + b + ")", x.siege(a, b), m.siege(a, b)); break;
            case 19: a = upTo(1, 20); b = upTo(0, r.nextBoolean() ? 30 : 999);
                same("when(" + a + ", " + b + ")", x.when(a, b), m.when(a, b)); break;
            case 20: case 21: a = someJar(); same("older(" + j + ", " + a + ")", x.older(j, a), m.older(j, a)); break;
            case 22: same("forged()", x.forged(), m.forged()); break;
            case 23: case 24: case 25: a = r.nextInt(6) == 0 ? upTo(0, 9999) : m.told(3) + m.told(9) + r.nextInt(5);
                same("write(" + a + ", " + j + ")", x.write(a, j), m.write(a, j)); break;
            case 26: if (r.nextInt(8) == 0) { same("tear()", x.tear(), m.tear()); } break;
            case 27: same("judge()", x.judge(), m.judge()); break;
            case 28: a = r.nextInt(); same("seed(" + a + ")", x.seed(a), m.seed(a)); break;
            case 29: a = upTo(0, 1); same("keep(" + a + ")", x.keep(a), m.keep(a)); break;
            default: a = upTo(0, 1); same("goBack(" + a + ")", x.goBack(a), m.goBack(a)); break;
        }
    }
}
