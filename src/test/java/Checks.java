import java.nio.charset.StandardCharsets;
import java.util.function.Supplier;
import java.util.function.ToIntFunction;

/** What the tests share: feeding a text, comparing answers, and the closing line. */
final class Checks {
    private final String name;
    private int made;
    private int wrong;

    Checks(String name) {
        this.name = name;
    }

    void due(String what, long got, long want) {
        made++;
        if (got != want) {
            wrong++;
            System.out.println(name + ": " + what + " answered " + got + ", due is " + want);
        }
    }

    void finish() {
        System.out.println(name + ": " + made + " answers looked at, " + wrong + " not as due");
        if (wrong != 0 || made == 0) {
            System.exit(1);
        }
    }

    /** Feeds a text (signs 0 to 255) in pieces of eight bytes: what the last feed answered. */
    static int feedText(DatedJars x, String text) {
        byte[] bytes = text.getBytes(StandardCharsets.ISO_8859_1);
        int answer = x.told(2);
        for (int i = 0; i < bytes.length; i += 8) {
            int n = Math.min(8, bytes.length - i);
            long packed = 0;
            for (int k = 0; k < n; k++) {
                packed = packed << 8 | (bytes[i + k] & 255);
            }
            answer = x.feed(n, packed);
        }
        return answer;
    }

    static int tell(DatedJars x, String text) {
        feedText(x, text);
        return x.land();
    }

    static DatedJars landOf(String text) {
        DatedJars x = new DatedJars();
        if (tell(x, text) < 0) {
            throw new IllegalArgumentException("fault at " + x.fault() + " of: " + text);
        }
        return x;
    }

    /** All that can be looked at without changing anything, as one text. */
    static String look(DatedJars x) {
        return x.fault() + "| " + x.told(2) + "| " + lookAtLand(x);
    }

    /** The same without the text and its fault, which a land() that is refused changes. */
    static String lookAtLand(DatedJars x) {
        StringBuilder s = new StringBuilder();
        for (int what = 0; what <= 9; what++) {
            if (what == 2) {
                continue;
            }
            s.append(x.told(what)).append(' ');
        }
        for (int h = 0; h < x.told(0); h++) {
            s.append("| house ");
            for (int what = 0; what <= 4; what++) {
                s.append(x.house(h, what)).append(' ');
            }
        }
        for (int j = 0; j < x.told(1); j++) {
            s.append("| jar ");
            for (int what = 0; what <= 7; what++) {
                s.append(x.jar(j, what)).append(' ');
            }
        }
        return s.append("| ").append(x.forged()).append(' ').append(x.judge()).toString();
    }

    /**
     * What look() does not see either: the seed, what glass and book have, the images, the harvests
     * to come, the bytes of the text. The object is spent by it.
     */
    static String spend(DatedJars x) {
        StringBuilder s = new StringBuilder(look(x)).append("| seed ").append(seedOf(x));
        int[][] dates = {{0, 1, 2, 3, 4}, {4, 3, 2, 1, 0}, {2, 2, 2, 2, 2}, {1, 0, 4, 0, 3}};
        for (int[] row : dates) {
            for (int j = 0; j < Math.min(row.length, x.told(1)); j++) {
                x.label(j, row[j]);
            }
            s.append("| ").append(x.forged()).append(' ').append(x.judge());
        }
        for (int i = 0; i < 2; i++) {
            int went = x.goBack(i);
            s.append("| image ").append(went);
            if (went == 1) {
                s.append(look(x)).append(' ').append(seedOf(x));
            }
        }
        for (int i = 0; i < 9; i++) {
            s.append("| year ").append(x.told(5)).append(' ').append(x.year(1));
        }
        return s.append("| text ").append(x.land()).append(' ').append(look(x)).toString();
    }

    /** There is no call that only looks at the seed: it is put back. */
    static int seedOf(DatedJars x) {
        int seed = x.seed(0);
        x.seed(seed);
        return seed;
    }

    void same(String what, String got, String want) {
        made++;
        if (!got.equals(want)) {
            wrong++;
            System.out.println(name + ": " + what + " changed\n  " + want + "\n  " + got);
        }
    }

    /** An answer is due, and an object that gave it is as one, made alike, that was not asked. */
    void changesNothing(String what, Supplier<DatedJars> maker, ToIntFunction<DatedJars> call, int want) {
        DatedJars asked = maker.get();
        due(what, call.applyAsInt(asked), want);
        same(what, spend(asked), spend(maker.get()));
    }

    /** A refusal is due, and nothing may have changed by it. */
    void refused(DatedJars x, String before, String what, int got, int want) {
        due(what, got, want);
        same(what, look(x), before);
    }
}
