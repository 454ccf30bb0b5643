import java.nio.charset.StandardCharsets;

/** What the tests share: feeding a text, comparing answers, and the closing line. */
final class Checks {
    private final String name;
    private int made;
    private int wrong;

    Checks(String name) {
        this.name = name;
    }

    void due(String what, long got, long want) {
        made++;
        if (got != want) {
            wrong++;
            System.out.println(name + ": " + what + " answered " + got + ", due is " + want);
        }
    }

    void finish() {
        System.out.println(name + ": " + made + " answers looked at, " + wrong + " not as due");
        if (wrong != 0 || made == 0) {
            System.exit(1);
        }
    }

    /** Feeds a text (signs 0 to 255) in pieces of eight bytes: what the last feed answered. */
    static int feedText(DatedJars x, String text) {
        byte[] bytes = text.getBytes(StandardCharsets.ISO_8859_1);
        int answer = x.told(2);
        for (int i = 0; i < bytes.length; i += 8) {
            int n = Math.min(8, bytes.length - i);
            long packed = 0;
            for (int k = 0; k < n; k++) {
                packed = packed << 8 | (bytes[i + k] & 255);
            }
            answer = x.feed(n, packed);
        }
        return answer;
    }

    static int tell(DatedJars x, String text) {
        feedText(x, text);
        return x.land();
    }

    static DatedJars landOf(String text) {
        DatedJars x = new DatedJars();
        if (tell(x, text) < 0) {
            throw new IllegalArgumentException("fault at " + x.fault() + " of: " + text);
        }
        return x;
    }

    /** All that can be looked at without changing anything, as one text. */
    static String look(DatedJars x) {
        StringBuilder s = new StringBuilder();
        s.append(x.fault()).append('|');
        for (int what = 0; what <= 9; what++) {
            s.append(x.told(what)).append(' ');
        }
        for (int h = 0; h < x.told(0); h++) {
            s.append("| house ");
            for (int what = 0; what <= 4; what++) {
                s.append(x.house(h, what)).append(' ');
            }
        }
        for (int j = 0; j < x.told(1); j++) {
            s.append("| jar ");
            for (int what = 0; what <= 7; what++) {
                s.append(x.jar(j, what)).append(' ');
            }
        }
        return s.append("| ").append(x.forged()).append(' ').append(x.judge()).toString();
    }

    /** A refusal is due, and nothing may have changed by it. */
    void refused(DatedJars x, String before, String what, int got, int want) {
        due(what, got, want);
        String after = look(x);
        made++;
        if (!after.equals(before)) {
            wrong++;
            System.out.println(name + ": " + what + " changed\n  " + before + "\n  " + after);
        }
    }
}
