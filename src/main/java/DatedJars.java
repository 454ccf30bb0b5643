/** A land that lives by dated jars: its text, its years, and what can be tried from now. */
public final class DatedJars {
    public static final int NONE = -1, UNKNOWN = -1000000001, OUTSIDE = -1000000002, NOT = -1000000003, FULL = -1000000004;

    private static final int MOST_TEXT = 400;
    private static final int MOST_HARVESTS = 8;
    private static final int MOST_HOUSES = 4;
    private static final int MOST_TOLD_JARS = 12;
    private static final int MOST_JARS = 24;
    private static final int MOST_IMAGES = 2;
    private static final int MOST_SEALS = 20;
    private static final int MOST_LOOKED_AT = 8;
    private static final int MOST_PLAN_YEARS = 12;
    private static final int MOST_CHANGES = 20;
    private static final int MOST_GLASS = 12;
    private static final int MOST_OPENINGS = 30;
    private static final int MORE_THAN_ANY = 1000000000;

    private static final int PLAIN = 0, PLUM = 1, GLASS = 2;
    private static final int FROM_ITS_DATE = 0, ON_ITS_DATE = 1, ANY_YEAR = 2;

    private final Land now = new Land();
    /** Nothing that is tried may change what is so: it is tried on this copy. */
    private final Land trial = new Land();
    private final Land[] images = {new Land(), new Land()};
    private final boolean[] kept = new boolean[MOST_IMAGES];
    private final Reader reader = new Reader();
    private final Planner planner = new Planner();
    private final Dealer dealer = new Dealer();
    private final Glass glass = new Glass();
    private final Book book = new Book();
    private final int[] hungerBefore = new int[MOST_HOUSES];

    public DatedJars() {
    }

    // ---- the land

    public int feed(int n, long bytes) {
        if (n < 1 || n > 8) {
            return OUTSIDE;
        }
        return reader.addBytes(n, bytes);
    }

    public int land() {
        if (!reader.readText(trial)) {
            return -10 - reader.faultNumber;
        }
        trial.law = now.law;
        trial.seed = now.seed;
        now.copyFrom(trial);
        kept[0] = false;
        kept[1] = false;
        glass.count = 0;
        book.count = 0;
        return now.houses;
    }

    public int fault() {
        return reader.faultByte;
    }

    public int told(int what) {
        switch (what) {
            case 0: return now.houses;
            case 1: return now.cellar.count;
            case 2: return reader.length;
            case 3: return now.year;
            case 4: return now.law;
            case 5: return now.harvestOf(now.year);
            case 6: return now.hunger;
            case 7: return now.cellar.gone;
            case 8: return glass.count;
            case 9: return book.count;
            default: return OUTSIDE;
        }
    }

    public int house(int h, int what) {
        if (!now.hasHouse(h)) {
            return UNKNOWN;
        }
        switch (what) {
            case 0: return now.want[h];
            case 1: return now.seals[h];
            case 2: return now.stock[h];
            case 3: return now.cellar.setOf(h);
            case 4: return now.cellar.setToOpen(h, now.law, now.year);
            default: return OUTSIDE;
        }
    }

    public int jar(int j, int what) {
        Cellar cellar = now.cellar;
        if (!cellar.has(j)) {
            return UNKNOWN;
        }
        switch (what) {
            case 0: return cellar.kind[j];
            case 1: return cellar.owner[j];
            case 2: return cellar.date[j];
            case 3: return cellar.quantity[j];
            case 4: return cellar.keeps[j];
            case 5: return cellar.ageOf(j, now.year);
            case 6: return cellar.filledIn(j, now.year);
            case 7: return cellar.isGone(j) ? 1 : 0;
            default: return OUTSIDE;
        }
    }

    // ---- years

    public int law(int v) {
        if (v < FROM_ITS_DATE || v > ANY_YEAR) {
            return OUTSIDE;
        }
        int was = now.law;
        now.law = v;
        return was;
    }

    public int seals(int h, int v) {
        if (!now.hasHouse(h)) {
            return UNKNOWN;
        }
        if (v < 0 || v > MOST_SEALS) {
            return OUTSIDE;
        }
        int was = now.seals[h];
        now.seals[h] = v;
        return was;
    }

    public int give(int j, int h) {
        Cellar cellar = now.cellar;
        if (!cellar.has(j) || !now.hasHouse(h)) {
            return UNKNOWN;
        }
        if (cellar.isGone(j)) {
            return NOT;
        }
        int was = cellar.owner[j];
        cellar.owner[j] = h;
        return was;
    }

    public int label(int j, int v) {
        Cellar cellar = now.cellar;
        if (!cellar.has(j)) {
            return UNKNOWN;
        }
        if (v < 0 || v > 9999) {
            return OUTSIDE;
        }
        if (cellar.isGone(j)) {
            return NOT;
        }
        int was = cellar.date[j];
        cellar.date[j] = v;
        return was;
    }

    public int open(int j) {
        Cellar cellar = now.cellar;
        if (!cellar.has(j)) {
            return UNKNOWN;
        }
        if (cellar.isGone(j) || !cellar.mayBeOpened(j, now.law, now.year)) {
            return NOT;
        }
        int h = cellar.owner[j];
        int filled = cellar.takeOut(j, now.year);
        if (now.hasHouse(h)) {
            now.stock[h] += filled;
        }
        return filled;
    }

    public int year(int n) {
        if (n < 1 || n > 99) {
            return OUTSIDE;
        }
        return now.passYears(n, false);
    }

    public int drift(int n) {
        if (n < 1 || n > 99) {
            return OUTSIDE;
        }
        return now.passYears(n, true);
    }

    // ---- tried

    public int plan(int h, int n, int k) {
        if (!now.hasHouse(h)) {
            return UNKNOWN;
        }
        if (n < 1 || n > MOST_PLAN_YEARS || k < NONE || k >= n) {
            return OUTSIDE;
        }
        planner.find(now, h, n);
        return k == NONE ? planner.hunger : planner.opened[k];
    }

    public int sealing(int h, int n) {
        if (!now.hasHouse(h)) {
            return UNKNOWN;
        }
        if (n < 1 || n > 60) {
            return OUTSIDE;
        }
        int best = 0;
        int least = MORE_THAN_ANY;
        for (int s = 0; s <= MOST_SEALS; s++) {
            trial.copyFrom(now);
            trial.seals[h] = s;
            trial.passYears(n, false);
            if (trial.missed[h] < least) {
                least = trial.missed[h];
                best = s;
            }
        }
        return best;
    }

    public int change(int n) {
        if (n < 1 || n > 20) {
            return OUTSIDE;
        }
        int done = 0;
        while (done < MOST_CHANGES && doFirstChange(n)) {
            done++;
        }
        return done;
    }

    public int bequest(int h, int j) {
        if (!now.hasHouse(h) || (j != NONE && !now.cellar.has(j))) {
            return UNKNOWN;
        }
        if (now.houses < 2) {
            return NONE;
        }
        dealer.deal(now, h);
        return j == NONE ? dealer.leastDifference : dealer.heirOf(j);
    }

    public int siege(int n, int k) {
        if (n < 1 || n > 20 || k < 0 || k > n) {
            return OUTSIDE;
        }
        return hungerOfSiege(n, k);
    }

    public int when(int n, int c) {
        if (n < 1 || n > 20 || c < 0 || c > 999) {
            return OUTSIDE;
        }
        int best = n;
        int least = hungerOfSiege(n, n);
        for (int k = n - 1; k >= 0; k--) {
            int cost = hungerOfSiege(n, k) + c;
            if (cost < least) {
                least = cost;
                best = k;
            }
        }
        return best;
    }

    // ---- glass, books

    public int older(int a, int b) {
        if (!now.cellar.has(a) || !now.cellar.has(b) || a == b) {
            return UNKNOWN;
        }
        return glass.add(a, b);
    }

    public int forged() {
        return glass.fewestForged(now.cellar);
    }

    public int write(int year, int j) {
        if (!now.cellar.has(j)) {
            return UNKNOWN;
        }
        if (year < 0 || year > 9999) {
            return OUTSIDE;
        }
        return book.add(year, j);
    }

    public int tear() {
        int had = book.count + glass.count;
        book.count = 0;
        glass.count = 0;
        return had;
    }

    public int judge() {
        return book.firstWrong(now.cellar, now.law);
    }

    public int seed(int v) {
        if (v < 0) {
            return OUTSIDE;
        }
        int was = now.seed;
        now.seed = v;
        return was;
    }

    public int keep(int i) {
        if (i < 0 || i >= MOST_IMAGES) {
            return UNKNOWN;
        }
        images[i].copyFrom(now);
        kept[i] = true;
        return 1;
    }

    public int goBack(int i) {
        if (i < 0 || i >= MOST_IMAGES) {
            return UNKNOWN;
        }
        if (!kept[i]) {
            return NOT;
        }
        now.copyFrom(images[i]);
        return 1;
    }

    private int hungerOfSiege(int n, int k) {
        trial.copyFrom(now);
        trial.besiege();
        int before = trial.passYears(k, false);
        trial.law = ANY_YEAR;
        return before + trial.passYears(n - k, false);
    }

    private boolean doFirstChange(int n) {
        trial.copyFrom(now);
        trial.passYears(n, false);
        System.arraycopy(trial.missed, 0, hungerBefore, 0, MOST_HOUSES);
        int count = now.cellar.count;
        for (int a = 0; a < count; a++) {
            for (int b = a + 1; b < count; b++) {
                if (isBetterChanged(a, b, n)) {
                    now.cellar.swapOwners(a, b);
                    return true;
                }
            }
        }
        return false;
    }

    private boolean isBetterChanged(int a, int b, int n) {
        Cellar cellar = now.cellar;
        if (!cellar.has(a) || !cellar.has(b) || cellar.isGone(a) || cellar.isGone(b)) {
            return false;
        }
        int one = cellar.owner[a];
        int other = cellar.owner[b];
        if (one == other || !now.hasHouse(one) || !now.hasHouse(other)) {
            return false;
        }
        // a house without hunger cannot have less of it: no need to try
        if (hungerBefore[one] == 0 || hungerBefore[other] == 0) {
            return false;
        }
        trial.copyFrom(now);
        trial.cellar.swapOwners(a, b);
        trial.passYears(n, false);
        return trial.missed[one] < hungerBefore[one] && trial.missed[other] < hungerBefore[other];
    }

    /** The jars, those that are gone too: a jar keeps its number for ever. */
    private static final class Cellar {
        int count;
        final int[] kind = new int[MOST_JARS];
        final int[] owner = new int[MOST_JARS];
        final int[] date = new int[MOST_JARS];
        final int[] quantity = new int[MOST_JARS];
        final int[] keeps = new int[MOST_JARS];
        final int[] sealedIn = new int[MOST_JARS];
        int gone;

        void copyFrom(Cellar other) {
            count = other.count;
            System.arraycopy(other.kind, 0, kind, 0, MOST_JARS);
            System.arraycopy(other.owner, 0, owner, 0, MOST_JARS);
            System.arraycopy(other.date, 0, date, 0, MOST_JARS);
            System.arraycopy(other.quantity, 0, quantity, 0, MOST_JARS);
            System.arraycopy(other.keeps, 0, keeps, 0, MOST_JARS);
            System.arraycopy(other.sealedIn, 0, sealedIn, 0, MOST_JARS);
            gone = other.gone;
        }

        boolean has(int j) {
            return j >= 0 && j < count;
        }

        boolean isFull() {
            return count >= MOST_JARS;
        }

        void add(int ofKind, int h, int onDate, int much, int keptFor, int year) {
            if (isFull()) {
                return;
            }
            kind[count] = ofKind;
            owner[count] = h;
            date[count] = onDate;
            quantity[count] = much;
            keeps[count] = keptFor;
            sealedIn[count] = year;
            gone &= ~(1 << count);
            count++;
        }

        int ageOf(int j, int year) {
            return has(j) ? year - sealedIn[j] : 0;
        }

        int filledIn(int j, int year) {
            if (!has(j)) {
                return 0;
            }
            int age = year - sealedIn[j];
            switch (kind[j]) {
                case PLAIN: return age > keeps[j] ? quantity[j] / 2 : quantity[j];
                case PLUM: return quantity[j] + Math.min(age, keeps[j]);
                default: return quantity[j];
            }
        }

        boolean mayBeOpened(int j, int law, int year) {
            if (!has(j)) {
                return false;
            }
            switch (law) {
                case FROM_ITS_DATE: return year >= date[j];
                case ON_ITS_DATE: return year == date[j];
                default: return true;
            }
        }

        boolean isGone(int j) {
            return has(j) && (gone >> j & 1) == 1;
        }

        /** Whether a house has that jar: one that is gone is nobody's. */
        boolean isOf(int j, int h) {
            return has(j) && owner[j] == h && (gone >> j & 1) == 0;
        }

        int takeOut(int j, int year) {
            if (!has(j)) {
                return 0;
            }
            gone |= 1 << j;
            return filledIn(j, year);
        }

        /** The jar that a hungry house takes: the least date, of like ones the least jar. */
        int firstToOpen(int h, int law, int year) {
            int first = NONE;
            for (int j = 0; j < count; j++) {
                if (owner[j] != h || (gone >> j & 1) == 1 || !mayBeOpened(j, law, year)) {
                    continue;
                }
                if (first == NONE || date[j] < date[first]) {
                    first = j;
                }
            }
            return first;
        }

        void swapOwners(int a, int b) {
            if (!has(a) || !has(b)) {
                return;
            }
            int was = owner[a];
            owner[a] = owner[b];
            owner[b] = was;
        }

        int setOf(int h) {
            int set = 0;
            for (int j = 0; j < count; j++) {
                if (isOf(j, h)) {
                    set |= 1 << j;
                }
            }
            return set;
        }

        int setToOpen(int h, int law, int year) {
            int set = 0;
            for (int j = 0; j < count; j++) {
                if (isOf(j, h) && mayBeOpened(j, law, year)) {
                    set |= 1 << j;
                }
            }
            return set;
        }

        /** Writes the least jars of a house, as many as are looked at, into a row: how many. */
        int lookAt(int h, int[] row) {
            int found = 0;
            for (int j = 0; j < count && found < row.length; j++) {
                if (isOf(j, h)) {
                    row[found] = j;
                    found++;
                }
            }
            return found;
        }
    }

    /** All that an image keeps, with the wants and harvests that stay as told. */
    private static final class Land {
        int houses;
        final int[] want = new int[MOST_HOUSES];
        final int[] seals = new int[MOST_HOUSES];
        final int[] stock = new int[MOST_HOUSES];
        /** Hunger of each house in the years of the latest passYears. */
        final int[] missed = new int[MOST_HOUSES];
        int harvests;
        final int[] harvest = new int[MOST_HARVESTS];
        int year;
        int hunger;
        int law;
        int seed;
        final Cellar cellar = new Cellar();

        void clear() {
            houses = 0;
            harvests = 0;
            year = 0;
            hunger = 0;
            cellar.count = 0;
            cellar.gone = 0;
        }

        void copyFrom(Land other) {
            houses = other.houses;
            System.arraycopy(other.want, 0, want, 0, MOST_HOUSES);
            System.arraycopy(other.seals, 0, seals, 0, MOST_HOUSES);
            System.arraycopy(other.stock, 0, stock, 0, MOST_HOUSES);
            harvests = other.harvests;
            System.arraycopy(other.harvest, 0, harvest, 0, MOST_HARVESTS);
            year = other.year;
            hunger = other.hunger;
            law = other.law;
            seed = other.seed;
            cellar.copyFrom(other.cellar);
        }

        boolean hasHouse(int h) {
            return h >= 0 && h < houses;
        }

        void addHouse(int wants, int sealsFor) {
            if (houses >= MOST_HOUSES) {
                return;
            }
            want[houses] = wants;
            seals[houses] = sealsFor;
            stock[houses] = 0;
            houses++;
        }

        void addHarvest(int much) {
            if (harvests >= MOST_HARVESTS) {
                return;
            }
            harvest[harvests] = much;
            harvests++;
        }

        int harvestOf(int t) {
            if (harvests < 1 || t < 0) {
                return 10;
            }
            return harvest[t % harvests];
        }

        void besiege() {
            harvests = 0;
            addHarvest(0);
            for (int h = 0; h < houses; h++) {
                seals[h] = 0;
            }
        }

        int drawOf(int n) {
            long next = (seed * 1103515245L + 12345L) & 0x7fffffffL;
            seed = (int) next;
            return n < 1 ? 0 : seed / 65536 % n;
        }

        int passYears(int n, boolean byDraws) {
            for (int h = 0; h < houses; h++) {
                missed[h] = 0;
            }
            int together = 0;
            for (int i = 0; i < n; i++) {
                if (byDraws) {
                    burstJars();
                }
                for (int h = 0; h < houses; h++) {
                    int missing = feedHouse(h, byDraws ? drawOf(30) : harvestOf(year));
                    missed[h] += missing;
                    together += missing;
                }
                year++;
            }
            hunger = Math.min(hunger + together, 999999999);
            return together;
        }

        private void burstJars() {
            for (int j = 0; j < cellar.count; j++) {
                boolean canBurst = !cellar.isGone(j) && cellar.kind[j] != GLASS
                        && cellar.ageOf(j, year) > cellar.keeps[j];
                if (canBurst && drawOf(10) == 0) {
                    cellar.gone |= 1 << j;
                }
            }
        }

        private int feedHouse(int h, int harvested) {
            int has = harvested + stock[h];
            int first = has < want[h] ? cellar.firstToOpen(h, law, year) : NONE;
            boolean opened = first != NONE;
            for (int i = 0; i < MOST_JARS && first != NONE; i++) {
                has += cellar.takeOut(first, year);
                first = has < want[h] ? cellar.firstToOpen(h, law, year) : NONE;
            }
            stock[h] = 0;
            if (!opened && has > want[h] && seals[h] > 0 && !cellar.isFull()) {
                cellar.add(PLAIN, h, year + seals[h], Math.min(has - want[h], 99), 5, year);
            }
            return Math.max(want[h] - has, 0);
        }
    }

    /** Reads the text of a land up to its first fault. */
    private static final class Reader {
        private static final int CANNOT_STAND = 1, BAD_NUMBER = 2, TOO_MANY = 3;

        final byte[] text = new byte[MOST_TEXT];
        int length;
        int at;
        int faultNumber;
        int faultByte = NONE;
        boolean harvestTold;

        int addBytes(int n, long bytes) {
            if (length + n > MOST_TEXT) {
                return FULL;
            }
            for (int i = n - 1; i >= 0; i--) {
                text[length] = (byte) (bytes >>> (8 * i));
                length++;
            }
            return length;
        }

        /** Whether the text, which is empty then, became the land. */
        boolean readText(Land into) {
            into.clear();
            at = 0;
            faultNumber = 0;
            faultByte = NONE;
            harvestTold = false;
            skipBlanks();
            for (int i = 0; i < MOST_TEXT && at < length && faultNumber == 0; i++) {
                readClause(into);
                skipBlanks();
            }
            length = 0;
            return faultNumber == 0;
        }

        private void readClause(Land into) {
            int start = at;
            skipLetters();
            if (wordIs(start, "harvest")) {
                readHarvest(start, into);
            } else if (wordIs(start, "house")) {
                readHouse(start, into);
            } else if (wordIs(start, "jar")) {
                readJar(start, into);
            } else {
                fail(CANNOT_STAND, start);
            }
        }

        private void readHarvest(int start, Land into) {
            if (harvestTold) {
                fail(TOO_MANY, start);
                return;
            }
            harvestTold = true;
            into.addHarvest(readNumber(0, 99));
            for (int i = 1; i < MOST_HARVESTS && faultNumber == 0 && nextIs(','); i++) {
                at++;
                into.addHarvest(readNumber(0, 99));
            }
            readEnd();
        }

        private void readHouse(int start, Land into) {
            if (into.houses >= MOST_HOUSES) {
                fail(TOO_MANY, start);
                return;
            }
            int wants = readNumber(0, 99);
            int sealsFor = readNumber(0, MOST_SEALS);
            readEnd();
            into.addHouse(wants, sealsFor);
        }

        private void readJar(int start, Land into) {
            if (into.cellar.count >= MOST_TOLD_JARS) {
                fail(TOO_MANY, start);
                return;
            }
            int kind = readKind();
            int h = readNumber(0, into.houses - 1);
            int date = readNumber(0, 99);
            int quantity = readNumber(1, 99);
            int keeps = readNumber(0, 99);
            readEnd();
            into.cellar.add(kind, h, date, quantity, keeps, 0);
        }

        private int readKind() {
            skipBlanks();
            int start = at;
            skipLetters();
            if (wordIs(start, "plain")) {
                return PLAIN;
            }
            if (wordIs(start, "plum")) {
                return PLUM;
            }
            if (wordIs(start, "glass")) {
                return GLASS;
            }
            fail(CANNOT_STAND, start);
            return PLAIN;
        }

        private int readNumber(int least, int most) {
            skipBlanks();
            int start = at;
            int value = 0;
            while (at < length && text[at] >= '0' && text[at] <= '9') {
                // a fourth figure is a fault already: more of them could only overflow
                if (at - start < 3) {
                    value = value * 10 + text[at] - '0';
                }
                at++;
            }
            if (at == start) {
                fail(CANNOT_STAND, start);
            } else if (at - start > 3 || value < least || value > most) {
                fail(BAD_NUMBER, start);
            }
            return value;
        }

        private void readEnd() {
            if (nextIs(';')) {
                at++;
            } else {
                fail(CANNOT_STAND, at);
            }
        }

        private boolean nextIs(char sign) {
            skipBlanks();
            return at < length && text[at] == sign;
        }

        private void skipBlanks() {
            while (at < length && text[at] == ' ') {
                at++;
            }
        }

        private void skipLetters() {
            while (at < length && text[at] >= 'a' && text[at] <= 'z') {
                at++;
            }
        }

        private boolean wordIs(int start, String word) {
            if (start < 0 || at - start != word.length()) {
                return false;
            }
            for (int i = 0; i < word.length(); i++) {
                if (text[start + i] != word.charAt(i)) {
                    return false;
                }
            }
            return true;
        }

        /** Bytes are read in order, so the first fault that is met is the one to tell. */
        private void fail(int number, int where) {
            if (faultNumber == 0) {
                faultNumber = number;
                faultByte = where;
            }
        }
    }

    /** The openings by which a house hungers least, over all that it could open in each year. */
    private static final class Planner {
        private static final int SETS = 1 << MOST_LOOKED_AT;

        final int[] looked = new int[MOST_LOOKED_AT];
        int count;
        /** By year and by the set that is opened ahead of it: the least hunger from there on. */
        final int[][] leastFrom = new int[MOST_PLAN_YEARS + 1][SETS];
        /** For the year that is looked at: what the jars of each set are filled with. */
        final int[] filled = new int[SETS];
        int mayOpen;
        int missing;
        final int[] opened = new int[MOST_PLAN_YEARS];
        int hunger;

        void find(Land land, int h, int n) {
            if (!land.hasHouse(h) || n < 1 || n > MOST_PLAN_YEARS) {
                return;
            }
            count = land.cellar.lookAt(h, looked);
            for (int used = 0; used < 1 << count; used++) {
                leastFrom[n][used] = 0;
            }
            for (int k = n - 1; k >= 0; k--) {
                lookAtYear(land, h, k);
                // nothing can be opened ahead of the first year
                int sets = k == 0 ? 1 : 1 << count;
                for (int used = 0; used < sets; used++) {
                    leastFrom[k][used] = leastHunger(leastFrom[k + 1], used);
                }
            }
            hunger = leastFrom[0][0];
            chooseSets(land, h, n);
        }

        private void chooseSets(Land land, int h, int n) {
            int used = 0;
            for (int k = 0; k < n; k++) {
                lookAtYear(land, h, k);
                int set = firstOf(leastFrom[k + 1], used, leastFrom[k][used]);
                opened[k] = jarsOf(set);
                used |= set;
            }
        }

        private void lookAtYear(Land land, int h, int k) {
            int t = land.year + k;
            missing = land.want[h] - land.harvestOf(t) - (k == 0 ? land.stock[h] : 0);
            mayOpen = 0;
            filled[0] = 0;
            for (int i = 0; i < count; i++) {
                int bit = 1 << i;
                int much = land.cellar.filledIn(looked[i], t);
                for (int set = 0; set < bit; set++) {
                    filled[set | bit] = filled[set] + much;
                }
                if (land.cellar.mayBeOpened(looked[i], land.law, t)) {
                    mayOpen |= bit;
                }
            }
        }

        private int hungerWith(int set, int[] after, int used) {
            int lack = missing - filled[set];
            return (lack > 0 ? lack : 0) + after[used | set];
        }

        private int leastHunger(int[] after, int used) {
            int free = mayOpen & ~used;
            int least = hungerWith(0, after, used);
            // a year without hunger is no year to open in: later years can only lose by it;
            // each step takes the next lesser set of free ones, down to the empty one
            for (int set = missing > 0 ? free : 0; set > 0; set = (set - 1) & free) {
                int hungerThen = hungerWith(set, after, used);
                if (hungerThen < least) {
                    least = hungerThen;
                }
            }
            return least;
        }

        private int firstOf(int[] after, int used, int least) {
            int free = mayOpen & ~used;
            for (int set = 0; set <= free; set++) {
                if ((set & ~free) == 0 && hungerWith(set, after, used) == least) {
                    return set;
                }
            }
            return 0;
        }

        private int jarsOf(int set) {
            int jars = 0;
            for (int i = 0; i < count; i++) {
                if ((set >> i & 1) == 1) {
                    jars |= 1 << looked[i];
                }
            }
            return jars;
        }
    }

    /** Deals the jars of one house to the others, the first of the most even ways. */
    private static final class Dealer {
        final int[] looked = new int[MOST_LOOKED_AT];
        int count;
        final int[] heirs = new int[MOST_HOUSES];
        int heirCount;
        /** For each jar the place of its heir, as tried and as it was best. */
        final int[] tried = new int[MOST_LOOKED_AT];
        final int[] best = new int[MOST_LOOKED_AT];
        final int[] sums = new int[MOST_HOUSES];
        int leastDifference;

        void deal(Land land, int h) {
            count = land.cellar.lookAt(h, looked);
            heirCount = 0;
            for (int other = 0; other < land.houses; other++) {
                if (other != h) {
                    heirs[heirCount] = other;
                    heirCount++;
                }
            }
            for (int i = 0; i < count; i++) {
                tried[i] = 0;
            }
            leastDifference = MORE_THAN_ANY;
            int ways = countWays();
            for (int way = 0; way < ways; way++) {
                int differs = differenceOf(land.cellar);
                if (differs < leastDifference) {
                    leastDifference = differs;
                    System.arraycopy(tried, 0, best, 0, count);
                }
                nextWay();
            }
        }

        int heirOf(int j) {
            for (int i = 0; i < count; i++) {
                if (looked[i] == j) {
                    return heirs[best[i]];
                }
            }
            return NONE;
        }

        private int countWays() {
            int ways = 1;
            for (int i = 0; i < count; i++) {
                ways *= heirCount;
            }
            return ways;
        }

        /** The last jar changes soonest, so that ways come in the order in which the first wins. */
        private void nextWay() {
            for (int i = count - 1; i >= 0; i--) {
                tried[i]++;
                if (tried[i] < heirCount) {
                    return;
                }
                tried[i] = 0;
            }
        }

        private int differenceOf(Cellar cellar) {
            for (int i = 0; i < heirCount; i++) {
                sums[i] = 0;
            }
            for (int i = 0; i < count; i++) {
                sums[tried[i]] += cellar.quantity[looked[i]];
            }
            int least = sums[0];
            int greatest = sums[0];
            for (int i = 1; i < heirCount; i++) {
                least = Math.min(least, sums[i]);
                greatest = Math.max(greatest, sums[i]);
            }
            return greatest - least;
        }
    }

    /** What glass told of which jar is older. */
    private static final class Glass {
        int count;
        final int[] elder = new int[MOST_GLASS];
        final int[] younger = new int[MOST_GLASS];
        final int[] contradicted = new int[MOST_GLASS];

        int add(int a, int b) {
            if (count >= MOST_GLASS) {
                return FULL;
            }
            elder[count] = a;
            younger[count] = b;
            count++;
            return count;
        }

        /** A fewest set holds one of the two jars of each word that dates contradict, and no more. */
        int fewestForged(Cellar cellar) {
            int wrong = findContradicted(cellar);
            int best = 0;
            int fewest = MORE_THAN_ANY;
            for (int choice = 0; choice < 1 << wrong; choice++) {
                int set = 0;
                for (int i = 0; i < wrong; i++) {
                    int told = contradicted[i];
                    set |= 1 << ((choice >> i & 1) == 0 ? elder[told] : younger[told]);
                }
                int many = Integer.bitCount(set);
                if (many < fewest || (many == fewest && set < best)) {
                    fewest = many;
                    best = set;
                }
            }
            return best;
        }

        private int findContradicted(Cellar cellar) {
            int found = 0;
            for (int i = 0; i < count; i++) {
                int a = elder[i];
                int b = younger[i];
                if (cellar.has(a) && cellar.has(b) && cellar.date[a] >= cellar.date[b]) {
                    contradicted[found] = i;
                    found++;
                }
            }
            return found;
        }
    }

    /** Openings as they were written. */
    private static final class Book {
        int count;
        final int[] years = new int[MOST_OPENINGS];
        final int[] jars = new int[MOST_OPENINGS];

        int add(int year, int j) {
            if (count >= MOST_OPENINGS) {
                return FULL;
            }
            years[count] = year;
            jars[count] = j;
            count++;
            return count;
        }

        int firstWrong(Cellar cellar, int law) {
            int seen = 0;
            for (int i = 0; i < count; i++) {
                int j = jars[i];
                boolean may = cellar.mayBeOpened(j, law, years[i]);
                boolean again = (seen >> j & 1) == 1;
                boolean backwards = i > 0 && years[i] < years[i - 1];
                if (!may || again || backwards) {
                    return i;
                }
                seen |= 1 << j;
            }
            return NONE;
        }
    }
}
