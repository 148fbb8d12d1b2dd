/** Knights who are wolves on some days of the week, and men again only where their clothes lie. */
public final class WolfKnight {
    public static final int NONE = -1;

    private static final int PLACES = 12;
    private static final int KNIGHTS = 9;
    private static final int WEEK = 7;
    private static final int MOST_DAYS = 240;
    private static final int LAST_DAY = 9999;
    private static final int FAR = 99;
    private static final int WORN = -2;
    private static final int MAN = 0;
    private static final int WOLF = 1;
    private static final int DEAD = 2;
    private static final int GUESTS = 12;
    private static final int SUITS = 9;
    private static final int MOST_WAYS = 1000000000;
    private static final int NO_DATES = -10000000;
    private static final int UNTOLD_BYTE = 255;

    private final Tape tape = new Tape();
    private final Forest forest = new Forest();
    private final Band band = new Band();
    private final Band kept = new Band();
    private final Band draft = new Band();
    private final Walk walk = new Walk();
    private final Trails trails = new Trails();
    private final HuntsReader huntsReader = new HuntsReader();
    private final DiaryReader diaryReader = new DiaryReader();
    private final LawReader lawReader = new LawReader();
    private final int[] dressings = new int[1 << SUITS];
    private final Law rulesInForce = new Law();
    private final Law rulesInMaking = new Law();
    private boolean anyKept = false;

    public WolfKnight() {
    }

    // ---- what is told ----

    public boolean place(int p) {
        return forest.tell(p);
    }

    public boolean next(int p, int q, boolean is) {
        return forest.join(p, q, is);
    }

    public boolean knight(int k, int p, int wolfDays) {
        if (!forest.isTold(p) || !isWithin(wolfDays, 0, 127)) {
            return false;
        }
        return band.enter(k, p, wolfDays);
    }

    public boolean first(int weekday) {
        return forest.beginWeekOn(weekday);
    }

    public boolean seed(int x) {
        if (!isWithin(x, 0, 65535)) {
            return false;
        }
        band.x = x;
        return true;
    }

    public int feed(int a, int b, int c, int d, int e) {
        if (!tape.hasRoom()) {
            return NONE;
        }
        tape.append(a);
        tape.append(b);
        tape.append(c);
        tape.append(d);
        tape.append(e);
        return tape.length;
    }

    // ---- texts ----

    public int law(int n) {
        if (!tape.has(n, 1, 240)) {
            return NONE;
        }
        lawReader.begin(tape, n);
        tape.clear();
        int answer = lawReader.readLaw(rulesInMaking);
        if (answer >= 0) {
            rulesInForce.copyFrom(rulesInMaking);
        }
        return answer;
    }

    public int hunts(int p, int n) {
        if (!isWithin(p, 0, PLACES - 1) || !tape.has(n, 1, 40)) {
            return NONE;
        }
        huntsReader.begin(tape, n);
        tape.clear();
        int answer = huntsReader.readHunts();
        if (answer >= 0) {
            forest.setHunts(p, answer, huntsReader.bits);
        }
        return answer;
    }

    public int diary(int n) {
        if (!tape.has(n, 1, 120)) {
            return NONE;
        }
        diaryReader.begin(tape, n);
        tape.clear();
        draft.copyFrom(band);
        int answer = diaryReader.readDiary(forest, draft);
        if (answer >= 0) {
            band.copyFrom(draft);
        }
        return answer;
    }

    // ---- day by day ----

    public int days(int n) {
        if (!isWithin(n, 1, MOST_DAYS)) {
            return NONE;
        }
        walk.forget();
        for (int i = 0; i < n; i++) {
            walk.goDay(forest, rulesInForce, band);
        }
        return walk.deaths;
    }

    public int tried(int n, int what) {
        boolean known = isWithin(what, 0, 3) || band.isTold(what - 10) || band.isTold(what - 20);
        if (!isWithin(n, 1, MOST_DAYS) || !known) {
            return NONE;
        }
        draft.copyFrom(band);
        walk.forget();
        for (int i = 0; i < n; i++) {
            walk.goDay(forest, rulesInForce, draft);
        }
        switch (what) {
            case 0: return walk.deaths;
            case 1: return walk.wolfTurns;
            case 2: return walk.manTurns;
            case 3: return walk.thefts;
            default: return what < 20 ? draft.placeOf(what - 10) : draft.kindOf(what - 20);
        }
    }

    public int knightIs(int k, int what) {
        if (!band.isTold(k)) {
            return NONE;
        }
        switch (what) {
            case 0: return band.placeOf(k);
            case 1: return band.wolfDaysOf(k);
            case 2: return band.kindOf(k);
            case 3: return band.clothesOf(k);
            case 4: return forest.stepsBetween(band.placeOf(k), band.clothesOf(k));
            default: return NONE;
        }
    }

    public int hunted(int p, int t) {
        if (!isWithin(p, 0, PLACES - 1) || !isWithin(t, 0, 9999)) {
            return NONE;
        }
        return forest.isHunted(p, band.today + t) ? 1 : 0;
    }

    public int likes(int k, int p) {
        if (!band.isLiving(k) || !forest.isTold(p)) {
            return NONE;
        }
        return walk.liking(k, p, forest, rulesInForce, band);
    }

    public int manAgain(int k, int n) {
        if (!band.isTold(k) || !isWithin(n, 1, MOST_DAYS)) {
            return NONE;
        }
        if (band.kindOf(k) != WOLF) {
            return -3;
        }
        draft.copyFrom(band);
        for (int gone = 1; gone <= n; gone++) {
            walk.goDay(forest, rulesInForce, draft);
            if (draft.kindOf(k) == MAN) {
                return gone;
            }
        }
        return -2;
    }

    public int deadFirst(int n, int what) {
        if (!isWithin(n, 1, MOST_DAYS) || !isWithin(what, 0, 1)) {
            return NONE;
        }
        draft.copyFrom(band);
        walk.forget();
        for (int gone = 1; gone <= n; gone++) {
            walk.goDay(forest, rulesInForce, draft);
            if (walk.deaths > 0) {
                return what == 0 ? walk.firstDead : gone;
            }
        }
        return -2;
    }

    // ---- ways through the forest ----

    public int home(int k, int what) {
        if (!band.isTold(k) || !(isWithin(what, 0, Trails.MOST - 1) || what == 100)) {
            return NONE;
        }
        if (band.kindOf(k) != WOLF) {
            return -3;
        }
        int length = trails.findHome(k, forest, band);
        if (length == 0) {
            return -2;
        }
        if (what == 100) {
            return length;
        }
        return what < length ? trails.placeAt(what) : -4;
    }

    public int safest(int n, int what) {
        if (!isWithin(n, 1, MOST_DAYS) || !isWithin(what, 0, 1)) {
            return NONE;
        }
        int best = -2;
        int least = n + 1;
        for (int p = 0; p < PLACES; p++) {
            int often = forest.isTold(p) ? forest.huntsFrom(p, band.today, n) : n + 1;
            if (often < least) {
                best = p;
                least = often;
            }
        }
        return what == 0 || best < 0 ? best : least;
    }

    public int calm(int n, int what) {
        if (!isWithin(n, 1, MOST_DAYS) || !isWithin(what, 0, 1)) {
            return NONE;
        }
        int wild = band.livingWolfDays();
        int many = 0;
        int earliest = -2;
        for (int i = 0; i < n; i++) {
            if (!hasBit(wild, forest.weekdayOf(band.today + i))) {
                earliest = many == 0 ? i : earliest;
                many++;
            }
        }
        return what == 0 ? many : earliest;
    }

    public int rumour(int p, int what) {
        if (!forest.isTold(p)) {
            return NONE;
        }
        switch (what) {
            case 0: return forest.stepsBetween(p, forest.farthestFrom(p));
            case 1: return forest.farthestFrom(p);
            case 2: return Integer.bitCount(forest.told) - forest.reachOf(p);
            default: return NONE;
        }
    }

    public int middle() {
        int best = -2;
        int bestReach = 0;
        int bestSteps = FAR;
        for (int p = 0; p < PLACES; p++) {
            if (forest.isTold(p)) {
                int reach = forest.reachOf(p);
                int steps = forest.stepsBetween(p, forest.farthestFrom(p));
                if (reach > bestReach || reach == bestReach && steps < bestSteps) {
                    best = p;
                    bestReach = reach;
                    bestSteps = steps;
                }
            }
        }
        return best;
    }

    public int between(int p, int q) {
        if (!forest.isTold(p) || !forest.isTold(q)) {
            return NONE;
        }
        int whole = forest.stepsBetween(p, q);
        if (whole == FAR) {
            return 0;
        }
        int bits = 0;
        for (int r = 0; r < PLACES; r++) {
            if (forest.stepsBetween(p, r) + forest.stepsBetween(r, q) == whole) {
                bits |= 1 << r;
            }
        }
        return bits;
    }

    public int boots(int p, int n, int what) {
        if (!forest.isTold(p) || !tape.has(n, 1, 20) || !isWithin(what, 0, 1)) {
            return NONE;
        }
        int fault = trails.followBoots(p, n, tape, forest);
        tape.clear();
        if (fault < 0) {
            return fault;
        }
        return what == 0 ? trails.bootsBits() : trails.bootsWays();
    }

    // ---- suspicions ----

    public int absences(int n, int what) {
        if (!tape.has(n, 1, 60) || !isWithin(what, 0, 2)) {
            return NONE;
        }
        int present = 0;
        int absent = 0;
        for (int i = 0; i < n; i++) {
            int sign = tape.byteAt(i);
            int weekdayBit = 1 << forest.weekdayOf(band.today - i);
            if (sign == 'p') {
                present |= weekdayBit;
            } else if (sign == 'a') {
                absent |= weekdayBit;
            } else if (sign != '?') {
                tape.clear();
                return faultOf(1, i);
            }
        }
        tape.clear();
        return what == 2 ? weekdaysMeant(present) : knightsMeant(present, what == 1 ? absent : 0);
    }

    private int knightsMeant(int present, int absent) {
        int bits = 0;
        for (int k = 0; k < KNIGHTS; k++) {
            int wolfDays = band.wolfDaysOf(k);
            boolean meant = (wolfDays & present) == 0 && (absent & ~wolfDays) == 0;
            if (band.isTold(k) && meant) {
                bits |= 1 << k;
            }
        }
        return bits;
    }

    private static int weekdaysMeant(int present) {
        int bits = 0;
        for (int d = 0; d < WEEK; d++) {
            int three = 1 << d | 1 << (d + 1) % WEEK | 1 << (d + 2) % WEEK;
            if ((three & present) == 0) {
                bits |= 1 << d;
            }
        }
        return bits;
    }

    public int hated(int n, int what) {
        if (!isWithin(n, 1, 16) || !tape.has(2 * n, 2, 32) || !isWithin(what, 0, 2)) {
            return NONE;
        }
        int many = 0;
        int lower = -2;
        int upper = -2;
        for (int a = 0; a < GUESTS; a++) {
            for (int b = a + 1; b < GUESTS; b++) {
                if (canBeHated(1 << a | 1 << b, n)) {
                    lower = many == 0 ? a : lower;
                    upper = many == 0 ? b : upper;
                    many++;
                }
            }
        }
        tape.clear();
        if (what == 0) {
            return many;
        }
        return what == 1 ? lower : upper;
    }

    private boolean canBeHated(int two, int evenings) {
        for (int i = 0; i < evenings; i++) {
            int evening = tape.pairAt(i);
            boolean bit = hasBit(evening, 15);
            boolean there = (evening & two) != 0;
            if (bit != there) {
                return false;
            }
        }
        return true;
    }

    public int suits(int n, int without) {
        if (!isWithin(n, 1, SUITS) || !tape.has(2 * n, 2, 2 * SUITS)) {
            return NONE;
        }
        int answer = -2;
        if (isWithin(without, NONE, SUITS - 1)) {
            int left = (1 << SUITS) - 1;
            answer = waysToDress(n, without == NONE ? left : left & ~(1 << without));
        }
        tape.clear();
        return answer;
    }

    // Of each set of suits in how many ways the first barons, as many as suits, wear just these.
    private int waysToDress(int barons, int left) {
        int ways = 0;
        for (int worn = 0; worn < dressings.length; worn++) {
            int dressed = Integer.bitCount(worn);
            dressings[worn] = worn == 0 ? 1 : 0;
            if (dressed >= 1 && dressed <= barons) {
                dressings[worn] = waysToEndWith(worn, tape.pairAt(dressed - 1) & left);
            }
            if (dressed == barons) {
                ways += dressings[worn];
            }
        }
        return ways;
    }

    private int waysToEndWith(int worn, int fitting) {
        int ways = 0;
        for (int s = 0; s < SUITS; s++) {
            int before = worn & ~(1 << s);
            if (hasBit(worn & fitting, s) && before >= 0 && before < dressings.length) {
                ways += dressings[before];
            }
        }
        return ways;
    }

    // ---- tables ----

    public int weekday(int year, int month, int day) {
        if (!Tables.isDate(year, month, day)) {
            return NONE;
        }
        return Tables.weekdayOf(year, month, day);
    }

    public int daysBetween(int year, int month, int day, int otherYear, int otherMonth, int otherDay) {
        if (!Tables.isDate(year, month, day) || !Tables.isDate(otherYear, otherMonth, otherDay)) {
            return NO_DATES;
        }
        return Tables.dayNumber(otherYear, otherMonth, otherDay) - Tables.dayNumber(year, month, day);
    }

    public int feast(int year, int month, int n, int weekday) {
        if (!Tables.isDate(year, month, 1) || !isWithin(n, 1, 5) || !isWithin(weekday, 0, WEEK - 1)) {
            return NONE;
        }
        int ahead = Math.floorMod(weekday - Tables.weekdayOf(year, month, 1), WEEK);
        int day = 1 + ahead + WEEK * (n - 1);
        return day <= Tables.monthLength(year, month) ? day : -2;
    }

    public int easter(int year) {
        return Tables.isDate(year, 1, 1) ? Tables.easterOf(year) : NONE;
    }

    public int date(int year, int n) {
        if (!Tables.isDate(year, 1, 1) || !isWithin(n, 0, Tables.yearLength(year) - 1)) {
            return NONE;
        }
        return Tables.dateOf(year, n);
    }

    // ---- kept and undone ----

    public int keep() {
        kept.copyFrom(band);
        anyKept = true;
        return band.today;
    }

    public boolean undo() {
        if (!anyKept) {
            return false;
        }
        band.copyFrom(kept);
        return true;
    }

    public int check(int n) {
        if (!tape.has(n, 0, KNIGHTS)) {
            return -2;
        }
        int wrong = NONE;
        for (int k = 0; k < n && wrong == NONE; k++) {
            int right = band.isTold(k) ? band.placeOf(k) : UNTOLD_BYTE;
            if (tape.byteAt(k) != right) {
                wrong = k;
            }
        }
        tape.clear();
        return wrong;
    }

    public int count(int what) {
        switch (what) {
            case 0: return band.today;
            case 1: return forest.weekdayOf(band.today);
            case 2: return forest.told;
            case 3: return band.told;
            case 4: return band.bitsOfKind(WOLF);
            case 5: return band.bitsOfKind(DEAD);
            case 6: return rulesInForce.rules;
            case 7: return tape.length;
            case 8: return band.x;
            default: break;
        }
        if (forest.isTold(what - 20)) {
            return forest.nextTo(what - 20);
        }
        return isWithin(what, 40, 40 + PLACES - 1) ? forest.huntLength(what - 40) : NONE;
    }

    // ---- small helps ----

    private static boolean isWithin(int x, int least, int most) {
        return x >= least && x <= most;
    }

    private static boolean hasBit(int bits, int i) {
        return i >= 0 && i < 32 && (bits >>> i & 1) != 0;
    }

    private static int faultOf(int number, int at) {
        return -1000 * number - at;
    }

    /** The bytes that were fed and not yet read. */
    private static final class Tape {
        private static final int MOST = 260;
        private static final int FED = 20;
        private final int[] bytes = new int[MOST];
        private int length = 0;

        private boolean hasRoom() {
            return length + FED <= MOST;
        }

        private void append(int four) {
            for (int shift = 24; shift >= 0; shift -= 8) {
                if (length >= 0 && length < bytes.length) {
                    bytes[length] = four >>> shift & 255;
                    length++;
                }
            }
        }

        private boolean has(int n, int least, int most) {
            return isWithin(n, least, most) && n <= length;
        }

        private int byteAt(int i) {
            return i >= 0 && i < length && i < bytes.length ? bytes[i] : NONE;
        }

        private int pairAt(int i) {
            return byteAt(2 * i) << 8 | byteAt(2 * i + 1);
        }

        private void clear() {
            length = 0;
        }
    }

    /** What is told of the places: which are next to each other, when they are hunted, the first weekday. */
    private static final class Forest {
        private static final int MOST_HUNT_DAYS = 48;
        private final int[] nexts = new int[PLACES];
        private final int[] steps = new int[PLACES * PLACES];
        private final int[] huntLengths = new int[PLACES];
        private final long[] huntBits = new long[PLACES];
        private int told = 0;
        private int firstWeekday = 0;

        private boolean isTold(int p) {
            return p < PLACES && hasBit(told, p);
        }

        private boolean tell(int p) {
            if (!isWithin(p, 0, PLACES - 1)) {
                return false;
            }
            told |= 1 << p;
            reckonSteps();
            return true;
        }

        private boolean join(int p, int q, boolean is) {
            if (!isTold(p) || !isTold(q) || p == q) {
                return false;
            }
            setNext(p, q, is);
            setNext(q, p, is);
            reckonSteps();
            return true;
        }

        private void setNext(int p, int q, boolean is) {
            if (isWithin(p, 0, PLACES - 1) && isWithin(q, 0, PLACES - 1)) {
                int bit = 1 << q;
                nexts[p] = is ? nexts[p] | bit : nexts[p] & ~bit;
            }
        }

        private int nextTo(int p) {
            return isWithin(p, 0, PLACES - 1) ? nexts[p] : 0;
        }

        /** The places themselves and all that are next to one of them. */
        private int spread(int places) {
            int bits = places;
            for (int p = 0; p < PLACES; p++) {
                if (hasBit(places, p)) {
                    bits |= nexts[p];
                }
            }
            return bits;
        }

        // Reckoned when the forest changes, for a law may ask for steps thousands of times a day.
        private void reckonSteps() {
            for (int from = 0; from < PLACES; from++) {
                int known = told & 1 << from;
                for (int to = 0; to < PLACES; to++) {
                    steps[from * PLACES + to] = hasBit(known, to) ? 0 : FAR;
                }
                boolean wide = false;
                for (int far = 1; far < PLACES && !wide; far++) {
                    int wider = spread(known);
                    wide = wider == known;
                    noteSteps(from, wider & ~known, far);
                    known = wider;
                }
            }
        }

        private void noteSteps(int from, int places, int far) {
            for (int to = 0; to < PLACES; to++) {
                int at = from * PLACES + to;
                if (hasBit(places, to) && at >= 0 && at < steps.length) {
                    steps[at] = far;
                }
            }
        }

        private int stepsBetween(int p, int q) {
            boolean known = isWithin(p, 0, PLACES - 1) && isWithin(q, 0, PLACES - 1);
            return known ? steps[p * PLACES + q] : FAR;
        }

        private int reachOf(int p) {
            int many = 0;
            for (int q = 0; q < PLACES; q++) {
                many += stepsBetween(p, q) < FAR ? 1 : 0;
            }
            return many;
        }

        /** The lowest of the farthest places to which there is a way. */
        private int farthestFrom(int p) {
            int best = p;
            for (int q = 0; q < PLACES; q++) {
                int far = stepsBetween(p, q);
                boolean farther = far > stepsBetween(p, best);
                if (far < FAR && farther) {
                    best = q;
                }
            }
            return best;
        }

        private void setHunts(int p, int length, long bits) {
            if (isWithin(p, 0, PLACES - 1) && isWithin(length, 0, MOST_HUNT_DAYS)) {
                huntLengths[p] = length;
                huntBits[p] = bits;
            }
        }

        private int huntLength(int p) {
            return isWithin(p, 0, PLACES - 1) ? huntLengths[p] : 0;
        }

        private boolean isHunted(int p, int onDay) {
            if (!isWithin(p, 0, PLACES - 1) || onDay < 0) {
                return false;
            }
            int length = huntLengths[p];
            return length > 0 && (huntBits[p] >>> onDay % length & 1L) != 0;
        }

        private int huntedBits(int onDay) {
            int bits = 0;
            for (int p = 0; p < PLACES; p++) {
                bits |= isHunted(p, onDay) ? 1 << p : 0;
            }
            return bits;
        }

        private int huntsFrom(int p, int onDay, int n) {
            int often = 0;
            for (int i = 0; i < n; i++) {
                often += isHunted(p, onDay + i) ? 1 : 0;
            }
            return often;
        }

        private boolean beginWeekOn(int weekday) {
            if (!isWithin(weekday, 0, WEEK - 1)) {
                return false;
            }
            firstWeekday = weekday;
            return true;
        }

        private int weekdayOf(int onDay) {
            return Math.floorMod(onDay + firstWeekday, WEEK);
        }
    }

    /** All that keep() keeps: the knights, the day, and the number behind the draws. */
    private static final class Band {
        private final int[] places = new int[KNIGHTS];
        private final int[] wolfDays = new int[KNIGHTS];
        private final int[] kinds = new int[KNIGHTS];
        private final int[] clothes = new int[KNIGHTS];
        private int told = 0;
        private int today = 0;
        private int x = 1;

        private void copyFrom(Band other) {
            for (int k = 0; k < KNIGHTS; k++) {
                places[k] = other.places[k];
                wolfDays[k] = other.wolfDays[k];
                kinds[k] = other.kinds[k];
                clothes[k] = other.clothes[k];
            }
            told = other.told;
            today = other.today;
            x = other.x;
        }

        private boolean enter(int k, int p, int days) {
            if (!isWithin(k, 0, KNIGHTS - 1)) {
                return false;
            }
            told |= 1 << k;
            places[k] = p;
            wolfDays[k] = days;
            kinds[k] = MAN;
            clothes[k] = WORN;
            return true;
        }

        private boolean isTold(int k) {
            return k < KNIGHTS && hasBit(told, k);
        }

        private boolean isLiving(int k) {
            return isTold(k) && kindOf(k) != DEAD;
        }

        private int placeOf(int k) {
            return isWithin(k, 0, KNIGHTS - 1) ? places[k] : NONE;
        }

        private int wolfDaysOf(int k) {
            return isWithin(k, 0, KNIGHTS - 1) ? wolfDays[k] : 0;
        }

        private int kindOf(int k) {
            return isWithin(k, 0, KNIGHTS - 1) ? kinds[k] : NONE;
        }

        private int clothesOf(int k) {
            return isWithin(k, 0, KNIGHTS - 1) ? clothes[k] : WORN;
        }

        private void moveTo(int k, int p) {
            if (isWithin(k, 0, KNIGHTS - 1)) {
                places[k] = p;
            }
        }

        private void layClothes(int k, int p) {
            if (isWithin(k, 0, KNIGHTS - 1)) {
                clothes[k] = p;
            }
        }

        private void turnWolf(int k) {
            if (isWithin(k, 0, KNIGHTS - 1)) {
                kinds[k] = WOLF;
                clothes[k] = places[k];
            }
        }

        private void turnMan(int k) {
            if (isWithin(k, 0, KNIGHTS - 1)) {
                kinds[k] = MAN;
                clothes[k] = WORN;
            }
        }

        private void die(int k) {
            if (isWithin(k, 0, KNIGHTS - 1)) {
                kinds[k] = DEAD;
            }
        }

        private int bitsOfKind(int kind) {
            int bits = 0;
            for (int k = 0; k < KNIGHTS; k++) {
                bits |= isTold(k) && kinds[k] == kind ? 1 << k : 0;
            }
            return bits;
        }

        private int livingWolfDays() {
            int bits = 0;
            for (int k = 0; k < KNIGHTS; k++) {
                bits |= isLiving(k) ? wolfDays[k] : 0;
            }
            return bits;
        }

        private int othersAt(int k, int p) {
            int many = 0;
            for (int other = 0; other < KNIGHTS; other++) {
                boolean living = hasBit(told, other) && kinds[other] != DEAD;
                many += living && other != k && places[other] == p ? 1 : 0;
            }
            return many;
        }

        private int draw() {
            x = (25173 * x + 13849) % 65536;
            return x % 10;
        }
    }

    /** Lets days go by, and counts what happens in them. */
    private static final class Walk {
        private final int[] letters = new int[Law.LETTERS];
        private int deaths = 0;
        private int wolfTurns = 0;
        private int manTurns = 0;
        private int thefts = 0;
        private int firstDead = NONE;

        private void forget() {
            deaths = 0;
            wolfTurns = 0;
            manTurns = 0;
            thefts = 0;
            firstDead = NONE;
        }

        private void goDay(Forest forest, Law law, Band band) {
            if (band.today >= LAST_DAY) {
                return;
            }
            for (int k = 0; k < KNIGHTS; k++) {
                if (band.isLiving(k)) {
                    goKnight(k, forest, law, band);
                }
            }
            band.today++;
        }

        private void goKnight(int k, Forest forest, Law law, Band band) {
            boolean wolfDay = hasBit(band.wolfDaysOf(k), forest.weekdayOf(band.today));
            if (wolfDay && band.kindOf(k) == MAN) {
                band.turnWolf(k);
                wolfTurns++;
            }
            if (band.kindOf(k) != WOLF) {
                return;
            }
            band.moveTo(k, goalOf(k, forest, law, band));
            int here = band.placeOf(k);
            if (forest.isHunted(here, band.today) && !isSpared(k, forest, law, band)) {
                band.die(k);
                firstDead = deaths == 0 ? k : firstDead;
                deaths++;
            } else if (!wolfDay && here == band.clothesOf(k)) {
                band.turnMan(k);
                manTurns++;
                return;
            }
            tempt(k, forest, law, band);
        }

        private int goalOf(int k, Forest forest, Law law, Band band) {
            int goal = band.placeOf(k);
            int near = forest.nextTo(goal);
            int most = 0;
            for (int p = 0; p < PLACES; p++) {
                int liked = hasBit(near, p) ? liking(k, p, forest, law, band) : 0;
                if (liked > most) {
                    goal = p;
                    most = liked;
                }
            }
            return goal;
        }

        private int liking(int k, int p, Forest forest, Law law, Band band) {
            look(k, p, forest, band);
            return law.valueOf('e', letters, 9999);
        }

        private boolean isSpared(int k, Forest forest, Law law, Band band) {
            look(k, band.placeOf(k), forest, band);
            return law.spares(letters);
        }

        // The draw is made whatever the law says: the document makes one of each wolf.
        private void tempt(int k, Forest forest, Law law, Band band) {
            int laid = band.clothesOf(k);
            look(k, laid, forest, band);
            int tenths = law.valueOf('h', letters, 10);
            int near = forest.nextTo(laid);
            if (band.draw() < tenths && near != 0) {
                band.layClothes(k, Integer.numberOfTrailingZeros(near));
                thefts++;
            }
        }

        /** What the letters of the law mean now, in the order of Law.letterOf, for a knight and a place. */
        private void look(int k, int p, Forest forest, Band band) {
            letters[0] = k;
            letters[1] = p;
            letters[2] = band.placeOf(k);
            letters[3] = forest.stepsBetween(p, band.clothesOf(k));
            letters[4] = forest.isHunted(p, band.today) ? 1 : 0;
            letters[5] = band.othersAt(k, p);
            letters[6] = forest.weekdayOf(band.today);
            letters[7] = band.today % 100;
        }
    }

    /** The soonest way of a wolf back to his clothes, and the ways that the boots may have come. */
    private static final class Trails {
        private static final int MOST = 60;
        // Behind how many days at which places he can be.
        private final int[] reach = new int[MOST + 1];
        private final int[] row = new int[MOST];
        private final long[] waysBefore = new long[PLACES];
        private final long[] ways = new long[PLACES];

        /** How many days it takes; 0: there is no way. */
        private int findHome(int k, Forest forest, Band band) {
            int length = spreadOut(k, forest, band);
            if (length > 0) {
                drawBack(length, band.clothesOf(k), forest);
                chooseRow(length, band.placeOf(k), forest);
            }
            return length;
        }

        private int spreadOut(int k, Forest forest, Band band) {
            int clothes = band.clothesOf(k);
            int wolfDays = band.wolfDaysOf(k);
            int places = 1 << band.placeOf(k);
            for (int i = 1; i < reach.length; i++) {
                int onDay = band.today + i - 1;
                places = forest.spread(places) & ~forest.huntedBits(onDay);
                reach[i] = places;
                if (hasBit(places, clothes) && !hasBit(wolfDays, forest.weekdayOf(onDay))) {
                    return i;
                }
            }
            return 0;
        }

        // Leaves of the places only those from which he comes home in time.
        private void drawBack(int length, int clothes, Forest forest) {
            int good = 1 << clothes;
            for (int i = length; i > 0; i--) {
                if (i < reach.length) {
                    reach[i] &= good;
                    good = forest.spread(reach[i]);
                }
            }
        }

        private void chooseRow(int length, int from, Forest forest) {
            int here = from;
            for (int i = 0; i < length && i < row.length && i + 1 < reach.length; i++) {
                here = Integer.numberOfTrailingZeros(forest.spread(1 << here) & reach[i + 1]);
                row[i] = here;
            }
        }

        private int placeAt(int i) {
            return i >= 0 && i < row.length ? row[i] : NONE;
        }

        /** 0, or the fault of the text. */
        private int followBoots(int from, int n, Tape tape, Forest forest) {
            for (int p = 0; p < PLACES; p++) {
                ways[p] = p == from ? 1 : 0;
            }
            for (int i = 0; i < n; i++) {
                int sign = tape.byteAt(i);
                boolean seen = isWithin(sign, 'a', 'l');
                int p = sign - (seen ? 'a' : 'A');
                if (sign != '?' && !isWithin(p, 0, PLACES - 1)) {
                    return faultOf(1, i);
                }
                if (sign != '?' && !forest.isTold(p)) {
                    return faultOf(7, i);
                }
                goOn(forest);
                if (sign != '?') {
                    strike(p, seen);
                }
            }
            return 0;
        }

        private void goOn(Forest forest) {
            for (int p = 0; p < PLACES; p++) {
                waysBefore[p] = ways[p];
            }
            for (int p = 0; p < PLACES; p++) {
                int sources = forest.spread(1 << p);
                long sum = 0;
                for (int q = 0; q < PLACES; q++) {
                    sum += hasBit(sources, q) ? waysBefore[q] : 0;
                }
                ways[p] = Math.min(sum, MOST_WAYS);
            }
        }

        private void strike(int p, boolean seen) {
            for (int q = 0; q < PLACES; q++) {
                if ((q == p) != seen) {
                    ways[q] = 0;
                }
            }
        }

        private int bootsBits() {
            int bits = 0;
            for (int p = 0; p < PLACES; p++) {
                bits |= ways[p] > 0 ? 1 << p : 0;
            }
            return bits;
        }

        private int bootsWays() {
            long sum = 0;
            for (int p = 0; p < PLACES; p++) {
                sum += ways[p];
            }
            return (int) Math.min(sum, MOST_WAYS);
        }
    }

    /** What the readers of texts share: where they stand, the sign there, and the fault they met. */
    private abstract static class Reader {
        static final int LONGEST = 240;
        static final int END = -1;
        private final int[] text = new int[LONGEST];
        private int length = 0;
        private int fault = 0;
        int at = 0;

        final void begin(Tape tape, int n) {
            length = n;
            for (int i = 0; i < n && i < text.length; i++) {
                text[i] = tape.byteAt(i);
            }
            at = 0;
            fault = 0;
        }

        final int sign() {
            return at >= 0 && at < length && at < text.length ? text[at] : END;
        }

        /** Notes a fault; false, as all that meets one. */
        final boolean blame(int number, int place) {
            fault = -1000 * number - place;
            return false;
        }

        final boolean pass(int wanted) {
            if (sign() != wanted) {
                return blame(1, at);
            }
            at++;
            return true;
        }

        final int answer(boolean good, int many) {
            return good ? many : fault;
        }

        /** A number of so many digits at most; NONE: a fault. */
        final int readNumber(int mostDigits) {
            int value = 0;
            int digits = 0;
            while (digits < mostDigits && isDigit(sign())) {
                value = 10 * value + sign() - '0';
                digits++;
                at++;
            }
            boolean tooMany = isDigit(sign());
            if (tooMany || digits == 0) {
                blame(tooMany ? 2 : 1, at);
                return NONE;
            }
            return value;
        }

        static boolean isDigit(int sign) {
            return sign >= '0' && sign <= '9';
        }
    }

    /** Reads hunts into bits, that of the first day lowest. */
    private static final class HuntsReader extends Reader {
        private static final int DEEPEST = 2;
        private long bits = 0;
        private int many = 0;

        /** How many days, or a fault. */
        private int readHunts() {
            bits = 0;
            many = 0;
            boolean good = readRow(0) && pass(END);
            return answer(good, many);
        }

        private boolean readRow(int depth) {
            for (int i = 0; i < LONGEST; i++) {
                if (!readPart(depth)) {
                    return false;
                }
                if (sign() == END || sign() == ')') {
                    return true;
                }
            }
            return true;
        }

        private boolean readPart(int depth) {
            int start = at;
            int before = many;
            int times = 1;
            if (isDigit(sign()) && sign() >= '2') {
                times = sign() - '0';
                at++;
            }
            boolean good = sign() == '(' ? readGroup(depth) : readOne();
            return good && repeat(before, times, start);
        }

        private boolean readGroup(int depth) {
            if (depth >= DEEPEST) {
                return blame(5, at);
            }
            at++;
            return readRow(depth + 1) && pass(')');
        }

        private boolean readOne() {
            if (sign() != 'h' && sign() != '.') {
                return blame(1, at);
            }
            bits |= sign() == 'h' ? 1L << many : 0L;
            many++;
            at++;
            return true;
        }

        private boolean repeat(int before, int times, int start) {
            int length = many - before;
            if (before + length * times > Forest.MOST_HUNT_DAYS) {
                return blame(6, start);
            }
            long part = bits >>> before;
            for (int i = 1; i < times; i++) {
                bits |= part << many;
                many += length;
            }
            return true;
        }
    }

    /** Reads a diary, and does at once on a draft of the band what it says. */
    private static final class DiaryReader extends Reader {
        private static final int MOST_LINES = 20;

        /** How many lines, or a fault. */
        private int readDiary(Forest forest, Band draft) {
            for (int lines = 1; lines <= LONGEST; lines++) {
                int k = readKnight(lines, draft);
                boolean good = k != NONE && readDeed(k, forest, draft);
                if (good && sign() == END) {
                    return lines;
                }
                if (!good || !pass(';')) {
                    return answer(false, lines);
                }
            }
            return NONE;
        }

        private int readKnight(int line, Band draft) {
            int k = sign() - 'a';
            int number = 0;
            if (!isWithin(k, 0, KNIGHTS - 1)) {
                number = 1;
            } else if (line > MOST_LINES) {
                number = 4;
            } else if (!draft.isLiving(k)) {
                number = 7;
            }
            if (number != 0) {
                blame(number, at);
                return NONE;
            }
            at++;
            return k;
        }

        private boolean readDeed(int k, Forest forest, Band draft) {
            int deed = sign();
            boolean wolf = draft.kindOf(k) == WOLF;
            if (deed != '>' && deed != '@' && deed != '+' && deed != '-') {
                return blame(1, at);
            }
            if (wolf ? deed == '+' : deed == '@' || deed == '-') {
                return blame(9, at);
            }
            at++;
            if (deed == '+') {
                draft.turnWolf(k);
                return true;
            }
            if (deed == '-') {
                draft.turnMan(k);
                return true;
            }
            return readPlace(k, deed, forest, draft);
        }

        private boolean readPlace(int k, int deed, Forest forest, Band draft) {
            int start = at;
            int p = readNumber(2);
            if (p == NONE) {
                return false;
            }
            if (!forest.isTold(p)) {
                return blame(7, start);
            }
            if (deed == '>') {
                draft.moveTo(k, p);
            } else {
                draft.layClothes(k, p);
            }
            return true;
        }
    }

    /** The rules, as codes for a stack: what is reckoned with stands ahead of the sign that reckons. */
    private static final class Law {
        private static final int LETTERS = 8;
        private static final int MOST_RULES = 16;
        private static final int MOST_CODES = 240;
        private static final int NUMBER = '0';
        private static final int LETTER = 'a';
        private final int[] kinds = new int[MOST_RULES];
        private final int[] sumStarts = new int[MOST_RULES];
        private final int[] testStarts = new int[MOST_RULES];
        private final int[] ends = new int[MOST_RULES];
        private final int[] signs = new int[MOST_CODES];
        private final int[] args = new int[MOST_CODES];
        // Six that are open in one another leave some three waiting each.
        private final int[] stack = new int[32];
        private int rules = 0;
        private int codes = 0;
        private int height = 0;
        private boolean refused = false;

        private void clear() {
            rules = 0;
            codes = 0;
        }

        private void copyFrom(Law other) {
            for (int r = 0; r < MOST_RULES; r++) {
                kinds[r] = other.kinds[r];
                sumStarts[r] = other.sumStarts[r];
                testStarts[r] = other.testStarts[r];
                ends[r] = other.ends[r];
            }
            for (int i = 0; i < MOST_CODES; i++) {
                signs[i] = other.signs[i];
                args[i] = other.args[i];
            }
            rules = other.rules;
            codes = other.codes;
        }

        private boolean isFull() {
            return rules >= MOST_RULES;
        }

        private void openRule(int kind) {
            if (rules >= 0 && rules < MOST_RULES) {
                kinds[rules] = kind;
                sumStarts[rules] = codes;
            }
        }

        private void openTests() {
            if (rules >= 0 && rules < MOST_RULES) {
                testStarts[rules] = codes;
            }
        }

        private void closeRule() {
            if (rules >= 0 && rules < MOST_RULES) {
                ends[rules] = codes;
                rules++;
            }
        }

        /** Where the code stands. */
        private int put(int sign, int arg) {
            if (codes < 0 || codes >= MOST_CODES) {
                return NONE;
            }
            signs[codes] = sign;
            args[codes] = arg;
            codes++;
            return codes - 1;
        }

        // What is skipped by & or | is known only when it has been read.
        private void skipToHere(int from) {
            if (from >= 0 && from < MOST_CODES) {
                args[from] = codes;
            }
        }

        /** The place of a letter among those that are looked up; NONE: there is none such. */
        private static int letterOf(int sign) {
            switch (sign) {
                case 'k': return 0;
                case 'p': return 1;
                case 'n': return 2;
                case 'j': return 3;
                case 'f': return 4;
                case 'o': return 5;
                case 'w': return 6;
                case 't': return 7;
                default: return NONE;
            }
        }

        private int valueOf(int kind, int[] letters, int most) {
            for (int r = 0; r < rules && r < MOST_RULES; r++) {
                if (kinds[r] == kind && run(testStarts[r], ends[r], letters) != 0) {
                    int value = run(sumStarts[r], testStarts[r], letters);
                    return Math.max(0, Math.min(most, value));
                }
            }
            return 0;
        }

        private boolean spares(int[] letters) {
            for (int r = 0; r < rules && r < MOST_RULES; r++) {
                if (kinds[r] == 's' && run(testStarts[r], ends[r], letters) != 0) {
                    return true;
                }
            }
            return false;
        }

        /** What is reckoned by these codes; 0 when it is refused. */
        private int run(int from, int to, int[] letters) {
            refused = false;
            height = 0;
            int at = from;
            for (int i = 0; i < MOST_CODES && !refused && at >= 0 && at < to && at < MOST_CODES; i++) {
                int sign = signs[at];
                int arg = args[at];
                at++;
                if (sign == NUMBER) {
                    push(arg);
                } else if (sign == LETTER) {
                    push(arg >= 0 && arg < letters.length ? letters[arg] : 0);
                } else if (sign == '!') {
                    push(1 - pop());
                } else if (sign == '&' || sign == '|') {
                    int left = pop();
                    if ((left != 0) == (sign == '|')) {
                        push(left);
                        at = arg;
                    }
                } else {
                    int right = pop();
                    push(reckon(sign, pop(), right));
                }
            }
            int value = pop();
            return refused ? 0 : value;
        }

        private void push(int value) {
            if (height >= 0 && height < stack.length) {
                stack[height] = value;
                height++;
            }
        }

        private int pop() {
            if (height <= 0 || height > stack.length) {
                return 0;
            }
            height--;
            return stack[height];
        }

        private int reckon(int sign, int left, int right) {
            switch (sign) {
                case '+': return left + right;
                case '-': return left - right;
                case '*': return left * right;
                case '<': return left < right ? 1 : 0;
                case '>': return left > right ? 1 : 0;
                case '=': return left == right ? 1 : 0;
                default: break;
            }
            if (right == 0) {
                refused = true;
                return 0;
            }
            return sign == '/' ? left / right : left % right;
        }
    }

    /** Reads a law into its codes. */
    private static final class LawReader extends Reader {
        private static final int DEEPEST = 6;

        /** How many rules, or a fault. */
        private int readLaw(Law law) {
            law.clear();
            boolean more = true;
            boolean good = true;
            for (int i = 0; i < LONGEST && good && more; i++) {
                int kind = sign();
                good = readKind(kind, law)
                        && (kind == 's' || readSum(law, 0))
                        && openTests(law)
                        && readTests(law, 1)
                        && pass(')');
                law.closeRule();
                more = sign() != END;
                good = good && (!more || pass(';'));
            }
            return answer(good, law.rules);
        }

        private boolean readKind(int kind, Law law) {
            if (kind != 'e' && kind != 'h' && kind != 's') {
                return blame(1, at);
            }
            if (law.isFull()) {
                return blame(4, at);
            }
            at++;
            law.openRule(kind);
            return true;
        }

        private boolean openTests(Law law) {
            law.openTests();
            return pass('(');
        }

        private boolean open(int depth) {
            if (depth >= DEEPEST) {
                return blame(5, at);
            }
            at++;
            return true;
        }

        /** Tests with & and | between them. */
        private boolean readTests(Law law, int depth) {
            int lastAnd = NONE;
            int lastOr = NONE;
            for (int i = 0; i < LONGEST; i++) {
                if (!readTest(law, depth)) {
                    return false;
                }
                law.skipToHere(lastAnd);
                lastAnd = NONE;
                int sign = sign();
                if (sign == '&') {
                    lastAnd = law.put(sign, 0);
                } else {
                    law.skipToHere(lastOr);
                    if (sign != '|') {
                        return true;
                    }
                    lastOr = law.put(sign, 0);
                }
                at++;
            }
            return true;
        }

        private boolean readTest(Law law, int depth) {
            if (sign() == '!') {
                boolean good = open(depth) && readTest(law, depth + 1);
                law.put('!', 0);
                return good;
            }
            if (sign() == '(') {
                return open(depth) && readTests(law, depth + 1) && pass(')');
            }
            if (!readSum(law, depth)) {
                return false;
            }
            int sign = sign();
            if (sign != '<' && sign != '>' && sign != '=') {
                return blame(1, at);
            }
            at++;
            boolean good = readSum(law, depth);
            law.put(sign, 0);
            return good;
        }

        /** Factors with signs between them; a + or - waits till its term has been read. */
        private boolean readSum(Law law, int depth) {
            int times = 0;
            int plus = 0;
            for (int i = 0; i < LONGEST; i++) {
                if (!readFactor(law, depth)) {
                    return false;
                }
                if (times != 0) {
                    law.put(times, 0);
                }
                int sign = sign();
                times = sign == '*' || sign == '/' || sign == '%' ? sign : 0;
                if (times == 0) {
                    if (plus != 0) {
                        law.put(plus, 0);
                    }
                    if (sign != '+' && sign != '-') {
                        return true;
                    }
                    plus = sign;
                }
                at++;
            }
            return true;
        }

        private boolean readFactor(Law law, int depth) {
            int sign = sign();
            if (sign == '[') {
                return open(depth) && readSum(law, depth + 1) && pass(']');
            }
            if (isDigit(sign)) {
                int value = readNumber(5);
                law.put(Law.NUMBER, value);
                return value != NONE;
            }
            int letter = Law.letterOf(sign);
            if (letter == NONE) {
                return blame(1, at);
            }
            law.put(Law.LETTER, letter);
            at++;
            return true;
        }
    }

    /** Weeks and years by the new reckoning. */
    private static final class Tables {
        private static final int[] MONTH_LENGTHS = {31, 28, 31, 30, 31, 30, 31, 31, 30, 31, 30, 31};

        private static boolean isLeap(int year) {
            return year % 4 == 0 && year % 100 != 0 || year % 400 == 0;
        }

        private static int yearLength(int year) {
            return isLeap(year) ? 366 : 365;
        }

        private static int monthLength(int year, int month) {
            if (month < 1 || month > MONTH_LENGTHS.length) {
                return 0;
            }
            return month == 2 && isLeap(year) ? 29 : MONTH_LENGTHS[month - 1];
        }

        private static boolean isDate(int year, int month, int day) {
            return isWithin(year, 1, 9999) && isWithin(day, 1, monthLength(year, month));
        }

        /** Days behind 1 January of the year 1, a Monday. */
        private static int dayNumber(int year, int month, int day) {
            int ahead = year - 1;
            int number = 365 * ahead + ahead / 4 - ahead / 100 + ahead / 400 + day - 1;
            for (int m = 1; m < month && m <= 12; m++) {
                number += monthLength(year, m);
            }
            return number;
        }

        private static int weekdayOf(int year, int month, int day) {
            return (dayNumber(year, month, day) + 1) % WEEK;
        }

        private static int dateOf(int year, int daysBehind) {
            int left = daysBehind;
            int month = 1;
            for (int m = 1; m < 12 && left >= monthLength(year, m); m++) {
                left -= monthLength(year, m);
                month = m + 1;
            }
            return 100 * month + left + 1;
        }

        private static int easterOf(int year) {
            int moonYear = year % 19;
            int century = year / 100;
            int ofCentury = year % 100;
            int moonShift = (century - (century + 8) / 25 + 1) / 3;
            int fullMoon = (19 * moonYear + century - century / 4 - moonShift + 15) % 30;
            int toSunday = (32 + 2 * (century % 4) + 2 * (ofCentury / 4) - fullMoon - ofCentury % 4) % 7;
            int early = (moonYear + 11 * fullMoon + 22 * toSunday) / 451;
            int behind = fullMoon + toSunday - 7 * early + 114;
            return 100 * (behind / 31) + behind % 31 + 1;
        }
    }
}
