import java.util.Arrays;

/**
 * A county of villages, shops and frames, of those who break frames and of those who look for them.
 * What each call promises stands in the document; README.md says how to use the class.
 */
public final class FrameCounty {
    public static final int NONE = -1, BAD = -2, STATE = -3, FULL = -4;
    public static final long NO = -4611686018427387904L;

    private static final int NO_TAKER = -5;
    private static final int MISSING = -11, OUTSIDE = -12, UNLIKE = -13, BELOW_ZERO = -14;
    private static final int FAULT_BASE = -100;

    private static final int NIGHTS = 400, MOST_PASSED = 60, WEEK_NIGHTS = 7, HOURS = 12, WHEN_NIGHT = 100;
    private static final int VILLAGES = 8, NO_ROAD = 99;
    private static final int MOST_SHOPS = 8, MOST_FRAMES = 20, MOST_PAYS = 99, MOST_RENT = 99;
    private static final int WHOLE = 0, BROKEN = 1, HIDDEN = 2;
    private static final int MOST_BYTES = 160, MOST_TEXTS = 6;
    private static final int MOST_RAIDS = 30, FORMS = 1500;
    private static final int MOST_PERSONS = 12, MOST_SEEN = 40, MOST_WORDS = 24, INFORMERS = 6, MOST_PAID = 999;
    private static final int MOST_MEETINGS = 40;
    private static final int MOST_CLAUSES = 8, MOST_WORTH = 99, MOST_ASKED = 999;
    private static final int MOST_ROWS = 6, WEEKS = 5;
    private static final int SHEETS = 4, MOST_ITEMS = 40;

    /** The places of the NAMES among the values that a text is asked with. */
    private static final int KIND = 0, WIDTH = 1, WEEK = 2, RENT = 3, WORDS = 4, PAID = 5, NAMES = 6;

    private final Roads roads = new Roads();
    private final Works works = new Works();
    private final Raids raids = new Raids(works);
    private final Watch watch = new Watch(roads, raids);
    private final Oaths oaths = new Oaths();
    private final Bargain bargain = new Bargain();
    private final Weeks weeks = new Weeks();
    private final Sheets sheets = new Sheets();
    private final Reader reader = new Reader();
    private final Text[] texts = new Text[MOST_TEXTS];
    private final int[] asked = new int[NAMES];
    private int textsMade;
    private int list;
    private int night;

    public FrameCounty() {
        for (int i = 0; i < MOST_TEXTS; i++) {
            texts[i] = new Text();
        }
        reader.put("price 10 + width ; hold 1 < words ;");
        reader.readInto(texts[0]);
        textsMade = 1;
    }

    public int pass(int n) {
        if (!isWithin(n, 1, MOST_PASSED)) {
            return BAD;
        }
        if (night + n >= NIGHTS) {
            return FULL;
        }
        night += n;
        return night;
    }

    public int road(int a, int b, int hours) {
        if (!Roads.isVillage(a) || !Roads.isVillage(b) || a == b || !Roads.canTake(hours)) {
            return BAD;
        }
        return roads.lay(a, b, hours);
    }

    public int far(int a, int b, int night) {
        if (!Roads.isVillage(a) || !Roads.isVillage(b) || !isNight(night)) {
            return BAD;
        }
        return roads.distance(a, b, night);
    }

    // ---- shops, frames

    public int shop(int village, int pays) {
        if (!Roads.isVillage(village) || !Works.canPay(pays)) {
            return BAD;
        }
        return works.addShop(village, pays);
    }

    public int pays(int shop, int n) {
        if (!works.isShop(shop) || !Works.canPay(n)) {
            return BAD;
        }
        return works.tellPays(shop, n);
    }

    public int frame(int kind, int shop, int width, int rent) {
        if (!Works.isKind(kind) || !works.isShop(shop)) {
            return BAD;
        }
        if (!Works.canBeWide(width) || !isWithin(rent, 0, MOST_RENT)) {
            return BAD;
        }
        return works.addFrame(kind, shop, width, rent);
    }

    public long frameTold(int frame, int what) {
        return works.isFrame(frame) ? works.tellOf(frame, what) : NO;
    }

    public int mend(int frame, int how) {
        if (!works.isFrame(frame) || !isWithin(how, 0, 2)) {
            return BAD;
        }
        return works.change(frame, how) ? 1 : STATE;
    }

    public int keeps(int shop) {
        if (!works.isShop(shop)) {
            return BAD;
        }
        for (int i = 0; i < works.frames(); i++) {
            if (works.shopOf(i) == shop && works.isWhole(i) && works.paysOf(shop) < priceOf(i)) {
                return 0;
            }
        }
        return 1;
    }

    public long earns(int shop) {
        return works.isShop(shop) ? works.earnedBy(shop) : NO;
    }

    // ---- texts

    public int feed(int n, long bytes) {
        return isWithin(n, 1, 8) ? reader.append(n, bytes) : BAD;
    }

    public int text() {
        if (textsMade >= MOST_TEXTS) {
            return FULL;
        }
        int fault = reader.readInto(texts[textsMade]);
        if (fault >= 0) {
            return FAULT_BASE - fault;
        }
        textsMade++;
        return textsMade - 1;
    }

    public int force(int text) {
        if (!isWithin(text, 0, textsMade - 1)) {
            return BAD;
        }
        int was = list;
        list = text;
        return was;
    }

    public long says(int part, int number) {
        if (part == 0 && works.isFrame(number)) {
            return priceOf(number);
        }
        if (part == 1 && watch.isPerson(number)) {
            return holdOf(number, night, watch.lies(night), NONE);
        }
        return NO;
    }

    // ---- raids

    public int raid(int frame, int hour) {
        if (!works.isFrame(frame) || !isHour(hour)) {
            return BAD;
        }
        if (!works.isWhole(frame)) {
            return STATE;
        }
        return raids.add(frame, night, hour);
    }

    public int pattern(int what) {
        if (!isWithin(what, 0, 1)) {
            return BAD;
        }
        int struck = works.struckIn(night);
        return what == 0 ? struck : works.sparedBy(struck);
    }

    public int left() {
        int found = 0;
        int struck = works.struckIn(night);
        int spared = works.sparedBy(struck);
        for (int f = 0; f < FORMS; f++) {
            if (works.parts(f, struck, spared)) {
                found++;
            }
        }
        return found;
    }

    public int form(int i) {
        if (i < 0) {
            return NONE;
        }
        int ahead = i;
        int struck = works.struckIn(night);
        int spared = works.sparedBy(struck);
        for (int f = 0; f < FORMS; f++) {
            if (works.parts(f, struck, spared)) {
                if (ahead == 0) {
                    return f;
                }
                ahead--;
            }
        }
        return NONE;
    }

    public int sends(int form) {
        if (!isWithin(form, 0, FORMS - 1)) {
            return BAD;
        }
        return works.nextShop(form, works.struckIn(night));
    }

    // ---- persons, words, oaths

    public int person(int home) {
        return Roads.isVillage(home) ? watch.addPerson(home) : BAD;
    }

    public int seen(int person, int village, int night, int hour) {
        if (!watch.isPerson(person) || !Roads.isVillage(village) || !isPast(night) || !isHour(hour)) {
            return BAD;
        }
        return watch.addSeen(person, village, night, hour, this.night);
    }

    public int canBe(int person, int village, int when, int known) {
        if (!watch.isPerson(person) || !Roads.isVillage(village) || !isPast(known) || when < 0) {
            return BAD;
        }
        int in = when / WHEN_NIGHT;
        int hour = when % WHEN_NIGHT;
        if (!isNight(in) || !isHour(hour)) {
            return BAD;
        }
        return watch.isPossible(person, village, in, hour, known) ? 1 : 0;
    }

    public int suspects(int raid, int known) {
        return raids.isRaid(raid) && isPast(known) ? watch.couldRaid(raid, known) : BAD;
    }

    public int word(int informer, int person, int raid, int paid) {
        if (!isInformer(informer) || !watch.isPerson(person)) {
            return BAD;
        }
        if (!raids.isRaid(raid) || !isWithin(paid, 0, MOST_PAID)) {
            return BAD;
        }
        return watch.addWord(informer, person, raid, paid, night);
    }

    public int falseWords(int known) {
        return isPast(known) ? watch.lies(known) : BAD;
    }

    public long paid(int informer, int what, int known) {
        if (!isInformer(informer) || !isWithin(what, 0, 1) || !isPast(known)) {
            return NO;
        }
        int all = watch.wordsOf(informer, known);
        return watch.paidFor(what == 0 ? all : all & watch.lies(known));
    }

    public int held(int known) {
        return isPast(known) ? heldWithout(NONE, known) : BAD;
    }

    public int hangs(int informer, int known) {
        if (!isInformer(informer) || !isPast(known)) {
            return BAD;
        }
        return heldWithout(NONE, known) & ~heldWithout(informer, known);
    }

    public int meeting(int a, int b, int night) {
        if (!watch.isPerson(a) || !watch.isPerson(b) || a == b || !isPast(night)) {
            return BAD;
        }
        return oaths.addMeeting(a, b, night);
    }

    public int taker(int person, int night) {
        if (!watch.isPerson(person) || !isWithin(night, NONE, NIGHTS - 1)) {
            return NO_TAKER;
        }
        return oaths.tellTaker(person, night);
    }

    public int sworn(int first, int night) {
        if (first < 0 || first >= 1 << watch.persons() || !isNight(night)) {
            return BAD;
        }
        return oaths.swornFrom(first, night);
    }

    public int began() {
        return oaths.fewestFirst(watch.persons());
    }

    // ---- soldiers, offers, weeks

    public int parties(int n, int hours, int night, int what) {
        if (!isWithin(n, 0, VILLAGES) || !isWithin(hours, 0, 99) || !isNight(night) || !isWithin(what, 0, 1)) {
            return BAD;
        }
        int best = NONE;
        int most = NONE;
        for (int set = 0; set < 1 << VILLAGES; set++) {
            if (Integer.bitCount(set) == n) {
                int reached = shopsReached(set, hours, night);
                if (reached > most) {
                    best = set;
                    most = reached;
                }
            }
        }
        return what == 0 ? best : most;
    }

    public int clause(int owners, int men) {
        if (!isWithin(owners, -MOST_WORTH, MOST_WORTH) || !isWithin(men, -MOST_WORTH, MOST_WORTH)) {
            return BAD;
        }
        return bargain.addClause(owners, men);
    }

    public int against(int a, int b) {
        if (!bargain.isClause(a) || !bargain.isClause(b) || a == b) {
            return BAD;
        }
        return bargain.part(a, b) ? 1 : 0;
    }

    public int offer(int owners, int men) {
        if (!isWithin(owners, -MOST_ASKED, MOST_ASKED) || !isWithin(men, -MOST_ASKED, MOST_ASKED)) {
            return BAD;
        }
        return bargain.bestSet(owners, men);
    }

    public int row(long raids) {
        return Weeks.isRow(raids) ? weeks.addRow(raids) : BAD;
    }

    public int plan(int n, int i) {
        if (!isWithin(n, 1, WEEKS)) {
            return BAD;
        }
        if (!isWithin(i, -1, n - 1)) {
            return NONE;
        }
        int best = weeks.bestPlan(n);
        return i == -1 ? weeks.mostBroken(best, n) : Weeks.doneIn(i, best, n);
    }

    public int count(int what) {
        switch (what) {
            case 0: return night;
            case 1: return works.shops();
            case 2: return works.frames();
            case 3: return raids.all();
            case 4: return watch.persons();
            case 5: return watch.allSeen();
            case 6: return watch.allWords();
            case 7: return oaths.meetings();
            case 8: return bargain.clauses();
            case 9: return weeks.rows();
            case 10: return textsMade;
            case 11: return reader.bytes();
            case 12: return list;
            case 13: return works.framesThatAre(WHOLE);
            case 14: return works.framesThatAre(BROKEN);
            case 15: return works.framesThatAre(HIDDEN);
            default: return BAD;
        }
    }

    // ---- the host

    public int sheet(int sheet, int sort, int n) {
        if (!Sheets.isSheet(sheet) || sort != NONE && !Sheets.isSort(sort)) {
            return BAD;
        }
        if (sort == NONE) {
            sheets.drop(sheet);
            return 1;
        }
        if (n > MOST_ITEMS) {
            return BAD;
        }
        if (n < 0) {
            return BELOW_ZERO;
        }
        sheets.lay(sheet, sort, n);
        return 1;
    }

    public int cell(int sheet, int i, int v) {
        if (!Sheets.isSheet(sheet)) {
            return BAD;
        }
        if (sheets.isMissing(sheet)) {
            return MISSING;
        }
        if (!sheets.isPlace(sheet, i)) {
            return OUTSIDE;
        }
        sheets.put(sheet, i, v);
        return 1;
    }

    public int copy(int sheet, int i, int other, int j, int n) {
        if (!Sheets.isSheet(sheet) || !Sheets.isSheet(other)) {
            return BAD;
        }
        if (sheets.isMissing(sheet) || sheets.isMissing(other)) {
            return MISSING;
        }
        if (sheets.sortOf(sheet) != sheets.sortOf(other)) {
            return UNLIKE;
        }
        if (!sheets.isStretch(sheet, i, n) || !sheets.isStretch(other, j, n)) {
            return OUTSIDE;
        }
        sheets.move(sheet, i, other, j, n);
        return n;
    }

    public int paysRow(int sheet, int sort, int from, int n) {
        if (!Sheets.isSheet(sheet) || !Sheets.isSort(sort) || !isWithin(n, 0, MOST_SHOPS)) {
            return BAD;
        }
        if (sheets.isMissing(sheet)) {
            return MISSING;
        }
        if (sheets.sortOf(sheet) != sort) {
            return UNLIKE;
        }
        int told = 0;
        for (int shop = 0; shop < n; shop++) {
            int place = from + shop;
            if (!sheets.isPlace(sheet, place)) {
                return OUTSIDE;
            }
            int pays = sheets.itemAt(sheet, place);
            if (works.isShop(shop) && Works.canPay(pays)) {
                works.tellPays(shop, pays);
                told++;
            }
        }
        return told;
    }

    public int taken(int frame, int k) {
        if (!Works.isKind(k)) {
            return BAD;
        }
        if (!works.isFrame(frame)) {
            return MISSING;
        }
        return works.isOfKind(frame, k) ? works.widthOf(frame) : UNLIKE;
    }

    // ---- what several calls use

    private static boolean isWithin(int n, int least, int most) {
        return n >= least && n <= most;
    }

    private static boolean isNight(int n) {
        return isWithin(n, 0, NIGHTS - 1);
    }

    private static boolean isHour(int n) {
        return isWithin(n, 0, HOURS - 1);
    }

    private static boolean isInformer(int n) {
        return isWithin(n, 0, INFORMERS - 1);
    }

    /** Whether something can have been told of this night by now. */
    private boolean isPast(int n) {
        return isWithin(n, 0, night);
    }

    private int priceOf(int frame) {
        Arrays.fill(asked, 0);
        asked[KIND] = works.kindOf(frame);
        asked[WIDTH] = works.widthOf(frame);
        asked[WEEK] = night / WEEK_NIGHTS;
        asked[RENT] = works.rentPaid(frame);
        return texts[list].priceBy(asked);
    }

    private int holdOf(int person, int known, int lies, int without) {
        int words = watch.wordsOn(person, known) & ~lies;
        if (without != NONE) {
            words &= ~watch.wordsOf(without, known);
        }
        Arrays.fill(asked, 0);
        asked[WEEK] = night / WEEK_NIGHTS;
        asked[WORDS] = Integer.bitCount(words);
        asked[PAID] = watch.paidFor(words);
        return texts[list].holdBy(asked);
    }

    /** The persons held as if one informer's words had not been said; of all words, if that one is NONE. */
    private int heldWithout(int informer, int known) {
        int set = 0;
        int lies = watch.lies(known);
        for (int p = 0; p < watch.persons(); p++) {
            if (holdOf(p, known, lies, informer) != 0) {
                set |= 1 << p;
            }
        }
        return set;
    }

    private int shopsReached(int set, int hours, int night) {
        int reached = 0;
        for (int s = 0; s < works.shops(); s++) {
            if (roads.isReachedFromOne(set, works.villageOf(s), hours, night)) {
                reached++;
            }
        }
        return reached;
    }

    /** Villages, the roads between them, and how far they lie apart in bright and in dark nights. */
    private static final class Roads {
        private static final int LONGEST = 9, MOON = 30, BRIGHT_FIRST = 8, BRIGHT_LAST = 22;

        private final int[][] taking = new int[VILLAGES][VILLAGES];
        private final int[][] brightFar = new int[VILLAGES][VILLAGES];
        private final int[][] darkFar = new int[VILLAGES][VILLAGES];

        Roads() {
            for (int a = 0; a < VILLAGES; a++) {
                Arrays.fill(taking[a], NO_ROAD);
            }
            measure(brightFar, 0);
            measure(darkFar, 1);
        }

        static boolean isVillage(int n) {
            return isWithin(n, 0, VILLAGES - 1);
        }

        static boolean canTake(int hours) {
            return isWithin(hours, 1, LONGEST) || hours == NO_ROAD;
        }

        int lay(int a, int b, int hours) {
            int was = taking[a][b];
            taking[a][b] = hours;
            taking[b][a] = hours;
            measure(brightFar, 0);
            measure(darkFar, 1);
            return was;
        }

        int distance(int a, int b, int night) {
            int turn = night % MOON;
            return turn >= BRIGHT_FIRST && turn <= BRIGHT_LAST ? brightFar[a][b] : darkFar[a][b];
        }

        // Where there is no road, 99 is told of it: that is no number of hours, and no time is enough.
        boolean isReached(int from, int to, int hours, int night) {
            int far = distance(from, to, night);
            return far != NO_ROAD && far <= hours;
        }

        boolean isReachedFromOne(int set, int village, int hours, int night) {
            for (int v = 0; v < VILLAGES; v++) {
                if ((set >> v & 1) == 1 && isReached(v, village, hours, night)) {
                    return true;
                }
            }
            return false;
        }

        private void measure(int[][] far, int more) {
            for (int a = 0; a < VILLAGES; a++) {
                for (int b = 0; b < VILLAGES; b++) {
                    far[a][b] = a == b ? 0 : taking[a][b] == NO_ROAD ? NO_ROAD : taking[a][b] + more;
                }
            }
            for (int by = 0; by < VILLAGES; by++) {
                for (int a = 0; a < VILLAGES; a++) {
                    for (int b = 0; b < VILLAGES; b++) {
                        far[a][b] = Math.min(far[a][b], far[a][by] + far[by][b]);
                    }
                }
            }
        }
    }

    /** Shops, their frames, and the forms by which frames are told apart. */
    private static final class Works {
        private static final int FRAME = 0, WIDE = 1, NARROW = 2, CUT = 3, LACE = 4, POWER = 5, KINDS = 6;
        private static final int[] UNDER = {NONE, FRAME, FRAME, WIDE, NARROW, WIDE};
        private static final int LEAST_WIDTH = 10, MOST_WIDTH = 60;
        private static final int MEND = 0, BRING_BACK = 1;
        private static final int FIELD_FORMS = 300, SIGN_FORMS = 100, SIGNS = 3;

        private int shopsMade;
        private final int[] village = new int[MOST_SHOPS];
        private final int[] price = new int[MOST_SHOPS];
        private int framesMade;
        private final int[] kind = new int[MOST_FRAMES];
        private final int[] owner = new int[MOST_FRAMES];
        private final int[] width = new int[MOST_FRAMES];
        private final int[] rent = new int[MOST_FRAMES];
        private final int[] state = new int[MOST_FRAMES];
        private final int[] brokenIn = new int[MOST_FRAMES];

        static boolean canPay(int n) {
            return isWithin(n, 0, MOST_PAYS);
        }

        static boolean isKind(int n) {
            return isWithin(n, 0, KINDS - 1);
        }

        static boolean canBeWide(int n) {
            return isWithin(n, LEAST_WIDTH, MOST_WIDTH);
        }

        boolean isShop(int n) {
            return isWithin(n, 0, shopsMade - 1);
        }

        boolean isFrame(int n) {
            return isWithin(n, 0, framesMade - 1);
        }

        int shops() {
            return shopsMade;
        }

        int frames() {
            return framesMade;
        }

        int villageOf(int shop) {
            return village[shop];
        }

        int paysOf(int shop) {
            return price[shop];
        }

        int kindOf(int frame) {
            return kind[frame];
        }

        int shopOf(int frame) {
            return owner[frame];
        }

        int widthOf(int frame) {
            return width[frame];
        }

        boolean isWhole(int frame) {
            return state[frame] == WHOLE;
        }

        int addShop(int where, int pays) {
            if (shopsMade >= MOST_SHOPS) {
                return FULL;
            }
            village[shopsMade] = where;
            price[shopsMade] = pays;
            shopsMade++;
            return shopsMade - 1;
        }

        int tellPays(int shop, int n) {
            int were = price[shop];
            price[shop] = n;
            return were;
        }

        int addFrame(int ofKind, int shop, int wide, int forRent) {
            if (framesMade >= MOST_FRAMES) {
                return FULL;
            }
            kind[framesMade] = ofKind;
            owner[framesMade] = shop;
            width[framesMade] = wide;
            rent[framesMade] = forRent;
            framesMade++;
            return framesMade - 1;
        }

        long tellOf(int frame, int what) {
            switch (what) {
                case 0: return kind[frame];
                case 1: return owner[frame];
                case 2: return width[frame];
                case 3: return rent[frame];
                case 4: return state[frame];
                case 5: return makes(frame);
                case 6: return rentPaid(frame);
                case 7: return earned(frame);
                default: return NO;
            }
        }

        /** Whether the frame was in the state that this change is made from. */
        boolean change(int frame, int how) {
            int from = how == MEND ? BROKEN : how == BRING_BACK ? HIDDEN : WHOLE;
            if (state[frame] != from) {
                return false;
            }
            state[frame] = from == WHOLE ? HIDDEN : WHOLE;
            return true;
        }

        void breakDown(int frame, int night) {
            state[frame] = BROKEN;
            brokenIn[frame] = night;
        }

        int framesThatAre(int how) {
            int found = 0;
            for (int i = 0; i < framesMade; i++) {
                if (state[i] == how) {
                    found++;
                }
            }
            return found;
        }

        boolean isOfKind(int frame, int asKind) {
            int at = kind[frame];
            for (int steps = 0; steps < KINDS && at != NONE; steps++) {
                if (at == asKind) {
                    return true;
                }
                at = UNDER[at];
            }
            return false;
        }

        int rentPaid(int frame) {
            switch (kind[frame]) {
                case NARROW:
                case LACE: return rent[frame] / 2;
                case CUT: return rent[frame] + 2;
                case POWER: return rent[frame] + width[frame];
                default: return rent[frame];
            }
        }

        private int makes(int frame) {
            int plain = width[frame] / 10;
            switch (kind[frame]) {
                case WIDE: return plain + 3;
                case NARROW: return plain - 1;
                case CUT: return (plain + 3) * 2;
                case LACE: return (plain - 1) / 2;
                case POWER: return plain * 4;
                default: return plain;
            }
        }

        private int earned(int frame) {
            int sold = state[frame] == WHOLE ? makes(frame) * price[owner[frame]] : 0;
            return sold - rentPaid(frame);
        }

        int earnedBy(int shop) {
            int sum = 0;
            for (int i = 0; i < framesMade; i++) {
                if (owner[i] == shop) {
                    sum += earned(i);
                }
            }
            return sum;
        }

        int struckIn(int night) {
            int set = 0;
            for (int i = 0; i < framesMade; i++) {
                if (state[i] == BROKEN && brokenIn[i] == night) {
                    set |= 1 << i;
                }
            }
            return set;
        }

        int sparedBy(int struck) {
            int hit = shopsWith(struck);
            int set = 0;
            for (int i = 0; i < framesMade; i++) {
                if (state[i] == WHOLE && (hit >> owner[i] & 1) == 1) {
                    set |= 1 << i;
                }
            }
            return set;
        }

        private int shopsWith(int frameSet) {
            int set = 0;
            for (int i = 0; i < framesMade; i++) {
                if ((frameSet >> i & 1) == 1) {
                    set |= 1 << owner[i];
                }
            }
            return set;
        }

        private boolean fits(int form, int frame) {
            int value = fieldOf(form / FIELD_FORMS, frame);
            int number = form % SIGN_FORMS;
            switch (form / SIGN_FORMS % SIGNS) {
                case 0: return value < number;
                case 1: return value == number;
                default: return value > number;
            }
        }

        private int fieldOf(int field, int frame) {
            switch (field) {
                case 0: return width[frame];
                case 1: return rent[frame];
                case 2: return kind[frame];
                case 3: return price[owner[frame]];
                default: return village[owner[frame]];
            }
        }

        /** Whether a form parts the struck from the spared; none does where nothing is struck. */
        boolean parts(int form, int struck, int spared) {
            if (struck == 0) {
                return false;
            }
            for (int i = 0; i < framesMade; i++) {
                boolean isStruck = (struck >> i & 1) == 1;
                boolean isSpared = (spared >> i & 1) == 1;
                if ((isStruck || isSpared) && fits(form, i) != isStruck) {
                    return false;
                }
            }
            return true;
        }

        int nextShop(int form, int struck) {
            int hit = shopsWith(struck);
            int best = NONE;
            int most = 0;
            for (int s = 0; s < shopsMade; s++) {
                int fitting = (hit >> s & 1) == 1 ? 0 : wholeThatFit(form, s);
                if (fitting > most) {
                    best = s;
                    most = fitting;
                }
            }
            return best;
        }

        private int wholeThatFit(int form, int shop) {
            int found = 0;
            for (int i = 0; i < framesMade; i++) {
                if (owner[i] == shop && state[i] == WHOLE && fits(form, i)) {
                    found++;
                }
            }
            return found;
        }
    }

    /** The raids, as they were made. */
    private static final class Raids {
        private final Works works;
        private int made;
        private final int[] frame = new int[MOST_RAIDS];
        private final int[] inNight = new int[MOST_RAIDS];
        private final int[] atHour = new int[MOST_RAIDS];

        Raids(Works works) {
            this.works = works;
        }

        boolean isRaid(int n) {
            return isWithin(n, 0, made - 1);
        }

        int all() {
            return made;
        }

        int add(int onFrame, int night, int hour) {
            if (made >= MOST_RAIDS) {
                return FULL;
            }
            works.breakDown(onFrame, night);
            frame[made] = onFrame;
            inNight[made] = night;
            atHour[made] = hour;
            made++;
            return made - 1;
        }

        int villageOf(int raid) {
            return works.villageOf(works.shopOf(frame[raid]));
        }

        int nightOf(int raid) {
            return inNight[raid];
        }

        int hourOf(int raid) {
            return atHour[raid];
        }
    }

    /** The steps of one text: numbers, NAMES and signs, each sign behind what it works on. */
    private static final class Text {
        /** Numbers are their own steps, up to four digits of them. */
        private static final int FIRST_NAME = 10000;
        private static final int FIRST_SIGN = 20000;
        static final int NEGATED = FIRST_SIGN, OPPOSITE = FIRST_SIGN + 1;
        static final int EITHER = FIRST_SIGN + 2, BOTH = FIRST_SIGN + 3, LESS = FIRST_SIGN + 4, SAME = FIRST_SIGN + 5;
        static final int PLUS = FIRST_SIGN + 6, MINUS = FIRST_SIGN + 7, TIMES = FIRST_SIGN + 8;
        /** Within five open signs no more values wait: each sign keeps five at most waiting outside it. */
        private static final int MOST_OPEN_VALUES = 64;

        private final int[] steps = new int[MOST_BYTES];
        private final int[] stack = new int[MOST_OPEN_VALUES];
        private int priceEnd;
        private int holdEnd;

        void clear() {
            priceEnd = 0;
            holdEnd = 0;
        }

        /** Behind this, what is added belongs to the hold. */
        void endPrice() {
            priceEnd = holdEnd;
        }

        void add(int step) {
            if (holdEnd < steps.length) {
                steps[holdEnd] = step;
                holdEnd++;
            }
        }

        void addName(int name) {
            add(FIRST_NAME + name);
        }

        int priceBy(int[] names) {
            return work(0, priceEnd, names);
        }

        int holdBy(int[] names) {
            return work(priceEnd, holdEnd, names);
        }

        private int work(int from, int end, int[] names) {
            int high = 0;
            for (int i = from; i < end; i++) {
                int step = steps[i];
                int eats = step < FIRST_SIGN ? 0 : step > OPPOSITE ? 2 : 1;
                if (high < eats || high - eats >= stack.length) {
                    return 0;
                }
                high -= eats;
                if (eats == 0) {
                    stack[high] = valueOf(step, names);
                } else if (eats == 1) {
                    stack[high] = ofOne(step, stack[high]);
                } else {
                    stack[high] = ofTwo(step, stack[high], stack[high + 1]);
                }
                high++;
            }
            return stack[0];
        }

        private static int valueOf(int step, int[] names) {
            int name = step - FIRST_NAME;
            return isWithin(name, 0, names.length - 1) ? names[name] : step;
        }

        private static int ofOne(int step, int value) {
            return step == NEGATED ? bit(value == 0) : -value;
        }

        private static int ofTwo(int step, int a, int b) {
            switch (step) {
                case EITHER: return bit(a != 0 || b != 0);
                case BOTH: return bit(a != 0 && b != 0);
                case LESS: return bit(a < b);
                case SAME: return bit(a == b);
                case PLUS: return a + b;
                case MINUS: return a - b;
                default: return a * b;
            }
        }

        private static int bit(boolean isTrue) {
            return isTrue ? 1 : 0;
        }
    }

    /** The tape, and how a text is read from it. */
    private static final class Reader {
        private static final int MOST_DIGITS = 4, MOST_OPEN = 5, NEW_LINE = 10;
        private static final int BLANKS = 0, LETTERS = 1, DIGITS = 2, OTHERS = 3;
        /** Tokens that are signs are their own bytes; these stand above all bytes. */
        private static final int END = 256, WRONG = 257, NUMBER = 258, FIRST_WORD = 300;
        /** The words behind the NAMES, which come first. */
        private static final int KEY_PRICE = FIRST_WORD + 6, KEY_HOLD = FIRST_WORD + 7;
        private static final int KEY_OR = FIRST_WORD + 8, KEY_AND = FIRST_WORD + 9, KEY_NOT = FIRST_WORD + 10;
        private static final int ALL_WORDS = 11;

        private final byte[] tape = new byte[MOST_BYTES];
        private int size;
        private final int[] tokens = new int[MOST_BYTES + 1];
        private final int[] places = new int[MOST_BYTES + 1];
        private final int[] numbers = new int[MOST_BYTES + 1];
        private int found;
        private int at;
        private int fault;
        private Text into;

        int bytes() {
            return size;
        }

        void put(String words) {
            for (int i = 0; i < words.length() && size < MOST_BYTES; i++) {
                tape[size] = (byte) words.charAt(i);
                size++;
            }
        }

        int append(int n, long bytes) {
            if (size + n > MOST_BYTES) {
                return FULL;
            }
            for (int i = 0; i < n; i++) {
                tape[size] = (byte) (bytes >> 8 * i);
                size++;
            }
            return size;
        }

        /** The place of the fault, or NONE; the tape is empty then. */
        int readInto(Text text) {
            cutIntoTokens();
            at = 0;
            fault = NONE;
            into = text;
            into.clear();
            expect(KEY_PRICE);
            readOr(0);
            expect(';');
            into.endPrice();
            expect(KEY_HOLD);
            readOr(0);
            expect(';');
            if (token() != END) {
                fail();
            }
            size = 0;
            return fault;
        }

        // A wrong token ends the cutting: no text goes on behind it.
        private void cutIntoTokens() {
            int from = 0;
            int last = NUMBER;
            found = 0;
            for (int i = 0; i <= MOST_BYTES && last != END && last != WRONG; i++) {
                from = stretchEnd(from, BLANKS);
                int end = from < size ? stretchEnd(from, sortOf(tape[from])) : from;
                last = tokenOf(from, end);
                tokens[i] = last;
                places[i] = from;
                numbers[i] = last == NUMBER ? numberOf(from, end) : 0;
                found = i + 1;
                from = end;
            }
        }

        /** Where the bytes of a sort end that stand together from a place on; of others just one does. */
        private int stretchEnd(int from, int sort) {
            int most = sort == OTHERS ? Math.min(from + 1, size) : size;
            int end = from;
            while (end < most && sortOf(tape[end]) == sort) {
                end++;
            }
            return end;
        }

        private static int sortOf(int c) {
            if (c == ' ' || c == NEW_LINE) {
                return BLANKS;
            }
            return isWithin(c, 'a', 'z') ? LETTERS : isWithin(c, '0', '9') ? DIGITS : OTHERS;
        }

        // A byte that is no sign needs no look here: as a token of its own it can stand nowhere.
        private int tokenOf(int from, int end) {
            if (from >= size) {
                return END;
            }
            switch (sortOf(tape[from])) {
                case LETTERS: return wordOf(from, end);
                case DIGITS: return end - from <= MOST_DIGITS ? NUMBER : WRONG;
                default: return tape[from];
            }
        }

        private int numberOf(int from, int end) {
            int value = 0;
            for (int i = from; i < end; i++) {
                value = value * 10 + tape[i] - '0';
            }
            return value;
        }

        private int wordOf(int from, int end) {
            for (int w = 0; w < ALL_WORDS; w++) {
                if (stands(lettersOf(w), from, end)) {
                    return FIRST_WORD + w;
                }
            }
            return WRONG;
        }

        private boolean stands(String letters, int from, int end) {
            if (letters.length() != end - from) {
                return false;
            }
            for (int i = from; i < end; i++) {
                if (tape[i] != letters.charAt(i - from)) {
                    return false;
                }
            }
            return true;
        }

        private static String lettersOf(int word) {
            switch (word) {
                case KIND: return "kind";
                case WIDTH: return "width";
                case WEEK: return "week";
                case RENT: return "rent";
                case WORDS: return "words";
                case PAID: return "paid";
                case KEY_PRICE - FIRST_WORD: return "price";
                case KEY_HOLD - FIRST_WORD: return "hold";
                case KEY_OR - FIRST_WORD: return "or";
                case KEY_AND - FIRST_WORD: return "and";
                default: return "not";
            }
        }

        // Behind a fault no token fits any more, so that all that is being read ends.
        private int token() {
            return fault == NONE && at < found ? tokens[at] : WRONG;
        }

        private void fail() {
            if (fault == NONE && at < found) {
                fault = places[at];
            }
        }

        private void expect(int wanted) {
            if (token() == wanted) {
                at++;
            } else {
                fail();
            }
        }

        private void readOr(int open) {
            readAnd(open);
            for (int i = 0; i < MOST_BYTES && token() == KEY_OR; i++) {
                at++;
                readAnd(open);
                into.add(Text.EITHER);
            }
        }

        private void readAnd(int open) {
            readNot(open);
            for (int i = 0; i < MOST_BYTES && token() == KEY_AND; i++) {
                at++;
                readNot(open);
                into.add(Text.BOTH);
            }
        }

        private void readNot(int open) {
            if (token() == KEY_NOT) {
                if (mayOpen(open)) {
                    readNot(open + 1);
                    into.add(Text.NEGATED);
                }
                return;
            }
            readSum(open);
            int sign = token();
            if (sign == '<' || sign == '=') {
                at++;
                readSum(open);
                into.add(sign == '<' ? Text.LESS : Text.SAME);
            }
        }

        private void readSum(int open) {
            readTerm(open);
            for (int i = 0; i < MOST_BYTES && (token() == '+' || token() == '-'); i++) {
                int sign = token();
                at++;
                readTerm(open);
                into.add(sign == '+' ? Text.PLUS : Text.MINUS);
            }
        }

        private void readTerm(int open) {
            readOne(open);
            for (int i = 0; i < MOST_BYTES && token() == '*'; i++) {
                at++;
                readOne(open);
                into.add(Text.TIMES);
            }
        }

        private void readOne(int open) {
            int first = token();
            if (first == NUMBER) {
                into.add(numbers[at]);
                at++;
            } else if (isWithin(first, FIRST_WORD, FIRST_WORD + NAMES - 1)) {
                into.addName(first - FIRST_WORD);
                at++;
            } else if (first == '-') {
                if (mayOpen(open)) {
                    readOne(open + 1);
                    into.add(Text.OPPOSITE);
                }
            } else if (first == '(') {
                if (mayOpen(open)) {
                    readOr(open + 1);
                    expect(')');
                }
            } else {
                fail();
            }
        }

        /** Goes over the opening token, if not too many are open. */
        private boolean mayOpen(int open) {
            if (open >= MOST_OPEN) {
                fail();
                return false;
            }
            at++;
            return true;
        }
    }

    /** Persons, where they were seen, and what informers said of them. */
    private static final class Watch {
        private final Roads roads;
        private final Raids raids;
        private int personsMade;
        private final int[] home = new int[MOST_PERSONS];
        private int seenMade;
        private final int[] seenWho = new int[MOST_SEEN];
        private final int[] seenWhere = new int[MOST_SEEN];
        private final int[] seenNight = new int[MOST_SEEN];
        private final int[] seenHour = new int[MOST_SEEN];
        private final int[] seenKnown = new int[MOST_SEEN];
        private int wordsMade;
        private final int[] wordBy = new int[MOST_WORDS];
        private final int[] wordOn = new int[MOST_WORDS];
        private final int[] wordRaid = new int[MOST_WORDS];
        private final int[] wordPaid = new int[MOST_WORDS];
        private final int[] wordKnown = new int[MOST_WORDS];

        Watch(Roads roads, Raids raids) {
            this.roads = roads;
            this.raids = raids;
        }

        boolean isPerson(int n) {
            return isWithin(n, 0, personsMade - 1);
        }

        int persons() {
            return personsMade;
        }

        int allSeen() {
            return seenMade;
        }

        int allWords() {
            return wordsMade;
        }

        int addPerson(int at) {
            if (personsMade >= MOST_PERSONS) {
                return FULL;
            }
            home[personsMade] = at;
            personsMade++;
            return personsMade - 1;
        }

        int addSeen(int person, int village, int night, int hour, int known) {
            if (seenMade >= MOST_SEEN) {
                return FULL;
            }
            seenWho[seenMade] = person;
            seenWhere[seenMade] = village;
            seenNight[seenMade] = night;
            seenHour[seenMade] = hour;
            seenKnown[seenMade] = known;
            seenMade++;
            return seenMade;
        }

        int addWord(int informer, int person, int raid, int paid, int known) {
            if (wordsMade >= MOST_WORDS) {
                return FULL;
            }
            wordBy[wordsMade] = informer;
            wordOn[wordsMade] = person;
            wordRaid[wordsMade] = raid;
            wordPaid[wordsMade] = paid;
            wordKnown[wordsMade] = known;
            wordsMade++;
            return wordsMade - 1;
        }

        boolean isPossible(int person, int village, int night, int hour, int known) {
            if (!roads.isReached(home[person], village, hour, night)) {
                return false;
            }
            for (int i = 0; i < seenMade; i++) {
                boolean counts = seenWho[i] == person && seenNight[i] == night && seenKnown[i] <= known;
                int between = Math.abs(hour - seenHour[i]);
                if (counts && !roads.isReached(seenWhere[i], village, between, night)) {
                    return false;
                }
            }
            return true;
        }

        private boolean isPossibleAt(int person, int raid, int known) {
            return isPossible(person, raids.villageOf(raid), raids.nightOf(raid), raids.hourOf(raid), known);
        }

        int couldRaid(int raid, int known) {
            int set = 0;
            for (int p = 0; p < personsMade; p++) {
                if (isPossibleAt(p, raid, known)) {
                    set |= 1 << p;
                }
            }
            return set;
        }

        /** The words known in a night that can't be, by what was seen and is known then. */
        int lies(int known) {
            int set = 0;
            for (int w = 0; w < wordsMade; w++) {
                if (wordKnown[w] <= known && !isPossibleAt(wordOn[w], wordRaid[w], known)) {
                    set |= 1 << w;
                }
            }
            return set;
        }

        int wordsOf(int informer, int known) {
            int set = 0;
            for (int w = 0; w < wordsMade; w++) {
                if (wordKnown[w] <= known && wordBy[w] == informer) {
                    set |= 1 << w;
                }
            }
            return set;
        }

        int wordsOn(int person, int known) {
            int set = 0;
            for (int w = 0; w < wordsMade; w++) {
                if (wordKnown[w] <= known && wordOn[w] == person) {
                    set |= 1 << w;
                }
            }
            return set;
        }

        int paidFor(int wordSet) {
            int sum = 0;
            for (int w = 0; w < wordsMade; w++) {
                if ((wordSet >> w & 1) == 1) {
                    sum += wordPaid[w];
                }
            }
            return sum;
        }
    }

    /** Meetings at which oaths are handed on, and those told to be sworn. */
    private static final class Oaths {
        private int made;
        private final int[] one = new int[MOST_MEETINGS];
        private final int[] another = new int[MOST_MEETINGS];
        private final int[] inNight = new int[MOST_MEETINGS];
        private final int[] takenBy = new int[MOST_PERSONS];
        private final int[] reached = new int[MOST_PERSONS];

        Oaths() {
            Arrays.fill(takenBy, NONE);
        }

        int meetings() {
            return made;
        }

        /** Meetings stand by nights, those of one night as they were told. */
        int addMeeting(int a, int b, int night) {
            if (made >= MOST_MEETINGS) {
                return FULL;
            }
            int place = made;
            for (int i = made; i > 0 && inNight[i - 1] > night; i--) {
                one[i] = one[i - 1];
                another[i] = another[i - 1];
                inNight[i] = inNight[i - 1];
                place = i - 1;
            }
            one[place] = a;
            another[place] = b;
            inNight[place] = night;
            made++;
            return made;
        }

        int tellTaker(int person, int night) {
            int was = takenBy[person];
            takenBy[person] = night;
            return was;
        }

        int swornFrom(int first, int night) {
            int set = first;
            for (int i = 0; i < made && inNight[i] <= night; i++) {
                int pair = 1 << one[i] | 1 << another[i];
                if ((set & pair) != 0) {
                    set |= pair;
                }
            }
            return set;
        }

        int fewestFirst(int persons) {
            int takers = 0;
            for (int p = 0; p < persons; p++) {
                takers |= takenBy[p] == NONE ? 0 : 1 << p;
                reached[p] = takersReachedFrom(p, persons);
            }
            int best = takers;
            for (int set = 0; set < 1 << persons; set++) {
                int fewer = Integer.bitCount(best) - Integer.bitCount(set);
                if ((fewer > 0 || fewer == 0 && set < best) && (takersReachedBySet(set, persons) & takers) == takers) {
                    best = set;
                }
            }
            return best;
        }

        private int takersReachedFrom(int person, int persons) {
            int set = 0;
            for (int p = 0; p < persons; p++) {
                if (takenBy[p] != NONE) {
                    set |= swornFrom(1 << person, takenBy[p]) & 1 << p;
                }
            }
            return set;
        }

        // What several swear in is what each of them alone would.
        private int takersReachedBySet(int set, int persons) {
            int all = 0;
            for (int p = 0; p < persons; p++) {
                if ((set >> p & 1) == 1) {
                    all |= reached[p];
                }
            }
            return all;
        }
    }

    /** Clauses, and the offer that both sides take. */
    private static final class Bargain {
        private int made;
        private final int[] toOwners = new int[MOST_CLAUSES];
        private final int[] toMen = new int[MOST_CLAUSES];
        private final int[] apart = new int[MOST_CLAUSES];

        boolean isClause(int n) {
            return isWithin(n, 0, made - 1);
        }

        int clauses() {
            return made;
        }

        int addClause(int owners, int men) {
            if (made >= MOST_CLAUSES) {
                return FULL;
            }
            toOwners[made] = owners;
            toMen[made] = men;
            made++;
            return made - 1;
        }

        /** Whether the two went together until now. */
        boolean part(int a, int b) {
            boolean went = (apart[a] >> b & 1) == 0;
            apart[a] |= 1 << b;
            apart[b] |= 1 << a;
            return went;
        }

        int bestSet(int owners, int men) {
            int best = NONE;
            for (int set = 0; set < 1 << made; set++) {
                boolean does = goesTogether(set) && worth(toOwners, set) >= owners && worth(toMen, set) >= men;
                if (does && (best == NONE || isBetter(set, best))) {
                    best = set;
                }
            }
            return best;
        }

        // Sets are tried from the least on, so that of like ones the first one stays.
        private boolean isBetter(int set, int than) {
            int more = worth(toMen, set) - worth(toMen, than);
            if (more == 0) {
                more = worth(toOwners, set) - worth(toOwners, than);
            }
            if (more == 0) {
                more = Integer.bitCount(than) - Integer.bitCount(set);
            }
            return more > 0;
        }

        private boolean goesTogether(int set) {
            for (int c = 0; c < made; c++) {
                if ((set >> c & 1) == 1 && (apart[c] & set) != 0) {
                    return false;
                }
            }
            return true;
        }

        private int worth(int[] toSide, int set) {
            int sum = 0;
            for (int c = 0; c < made; c++) {
                if ((set >> c & 1) == 1) {
                    sum += toSide[c];
                }
            }
            return sum;
        }
    }

    /** Rows of weeks, and the plan for the worst of them. A plan is a number to the base 3, week 0 ahead. */
    private static final class Weeks {
        private static final int SOLDIERS = 1, OFFERS = 2, WAYS = 3;
        private static final int[] POWERS = {1, 3, 9, 27, 81, 243};
        private static final long BASE = 100, ALL_RAIDS = 10000000000L;

        private int made;
        private final int[][] expected = new int[MOST_ROWS][WEEKS];

        static boolean isRow(long digits) {
            return digits >= 0 && digits < ALL_RAIDS;
        }

        int rows() {
            return made;
        }

        int addRow(long digits) {
            if (made >= MOST_ROWS) {
                return FULL;
            }
            long rest = digits;
            for (int w = 0; w < WEEKS; w++) {
                expected[made][w] = (int) (rest % BASE);
                rest /= BASE;
            }
            made++;
            return made - 1;
        }

        static int doneIn(int week, int plan, int n) {
            return plan / POWERS[n - 1 - week] % WAYS;
        }

        // Plans are tried from the least on, so that of like ones the first one stays.
        int bestPlan(int n) {
            int best = 0;
            int least = mostBroken(0, n);
            int fewest = 0;
            for (int plan = 1; plan < POWERS[n]; plan++) {
                int most = mostBroken(plan, n);
                int parties = weeksWithSoldiers(plan, n);
                if (most < least || most == least && parties < fewest) {
                    best = plan;
                    least = most;
                    fewest = parties;
                }
            }
            return best;
        }

        int mostBroken(int plan, int n) {
            int most = 0;
            for (int r = 0; r < made; r++) {
                most = Math.max(most, broken(r, plan, n));
            }
            return most;
        }

        private int broken(int row, int plan, int n) {
            int sum = 0;
            int ahead = 0;
            for (int w = 0; w < n; w++) {
                int done = doneIn(w, plan, n);
                int raided = expected[row][w];
                if (done == SOLDIERS) {
                    sum += (raided + 1) / 2;
                } else if (done == OFFERS && ahead != OFFERS) {
                    sum += (raided + 2) / 3;
                } else {
                    sum += raided;
                }
                ahead = done;
            }
            return sum;
        }

        private static int weeksWithSoldiers(int plan, int n) {
            int found = 0;
            for (int w = 0; w < n; w++) {
                if (doneIn(w, plan, n) == SOLDIERS) {
                    found++;
                }
            }
            return found;
        }
    }

    /** The host's rows of numbers. */
    private static final class Sheets {
        private static final int BYTES = 0, SHORTS = 1, SORTS = 3;

        private final int[] sort = new int[SHEETS];
        private final int[] length = new int[SHEETS];
        private final int[][] items = new int[SHEETS][MOST_ITEMS];

        Sheets() {
            Arrays.fill(sort, NONE);
        }

        static boolean isSheet(int n) {
            return isWithin(n, 0, SHEETS - 1);
        }

        static boolean isSort(int n) {
            return isWithin(n, 0, SORTS - 1);
        }

        boolean isMissing(int sheet) {
            return sort[sheet] == NONE;
        }

        int sortOf(int sheet) {
            return sort[sheet];
        }

        boolean isPlace(int sheet, int i) {
            return isWithin(i, 0, length[sheet] - 1);
        }

        /** Whether n items stand from a place on; none may stand behind the last. */
        boolean isStretch(int sheet, int from, int n) {
            return n >= 0 && isWithin(from, 0, length[sheet] - n);
        }

        void drop(int sheet) {
            sort[sheet] = NONE;
            length[sheet] = 0;
        }

        void lay(int sheet, int ofSort, int n) {
            sort[sheet] = ofSort;
            length[sheet] = n;
            Arrays.fill(items[sheet], 0);
        }

        void put(int sheet, int i, int v) {
            items[sheet][i] = sort[sheet] == BYTES ? (byte) v : sort[sheet] == SHORTS ? (short) v : v;
        }

        int itemAt(int sheet, int i) {
            return items[sheet][i];
        }

        void move(int sheet, int i, int other, int j, int n) {
            System.arraycopy(items[sheet], i, items[other], j, n);
        }
    }
}
