import java.util.NoSuchElementException;

/** A hill country of wells that sleep by rounds; ../shared/DOC.md says what each call answers. */
public final class SnoringWells {
    public static final int NONE = -1;

    private static final int TAPE_BYTES = 900;
    private static final int FED_BYTES = 20;
    private static final int MAX_WELLS = 10;
    private static final int WELL_SETS = 1 << MAX_WELLS;
    private static final int MAX_HOUSES = 6;
    private static final int MAX_UNDO = 10;
    private static final int MAX_NOISE = 99;
    private static final int SOON = 40;
    private static final int LATER = 200;
    private static final int MAX_TIMES = 30;
    private static final int TRAYS = 4;
    private static final int TRAY_PLACES = 30;
    private static final int IMAGES = 3;

    private static final int NO_SUCH = 1;
    private static final int NOT_SO_AWAKE = 2;
    private static final int NOT_FIT = 3;
    private static final int TOO_LITTLE = 4;

    private static final int NO_PLAN = -2;

    private static final int TOLD_LULL = 2000;
    private static final int TOLD_COIN = 2100;
    private static final int TOLD_THUNDER = 3000;

    /* A law is kept in the order in which it is worked out: 0 to 999 are numbers, then what stands for a name, then signs. */
    private static final int NAMES = 1000;
    private static final int DEEP_A = 0;
    private static final int DEEP_B = 1;
    private static final int WATER_A = 2;
    private static final int WATER_B = 3;
    private static final int NOISE_N = 4;
    private static final int HOUR_OF_DAY = 5;
    private static final int PHASE_B = 6;
    private static final int MANY_A = 7;
    private static final int NAME_COUNT = 8;
    private static final int ADD = 2000;
    private static final int SUBTRACT = 2001;
    private static final int MULTIPLY = 2002;
    private static final int EQUAL = 2003;
    private static final int BELOW = 2004;
    private static final int ABOVE = 2005;
    private static final int BOTH_HOLD = 2006;
    private static final int ONE_HOLDS = 2007;
    private static final int DENY = 2008;
    private static final int MOST = 1000000;
    private static final int[] NO_LAW = {};

    private final Page page;
    private final Page[] images = new Page[IMAGES];
    private final Tray[] trays = new Tray[TRAYS];
    private final Land ahead;
    private final Reader reader;
    private final Noise noise;
    private final Deeds deeds;
    private final Rounds rounds = new Rounds();
    private final Plans plans;
    private final Snores snores = new Snores();

    public SnoringWells() {
        Hills empty = new Hills();
        Land scratch = new Land(empty);
        Noise shared = new Noise(scratch);
        page = new Page(empty);
        for (int i = 0; i < images.length; i++) {
            images[i] = new Page(empty);
        }
        for (int i = 0; i < trays.length; i++) {
            trays[i] = new Tray();
        }
        ahead = scratch;
        reader = new Reader(empty);
        noise = shared;
        deeds = new Deeds(shared);
        plans = new Plans(shared, scratch);
    }

    // ---- the hills

    public int feed(int a, int b, int c, int d, int e) {
        if (reader.taped + FED_BYTES > TAPE_BYTES) {
            return NONE;
        }
        reader.append(a);
        reader.append(b);
        reader.append(c);
        reader.append(d);
        reader.append(e);
        return reader.taped;
    }

    public int hills(int n) throws IllegalArgumentException {
        needWithin(n, 0, reader.taped);
        if (!reader.readText(n)) {
            return -10 - reader.faultKind;
        }
        page.beginWith(reader.draft);
        return reader.draft.lines;
    }

    public int fault(int what) {
        if (what == 0) {
            return reader.faultKind;
        }
        return what == 1 ? reader.faultPlace : NONE;
    }

    public int well(int w, int what) throws NoSuchElementException, IllegalArgumentException {
        needWell(w);
        needWithin(what, 0, 8);
        Land now = page.now;
        Hills hills = now.hills;
        switch (what) {
            case 0:
                return hills.roundOf(w);
            case 1:
                return hills.upOf(w);
            case 2:
                return now.shiftOf(w);
            case 3:
                return hills.deepOf(w);
            case 4:
                return now.waterOf(w);
            case 5:
                return now.phaseOf(w);
            case 6:
                return now.isAwake(w) ? 1 : 0;
            case 7:
                return now.isSour(w) ? 1 : 0;
            default:
                return hills.besideOf(w);
        }
    }

    public int house(int h, int what) throws NoSuchElementException, IllegalArgumentException {
        needHouse(h);
        needWithin(what, 0, 1);
        return what == 0 ? page.now.hills.needOf(h) : page.now.hills.fromOf(h);
    }

    public int awake() {
        return page.now.awakeBits();
    }

    public int water() {
        return page.now.allWater();
    }

    // ---- deeds

    public int draw(int w, int n) {
        int why = Deeds.whyNotDraw(page.now, w, n);
        if (why != 0) {
            return -why;
        }
        page.remember();
        return deeds.drawFrom(page.now, w, n);
    }

    public int lull(int w) {
        int why = Deeds.whyNotLull(page.now, w);
        if (why != 0) {
            return -10 - why;
        }
        page.remember();
        page.now.putToSleep(w);
        return page.now.shiftOf(w);
    }

    public int coin(int w) {
        int why = Deeds.whyNotCoin(page.now, w);
        if (why != 0) {
            return -why;
        }
        page.remember();
        return deeds.coinInto(page.now, w);
    }

    public int thunder() {
        page.remember();
        return deeds.thunderOver(page.now);
    }

    public int hours(int n) throws IllegalArgumentException {
        needWithin(n, 1, 99);
        page.remember();
        int before = page.now.allWater();
        for (int i = 0; i < n; i++) {
            page.now.passHour();
        }
        return page.now.allWater() - before;
    }

    public int undo(int n) throws IllegalArgumentException {
        needWithin(n, 1, MAX_UNDO);
        needWithin(n, 1, page.remembered);
        page.goBack(n);
        return page.remembered;
    }

    public int judge(int tray, int what) throws NoSuchElementException, IllegalStateException, IllegalArgumentException {
        Tray told = presentTray(tray);
        needWithin(what, 0, 3);
        ahead.become(page.now);
        int place = 0;
        int why = 0;
        for (int i = 0; i < told.many && why == 0; i++) {
            long deed = told.numberAt(i);
            place = i;
            why = Deeds.whyNotTold(ahead, deed);
            if (why == 0) {
                deeds.carryOut(ahead, deed);
            }
        }
        switch (what) {
            case 0:
                return why == 0 ? NONE : place;
            case 1:
                return why;
            case 2:
                return ahead.allWater();
            default:
                return ahead.awakeBits();
        }
    }

    public int perform(int tray) throws NoSuchElementException, IllegalStateException {
        Tray told = presentTray(tray);
        int done = 0;
        for (int i = 0; i < told.many && carryOutIfCan(told.numberAt(i)); i++) {
            done++;
        }
        return done;
    }

    public int year(int seed, int times) throws IllegalArgumentException {
        needWithin(times, 1, MAX_TIMES);
        Lots lots = new Lots(seed);
        int done = 0;
        for (int i = 0; i < times; i++) {
            long deed = lots.nextDeed(page.now.hills.wells);
            if (carryOutIfCan(deed)) {
                done++;
            }
        }
        return done;
    }

    // ---- rounds

    public int joint() {
        rounds.over(page.now, page.now.hills.allWells());
        return rounds.joined();
    }

    public int together(int set, boolean awake) throws IllegalArgumentException {
        needSet(set);
        rounds.over(page.now, set);
        return rounds.firstWith(awake ? Integer.bitCount(set) : 0);
    }

    public int wakesIn(int w) throws NoSuchElementException {
        needWell(w);
        Land now = page.now;
        return now.isAwake(w) ? 0 : now.hills.roundOf(w) - now.phaseOf(w);
    }

    public int stays(int w) throws NoSuchElementException {
        needWell(w);
        Land now = page.now;
        if (!now.hills.everSleeps(w)) {
            return NONE;
        }
        int end = now.isAwake(w) ? now.hills.upOf(w) : now.hills.roundOf(w);
        return end - now.phaseOf(w);
    }

    public int withAwake(int n) throws IllegalArgumentException {
        needWithin(n, 0, page.now.hills.wells);
        rounds.over(page.now, page.now.hills.allWells());
        return rounds.hoursWith(n);
    }

    public int stillest(int what) throws IllegalArgumentException {
        needWithin(what, 0, 1);
        rounds.over(page.now, page.now.hills.allWells());
        int fewest = rounds.fewest();
        return what == 0 ? rounds.firstWith(fewest) : fewest;
    }

    // ---- noises

    public int chain(int w, int n) throws NoSuchElementException, IllegalArgumentException {
        needWell(w);
        needNoise(n);
        noise.over(page.now);
        return noise.wokenBy(w, n);
    }

    public boolean wakes(int a, int b, int n) throws NoSuchElementException, IllegalArgumentException {
        needWell(a);
        needWell(b);
        needUnlike(a, b);
        needNoise(n);
        noise.lookAt(page.now);
        return has(noise.wokenAtOnce(a, n), b);
    }

    public int quietest(int w) throws NoSuchElementException {
        needWell(w);
        noise.lookAt(page.now);
        for (int n = MAX_NOISE; n >= 1; n--) {
            if (Deeds.whyNotDraw(page.now, w, n) == 0 && noise.wokenAtOnce(w, n) == 0) {
                return n;
            }
        }
        return 0;
    }

    public int wakers(int w, int n) throws NoSuchElementException, IllegalArgumentException {
        needWell(w);
        needNoise(n);
        noise.over(page.now);
        return noise.awakeOnesThatWake(w, n);
    }

    public int leastNoise(int w, int what) throws NoSuchElementException, IllegalArgumentException {
        needWell(w);
        needWithin(what, 0, 1);
        noise.over(page.now);
        for (int n = 0; n <= MAX_NOISE; n++) {
            int set = noise.awakeOnesThatWake(w, n);
            if (set != 0) {
                return what == 0 ? n : Integer.numberOfTrailingZeros(set);
            }
        }
        return NONE;
    }

    public int shield(int a, int n, int b, int what) throws NoSuchElementException, IllegalArgumentException {
        needWell(a);
        needWell(b);
        needNoise(n);
        needWithin(what, 0, 1);
        noise.over(page.now);
        return sizeOrSet(noise.leastShield(a, n, b), what);
    }

    public int loudest(int n) throws IllegalArgumentException {
        needNoise(n);
        noise.over(page.now);
        int best = NONE;
        int most = NONE;
        for (int w = 0; w < page.now.hills.wells; w++) {
            int woken = Integer.bitCount(noise.wokenBy(w, n));
            if (woken > most) {
                most = woken;
                best = w;
            }
        }
        return best;
    }

    public int chorus(int n, int what) throws IllegalArgumentException {
        needNoise(n);
        needWithin(what, 0, 1);
        noise.over(page.now);
        return sizeOrSet(noise.leastChorus(n), what);
    }

    public int yawns(int a, int n, int b) throws NoSuchElementException, IllegalArgumentException {
        needWell(a);
        needWell(b);
        needNoise(n);
        noise.over(page.now);
        return noise.yawnsTill(a, n, b);
    }

    public int loudHour(int w, int n) throws NoSuchElementException, IllegalArgumentException {
        needWell(w);
        needNoise(n);
        ahead.become(page.now);
        int best = 0;
        int most = NONE;
        for (int t = 0; t <= SOON; t++) {
            noise.over(ahead);
            int woken = Integer.bitCount(noise.wokenBy(w, n));
            if (woken > most) {
                most = woken;
                best = t;
            }
            ahead.passHour();
        }
        return best;
    }

    // ---- plans

    public long quietHours(int h) throws NoSuchElementException {
        needHouse(h);
        plans.lookAhead(page.now);
        return plans.hoursOf(h);
    }

    public int quietWell(int h, int n) throws NoSuchElementException, IllegalArgumentException {
        needHouse(h);
        needWithin(n, 0, SOON);
        lookAhead(n);
        noise.lookAt(ahead);
        return plans.quietWellNow(h);
    }

    public int plan(int what) throws IllegalArgumentException {
        if (what != 0) {
            needWithin(what, 10, 15);
        }
        plans.lookAhead(page.now);
        int last = plans.soonestEnd();
        if (last < 0) {
            return NO_PLAN;
        }
        int h = what == 0 ? 0 : what - 10;
        if (!page.now.hills.hasHouse(h)) {
            return NONE;
        }
        return what == 0 ? last : plans.hourInPlan(h, last);
    }

    public int served(int n) throws IllegalArgumentException {
        needWithin(n, 0, SOON);
        plans.lookAhead(page.now);
        return plans.mostServed(n);
    }

    public int dry() {
        plans.lookAhead(page.now);
        int set = 0;
        for (int h = 0; h < page.now.hills.houses; h++) {
            if (plans.hoursOf(h) == 0) {
                set |= 1 << h;
            }
        }
        return set;
    }

    // ---- hours to come

    public int waterIn(int w, int n) throws NoSuchElementException, IllegalArgumentException {
        needWell(w);
        needWithin(n, 0, LATER);
        lookAhead(n);
        return ahead.waterOf(w);
    }

    public int hasIn(int w, int n) throws NoSuchElementException, IllegalArgumentException {
        needWell(w);
        needWithin(n, 0, Integer.MAX_VALUE);
        ahead.become(page.now);
        for (int t = 0; t <= LATER; t++) {
            if (ahead.waterOf(w) >= n) {
                return t;
            }
            ahead.passHour();
        }
        return NONE;
    }

    public int fullest() {
        ahead.become(page.now);
        int best = 0;
        int most = NONE;
        for (int t = 0; t <= LATER; t++) {
            int all = ahead.allWater();
            if (all > most) {
                most = all;
                best = t;
            }
            ahead.passHour();
        }
        return best;
    }

    public int level(int a, int b) throws NoSuchElementException, IllegalArgumentException {
        needWell(a);
        needWell(b);
        needUnlike(a, b);
        needBeside(a, b);
        ahead.become(page.now);
        for (int t = 0; t <= LATER; t++) {
            if (ahead.waterOf(a) == ahead.waterOf(b)) {
                return t;
            }
            ahead.passHour();
        }
        return NONE;
    }

    // ---- rounds read from snores

    public int seen(int tray) throws NoSuchElementException, IllegalStateException, IllegalArgumentException {
        snores.hear(heardTray(tray));
        return snores.howManyFit();
    }

    public int roundAt(int tray, int k) throws NoSuchElementException, IllegalStateException, IllegalArgumentException {
        Tray heard = heardTray(tray);
        needWithin(k, 0, Integer.MAX_VALUE);
        snores.hear(heard);
        return snores.fitAt(k);
    }

    public int listen(int tray) throws NoSuchElementException, IllegalStateException, IllegalArgumentException {
        snores.hear(heardTray(tray));
        return snores.tellsMost();
    }

    public int whose(int tray) throws NoSuchElementException, IllegalStateException, IllegalArgumentException {
        snores.hear(heardTray(tray));
        Land now = page.now;
        int set = 0;
        for (int w = 0; w < now.hills.wells; w++) {
            if (snores.fits(now.hills.roundOf(w), now.hills.upOf(w), now.phaseOf(w))) {
                set |= 1 << w;
            }
        }
        return set;
    }

    // ---- trays, images

    public void tray(int tray, int sort, int many) throws NoSuchElementException, IllegalArgumentException {
        Tray chosen = anyTray(tray);
        needWithin(sort, 0, 3);
        needWithin(many, 0, TRAY_PLACES);
        chosen.layOut(sort, many);
    }

    public long write(int tray, int place, long v) throws NoSuchElementException, IllegalStateException, IndexOutOfBoundsException {
        Tray chosen = presentTray(tray);
        if (place < 0 || place >= chosen.many) {
            throw new IndexOutOfBoundsException("no such place");
        }
        chosen.put(place, v);
        return chosen.numberAt(place);
    }

    public int copy(int tray, int w) throws NoSuchElementException, IllegalStateException {
        anyTray(tray);
        needWell(w);
        Tray chosen = presentTray(tray);
        for (int i = 0; i < chosen.many; i++) {
            chosen.put(i, page.now.isAwakeIn(w, i) ? 1 : 0);
        }
        return chosen.many;
    }

    public void image(int i) throws NoSuchElementException {
        Page chosen = anyImage(i);
        chosen.become(page);
        chosen.made = true;
    }

    public void restore(int i) throws NoSuchElementException, IllegalStateException {
        Page chosen = anyImage(i);
        if (!chosen.made) {
            throw new IllegalStateException("no image was made");
        }
        page.become(chosen);
    }

    public int count(int what) {
        Land now = page.now;
        switch (what) {
            case 0:
                return now.hills.lines;
            case 1:
                return now.hills.wells;
            case 2:
                return now.hills.houses;
            case 3:
                return now.hour;
            case 4:
                return Integer.bitCount(now.awakeBits());
            case 5:
                return Integer.bitCount(now.sour);
            case 6:
                return now.hills.pairs();
            case 7:
                return page.remembered;
            case 8:
                return reader.taped;
            case 9:
                return now.hills.law.length > 0 ? 1 : 0;
            default:
                return NONE;
        }
    }

    // ---- what the calls share

    private boolean carryOutIfCan(long deed) {
        if (Deeds.whyNotTold(page.now, deed) != 0) {
            return false;
        }
        page.remember();
        deeds.carryOut(page.now, deed);
        return true;
    }

    private void lookAhead(int n) {
        ahead.become(page.now);
        for (int t = 0; t < n; t++) {
            ahead.passHour();
        }
    }

    private void needWell(int w) {
        if (!page.now.hills.hasWell(w)) {
            throw new NoSuchElementException("no such well");
        }
    }

    private void needHouse(int h) {
        if (!page.now.hills.hasHouse(h)) {
            throw new NoSuchElementException("no such house");
        }
    }

    private void needSet(int set) {
        if ((set & ~page.now.hills.allWells()) != 0) {
            throw new IllegalArgumentException("others than wells");
        }
    }

    private void needBeside(int a, int b) {
        if (!has(page.now.hills.besideOf(a), b)) {
            throw new IllegalArgumentException("not beside one another");
        }
    }

    private static void needUnlike(int a, int b) {
        if (a == b) {
            throw new IllegalArgumentException("both are one");
        }
    }

    private static void needNoise(int n) {
        needWithin(n, 0, MAX_NOISE);
    }

    private static void needWithin(int v, int least, int most) {
        if (v < least || v > most) {
            throw new IllegalArgumentException("out of bounds");
        }
    }

    private Tray anyTray(int tray) {
        if (tray < 0 || tray >= trays.length) {
            throw new NoSuchElementException("no such tray");
        }
        return trays[tray];
    }

    private Tray presentTray(int tray) {
        Tray chosen = anyTray(tray);
        if (!chosen.present) {
            throw new IllegalStateException("the tray is missing");
        }
        return chosen;
    }

    private Tray heardTray(int tray) {
        Tray chosen = presentTray(tray);
        if (!Snores.canBeHeard(chosen)) {
            throw new IllegalArgumentException("no snores");
        }
        return chosen;
    }

    private Page anyImage(int i) {
        if (i < 0 || i >= images.length) {
            throw new NoSuchElementException("no such image");
        }
        return images[i];
    }

    private static boolean has(int set, int i) {
        return i >= 0 && i < 32 && (set >> i & 1) != 0;
    }

    private static int sizeOrSet(int set, int what) {
        if (set < 0) {
            return NONE;
        }
        return what == 0 ? Integer.bitCount(set) : set;
    }

    /** What a text tells; nothing changes it once it is read, so pages and images share it. */
    private static final class Hills {
        int lines = 0;
        int wells = 0;
        int houses = 0;
        int firstHour = 0;
        int[] law = NO_LAW;
        private final int[] round = new int[MAX_WELLS];
        private final int[] up = new int[MAX_WELLS];
        private final int[] shift = new int[MAX_WELLS];
        private final int[] deep = new int[MAX_WELLS];
        private final int[] toldWater = new int[MAX_WELLS];
        private final int[] beside = new int[MAX_WELLS];
        private final int[] need = new int[MAX_HOUSES];
        private final int[] from = new int[MAX_HOUSES];

        boolean hasWell(int w) {
            return w >= 0 && w < wells && w < MAX_WELLS;
        }

        boolean hasHouse(int h) {
            return h >= 0 && h < houses && h < MAX_HOUSES;
        }

        int allWells() {
            return (1 << wells) - 1;
        }

        int roundOf(int w) {
            return w >= 0 && w < round.length ? round[w] : 0;
        }

        int upOf(int w) {
            return w >= 0 && w < up.length ? up[w] : 0;
        }

        int toldShiftOf(int w) {
            return w >= 0 && w < shift.length ? shift[w] : 0;
        }

        int deepOf(int w) {
            return w >= 0 && w < deep.length ? deep[w] : 0;
        }

        int toldWaterOf(int w) {
            return w >= 0 && w < toldWater.length ? toldWater[w] : 0;
        }

        int besideOf(int w) {
            return w >= 0 && w < beside.length ? beside[w] : 0;
        }

        int needOf(int h) {
            return h >= 0 && h < need.length ? need[h] : 0;
        }

        int fromOf(int h) {
            return h >= 0 && h < from.length ? from[h] : 0;
        }

        boolean everSleeps(int w) {
            return upOf(w) < roundOf(w);
        }

        int pairs() {
            int ends = 0;
            for (int w = 0; w < wells; w++) {
                ends += Integer.bitCount(besideOf(w));
            }
            return ends / 2;
        }

        void addWell(int itsRound, int itsUp, int itsShift, int itsDeep, int itsWater) {
            if (wells < 0 || wells >= MAX_WELLS) {
                return;
            }
            round[wells] = itsRound;
            up[wells] = itsUp;
            shift[wells] = itsShift;
            deep[wells] = itsDeep;
            toldWater[wells] = itsWater;
            wells++;
        }

        void joinWells(int a, int b) {
            if (hasWell(a) && hasWell(b)) {
                beside[a] |= 1 << b;
                beside[b] |= 1 << a;
            }
        }

        void addHouse(int needs, int set) {
            if (houses < 0 || houses >= MAX_HOUSES) {
                return;
            }
            need[houses] = needs;
            from[houses] = set;
            houses++;
        }
    }

    /** The hills in one hour: all that deeds and hours change. */
    private static final class Land {
        Hills hills;
        int hour = 0;
        int sour = 0;
        private final int[] shift = new int[MAX_WELLS];
        private final int[] water = new int[MAX_WELLS];

        Land(Hills told) {
            hills = told;
        }

        void beginWith(Hills told) {
            hills = told;
            hour = told.firstHour;
            sour = 0;
            for (int w = 0; w < MAX_WELLS; w++) {
                shift[w] = told.toldShiftOf(w);
                water[w] = told.toldWaterOf(w);
            }
        }

        void become(Land other) {
            hills = other.hills;
            hour = other.hour;
            sour = other.sour;
            for (int w = 0; w < MAX_WELLS; w++) {
                shift[w] = other.shift[w];
                water[w] = other.water[w];
            }
        }

        int shiftOf(int w) {
            return w >= 0 && w < shift.length ? shift[w] : 0;
        }

        int waterOf(int w) {
            return w >= 0 && w < water.length ? water[w] : 0;
        }

        int phaseOf(int w) {
            if (w < 0 || w >= shift.length || w >= hills.round.length || hills.round[w] < 1) {
                return 0;
            }
            return (hour + shift[w]) % hills.round[w];
        }

        boolean isAwakeIn(int w, int hoursOn) {
            int round = hills.roundOf(w);
            return round >= 1 && (hour + hoursOn + shiftOf(w)) % round < hills.upOf(w);
        }

        boolean isAwake(int w) {
            return isAwakeIn(w, 0);
        }

        boolean isSour(int w) {
            return has(sour, w);
        }

        int awakeBits() {
            int set = 0;
            for (int w = 0; w < hills.wells; w++) {
                if (isAwakeIn(w, 0)) {
                    set |= 1 << w;
                }
            }
            return set;
        }

        int asleepBits() {
            int set = 0;
            for (int w = 0; w < hills.wells; w++) {
                if (!isAwakeIn(w, 0)) {
                    set |= 1 << w;
                }
            }
            return set;
        }

        int allWater() {
            int all = 0;
            for (int w = 0; w < hills.wells; w++) {
                all += waterOf(w);
            }
            return all;
        }

        void wakeUp(int w) {
            turnTo(w, 0);
        }

        void putToSleep(int w) {
            turnTo(w, hills.upOf(w));
        }

        private void turnTo(int w, int phase) {
            int round = hills.roundOf(w);
            if (round >= 1 && w >= 0 && w < shift.length) {
                shift[w] = Math.floorMod(phase - hour, round);
            }
        }

        void pourOut(int w, int n) {
            if (w >= 0 && w < water.length) {
                water[w] -= n;
            }
        }

        void passHour() {
            int asleep = asleepBits();
            for (int w = 0; w < hills.wells; w++) {
                if (has(asleep, w) && waterOf(w) < hills.deepOf(w)) {
                    pourOut(w, -1);
                }
            }
            for (int a = 0; a < hills.wells; a++) {
                int partners = has(asleep, a) ? hills.besideOf(a) & asleep : 0;
                for (int b = a + 1; b < hills.wells; b++) {
                    if (has(partners, b)) {
                        dreamLevel(a, b);
                    }
                }
            }
            hour++;
            sour &= ~asleepBits();
        }

        private void dreamLevel(int a, int b) {
            int above = waterOf(a) - waterOf(b);
            if (above >= 2) {
                pass(a, b);
            } else if (above <= -2) {
                pass(b, a);
            }
        }

        private void pass(int giver, int taker) {
            if (waterOf(taker) < hills.deepOf(taker)) {
                pourOut(giver, 1);
                pourOut(taker, -1);
            }
        }
    }

    /** The land as it is, with what it was ahead of the latest deeds; an image is such a page too. */
    private static final class Page {
        final Land now;
        boolean made = false;
        int remembered = 0;
        private int eldest = 0;
        private final Land[] past = new Land[MAX_UNDO];

        Page(Hills told) {
            now = new Land(told);
            for (int i = 0; i < past.length; i++) {
                past[i] = new Land(told);
            }
        }

        void beginWith(Hills told) {
            now.beginWith(told);
            remembered = 0;
        }

        void become(Page other) {
            now.become(other.now);
            remembered = other.remembered;
            eldest = other.eldest;
            for (int i = 0; i < MAX_UNDO; i++) {
                past[i].become(other.past[i]);
            }
        }

        void remember() {
            if (remembered >= MAX_UNDO) {
                eldest = slot(1);
                remembered = MAX_UNDO - 1;
            }
            past[slot(remembered)].become(now);
            remembered++;
        }

        void goBack(int n) {
            if (n >= 1 && n <= remembered) {
                remembered -= n;
                now.become(past[slot(remembered)]);
            }
        }

        private int slot(int i) {
            return Math.floorMod(eldest + i, MAX_UNDO);
        }
    }

    /** A row of numbers of one width. */
    private static final class Tray {
        boolean present = false;
        int many = 0;
        private int sort = 0;
        private final long[] row = new long[TRAY_PLACES];

        void layOut(int newSort, int newMany) {
            present = true;
            sort = newSort;
            many = newMany;
            for (int i = 0; i < row.length; i++) {
                row[i] = 0;
            }
        }

        long numberAt(int place) {
            return place >= 0 && place < many && place < row.length ? row[place] : 0;
        }

        void put(int place, long v) {
            if (place >= 0 && place < many && place < row.length) {
                row[place] = cut(v);
            }
        }

        private long cut(long v) {
            switch (sort) {
                case 0:
                    return (byte) v;
                case 1:
                    return (short) v;
                case 2:
                    return (int) v;
                default:
                    return v;
            }
        }
    }

    /** Reads the hills from the tape, up to the first fault. */
    private static final class Reader {
        private static final int NOTHING = 0;
        private static final int NUMBER = 1;
        private static final int WORD = 2;
        private static final int SIGN = 3;
        private static final int END = 4;
        private static final int MAX_NEST = 6;
        private static final int MAX_DIGITS = 3;
        private static final int NO_TOKEN = 1;
        private static final int CANNOT_STAND = 2;
        private static final int OUT_OF_BOUNDS = 3;
        private static final int TOO_MANY = 4;

        int taped = 0;
        int faultKind = 0;
        int faultPlace = NONE;
        Hills draft;
        private final byte[] tape = new byte[TAPE_BYTES];
        private int length = 0;
        private int start = 0;
        private int end = 0;
        private int kind = END;
        /* number is that of the token at hand, value that of the latest one that was taken. */
        private int number = 0;
        private int value = 0;
        private final int[] code = new int[TAPE_BYTES];
        private int coded = 0;

        Reader(Hills empty) {
            draft = empty;
        }

        void append(int v) {
            for (int shift = 24; shift >= 0; shift -= 8) {
                if (taped >= 0 && taped < tape.length) {
                    tape[taped] = (byte) (v >>> shift);
                    taped++;
                }
            }
        }

        boolean readText(int n) {
            taped = 0;
            length = n;
            end = 0;
            faultKind = 0;
            faultPlace = NONE;
            draft = new Hills();
            if (!advance()) {
                return false;
            }
            for (int i = 0; i < TAPE_BYTES && kind != END; i++) {
                if (!readLine() || !expectSign(';')) {
                    return false;
                }
                draft.lines++;
            }
            return true;
        }

        private boolean readLine() {
            if (isWord("well")) {
                return readWell();
            }
            if (isWord("beside")) {
                return readBeside();
            }
            if (isWord("house")) {
                return readHouse();
            }
            if (isWord("wakes")) {
                return readLaw();
            }
            if (isWord("hour")) {
                return readHour();
            }
            return refuse(CANNOT_STAND);
        }

        private boolean readWell() {
            if (draft.wells >= MAX_WELLS) {
                return refuse(TOO_MANY);
            }
            if (!advance() || !expectWord("every") || !expectNumber(2, 12)) {
                return false;
            }
            int round = value;
            if (!expectWord("awake") || !expectNumber(1, round)) {
                return false;
            }
            int up = value;
            if (!readChoice("shift", 0, round - 1, 0)) {
                return false;
            }
            int shift = value;
            if (!readChoice("deep", 1, 99, 10)) {
                return false;
            }
            int deep = value;
            if (!readChoice("water", 0, deep, deep)) {
                return false;
            }
            draft.addWell(round, up, shift, deep, value);
            return true;
        }

        private boolean readChoice(String word, int least, int most, int otherwise) {
            if (isWord(word)) {
                return advance() && expectNumber(least, most);
            }
            value = otherwise;
            return true;
        }

        private boolean readBeside() {
            if (!advance() || !expectToldWell(NONE)) {
                return false;
            }
            int a = value;
            if (!expectToldWell(a)) {
                return false;
            }
            draft.joinWells(a, value);
            return true;
        }

        private boolean readHouse() {
            if (draft.houses >= MAX_HOUSES) {
                return refuse(TOO_MANY);
            }
            if (!advance() || !expectNumber(1, 99)) {
                return false;
            }
            int needs = value;
            if (!expectWord("from") || !expectToldWell(NONE)) {
                return false;
            }
            int set = 1 << value;
            for (int i = 0; i < TAPE_BYTES && kind == NUMBER; i++) {
                if (!expectToldWell(NONE)) {
                    return false;
                }
                set |= 1 << value;
            }
            draft.addHouse(needs, set);
            return true;
        }

        private boolean readHour() {
            if (!advance() || !expectNumber(0, 999)) {
                return false;
            }
            draft.firstHour = value;
            return true;
        }

        private boolean readLaw() {
            coded = 0;
            if (!advance() || !readTruth(0)) {
                return false;
            }
            int[] law = new int[Math.max(coded, 0)];
            for (int i = 0; i < law.length && i < code.length; i++) {
                law[i] = code[i];
            }
            draft.law = law;
            return true;
        }

        private boolean readTruth(int depth) {
            if (!readBoth(depth)) {
                return false;
            }
            for (int i = 0; i < TAPE_BYTES && isWord("or"); i++) {
                if (!advance() || !readBoth(depth)) {
                    return false;
                }
                emit(ONE_HOLDS);
            }
            return true;
        }

        private boolean readBoth(int depth) {
            if (!readUnit(depth)) {
                return false;
            }
            for (int i = 0; i < TAPE_BYTES && isWord("and"); i++) {
                if (!advance() || !readUnit(depth)) {
                    return false;
                }
                emit(BOTH_HOLD);
            }
            return true;
        }

        private boolean readUnit(int depth) {
            if (isWord("not")) {
                if (!mayNest(depth) || !advance() || !readUnit(depth + 1)) {
                    return false;
                }
                emit(DENY);
                return true;
            }
            if (isSign('[')) {
                return mayNest(depth) && advance() && readTruth(depth + 1) && expectSign(']');
            }
            if (!readSum(depth)) {
                return false;
            }
            int comparison = comparisonHere();
            if (comparison == 0) {
                return refuse(CANNOT_STAND);
            }
            if (!advance() || !readSum(depth)) {
                return false;
            }
            emit(comparison);
            return true;
        }

        private boolean readSum(int depth) {
            if (!readTerm(depth)) {
                return false;
            }
            for (int i = 0; i < TAPE_BYTES && (isSign('+') || isSign('-')); i++) {
                int sign = isSign('+') ? ADD : SUBTRACT;
                if (!advance() || !readTerm(depth)) {
                    return false;
                }
                emit(sign);
            }
            return true;
        }

        private boolean readTerm(int depth) {
            if (!readAtom(depth)) {
                return false;
            }
            for (int i = 0; i < TAPE_BYTES && isSign('*'); i++) {
                if (!advance() || !readAtom(depth)) {
                    return false;
                }
                emit(MULTIPLY);
            }
            return true;
        }

        private boolean readAtom(int depth) {
            if (isSign('(')) {
                return mayNest(depth) && advance() && readSum(depth + 1) && expectSign(')');
            }
            int atom = kind == NUMBER ? number : nameHere();
            if (atom < 0) {
                return refuse(CANNOT_STAND);
            }
            emit(atom);
            return advance();
        }

        private boolean mayNest(int depth) {
            return depth < MAX_NEST || refuse(TOO_MANY);
        }

        private int comparisonHere() {
            if (isSign('=')) {
                return EQUAL;
            }
            if (isSign('<')) {
                return BELOW;
            }
            return isSign('>') ? ABOVE : 0;
        }

        private int nameHere() {
            if (isWord("da")) {
                return NAMES + DEEP_A;
            }
            if (isWord("db")) {
                return NAMES + DEEP_B;
            }
            if (isWord("wa")) {
                return NAMES + WATER_A;
            }
            if (isWord("wb")) {
                return NAMES + WATER_B;
            }
            if (isWord("n")) {
                return NAMES + NOISE_N;
            }
            if (isWord("hour")) {
                return NAMES + HOUR_OF_DAY;
            }
            if (isWord("phase")) {
                return NAMES + PHASE_B;
            }
            return isWord("many") ? NAMES + MANY_A : NONE;
        }

        private void emit(int sign) {
            if (coded >= 0 && coded < code.length) {
                code[coded] = sign;
                coded++;
            }
        }

        private boolean expectWord(String word) {
            return isWord(word) ? advance() : refuse(CANNOT_STAND);
        }

        private boolean expectSign(char sign) {
            return isSign(sign) ? advance() : refuse(CANNOT_STAND);
        }

        private boolean expectNumber(int least, int most) {
            if (kind != NUMBER) {
                return refuse(CANNOT_STAND);
            }
            if (number < least || number > most) {
                return refuse(OUT_OF_BOUNDS);
            }
            value = number;
            return advance();
        }

        private boolean expectToldWell(int unlike) {
            if (kind != NUMBER) {
                return refuse(CANNOT_STAND);
            }
            if (!draft.hasWell(number) || number == unlike) {
                return refuse(OUT_OF_BOUNDS);
            }
            value = number;
            return advance();
        }

        private boolean isWord(String word) {
            if (kind != WORD || end - start != word.length()) {
                return false;
            }
            for (int i = 0; i < word.length(); i++) {
                if (byteAt(start + i) != word.charAt(i)) {
                    return false;
                }
            }
            return true;
        }

        private boolean isSign(char sign) {
            return kind == SIGN && byteAt(start) == sign;
        }

        private boolean refuse(int fault) {
            faultKind = fault;
            faultPlace = start;
            return false;
        }

        private boolean advance() {
            start = end;
            for (int i = 0; i < TAPE_BYTES && isBlank(byteAt(start)); i++) {
                start++;
            }
            end = start;
            kind = kindOf(byteAt(start));
            number = 0;
            int longest = kind == WORD ? TAPE_BYTES : kind == NUMBER ? MAX_DIGITS + 1 : 1;
            for (int i = 0; i < longest && kind != END && kindOf(byteAt(end)) == kind; i++) {
                number = kind == NUMBER ? number * 10 + byteAt(end) - '0' : 0;
                end++;
            }
            boolean tooLong = kind == NUMBER && end - start > MAX_DIGITS;
            return kind == NOTHING || tooLong ? refuse(NO_TOKEN) : true;
        }

        private int byteAt(int place) {
            return place >= 0 && place < length && place < tape.length ? tape[place] & 255 : NONE;
        }

        private static boolean isBlank(int c) {
            return c == 10 || c == 32;
        }

        private static int kindOf(int c) {
            if (c >= 'a' && c <= 'z') {
                return WORD;
            }
            if (c >= '0' && c <= '9') {
                return NUMBER;
            }
            switch (c) {
                case NONE:
                    return END;
                case ';':
                case '+':
                case '-':
                case '*':
                case '(':
                case ')':
                case '[':
                case ']':
                case '=':
                case '<':
                case '>':
                    return SIGN;
                default:
                    return NOTHING;
            }
        }
    }

    /**
     * Who is woken by whom, on the land that lookAt() was told of, as it was then. What goes by yawns
     * wants over(): it works out once whom each sleeper's yawn would wake.
     */
    private static final class Noise {
        private static final int STACK = 64;

        private Land land;
        private int asleep = 0;
        private final int[] yawned = new int[MAX_WELLS];
        private final int[] reach = new int[MAX_WELLS];
        private final int[] names = new int[NAME_COUNT];
        private final int[] stack = new int[STACK];

        Noise(Land first) {
            land = first;
        }

        void lookAt(Land told) {
            land = told;
            asleep = told.asleepBits();
        }

        void over(Land told) {
            land = told;
            asleep = told.asleepBits();
            for (int w = 0; w < yawned.length; w++) {
                yawned[w] = has(asleep, w) ? wokenAtOnce(w, 0) : 0;
            }
        }

        int wokenAtOnce(int a, int n) {
            int sleepers = land.hills.besideOf(a) & asleep;
            int set = 0;
            for (int b = 0; b < MAX_WELLS; b++) {
                if (has(sleepers, b) && lawHolds(a, b, n)) {
                    set |= 1 << b;
                }
            }
            return set;
        }

        int wokenBy(int a, int n) {
            return spread(wokenAtOnce(a, n), asleep & ~(1 << a));
        }

        int yawnsTill(int a, int n, int b) {
            int open = asleep & ~(1 << a);
            int fresh = wokenAtOnce(a, n);
            int woken = fresh;
            for (int i = 1; i <= MAX_WELLS && fresh != 0; i++) {
                if (has(fresh, b)) {
                    return i;
                }
                fresh = wokenByYawns(fresh) & open & ~woken;
                woken |= fresh;
            }
            return 0;
        }

        int awakeOnesThatWake(int w, int n) {
            int set = 0;
            if (!has(asleep, w)) {
                return set;
            }
            int awake = land.hills.allWells() & ~asleep;
            for (int a = 0; a < MAX_WELLS; a++) {
                if (has(awake, a) && has(wokenBy(a, n), w)) {
                    set |= 1 << a;
                }
            }
            return set;
        }

        /** The least set of others that keeps b asleep; below 0 if there is none. */
        int leastShield(int a, int n, int b) {
            int first = wokenAtOnce(a, n);
            int open = asleep & ~(1 << a);
            int woken = spread(first, open);
            if (!has(woken, b)) {
                return 0;
            }
            int others = woken & ~(1 << b);
            int best = NONE;
            for (int set = 1; set < WELL_SETS && !has(first, b); set++) {
                if ((set & ~others) == 0 && isFewer(set, best) && !has(spread(first, open & ~set), b)) {
                    best = set;
                }
            }
            return best;
        }

        /** The least set of awake ones that wake all sleepers; below 0 if there is none. */
        int leastChorus(int n) {
            int awake = land.hills.allWells() & ~asleep;
            for (int a = 0; a < reach.length; a++) {
                reach[a] = has(awake, a) ? wokenBy(a, n) : 0;
            }
            int best = NONE;
            for (int set = 0; set < WELL_SETS; set++) {
                if ((set & ~awake) == 0 && isFewer(set, best) && (asleep & ~reachOf(set)) == 0) {
                    best = set;
                }
            }
            return best;
        }

        /** Sets are tried from the least on, so that a later one is better only if it has fewer. */
        private static boolean isFewer(int set, int best) {
            return best < 0 || Integer.bitCount(set) < Integer.bitCount(best);
        }

        private int reachOf(int set) {
            int all = 0;
            for (int a = 0; a < reach.length; a++) {
                if (has(set, a)) {
                    all |= reach[a];
                }
            }
            return all;
        }

        private int spread(int first, int open) {
            int fresh = first & open;
            int woken = fresh;
            for (int i = 0; i < MAX_WELLS && fresh != 0; i++) {
                fresh = wokenByYawns(fresh) & open & ~woken;
                woken |= fresh;
            }
            return woken;
        }

        private int wokenByYawns(int set) {
            int all = 0;
            for (int w = 0; w < yawned.length; w++) {
                if (has(set, w)) {
                    all |= yawned[w];
                }
            }
            return all;
        }

        private boolean lawHolds(int a, int b, int n) {
            names[DEEP_A] = land.hills.deepOf(a);
            names[DEEP_B] = land.hills.deepOf(b);
            names[WATER_A] = land.waterOf(a);
            names[WATER_B] = land.waterOf(b);
            names[NOISE_N] = n;
            names[HOUR_OF_DAY] = land.hour % 24;
            names[PHASE_B] = land.phaseOf(b);
            names[MANY_A] = Integer.bitCount(land.hills.besideOf(a));
            int[] law = land.hills.law;
            int top = 0;
            for (int i = 0; i < law.length; i++) {
                int step = law[i];
                if (step < ADD && top < stack.length) {
                    stack[top] = step < NAMES ? step : valueOf(step - NAMES);
                    top++;
                } else if (step == DENY && top >= 1) {
                    stack[top - 1] = 1 - stack[top - 1];
                } else if (top >= 2) {
                    stack[top - 2] = joinTwo(step, stack[top - 2], stack[top - 1]);
                    top--;
                }
            }
            return top >= 1 && stack[0] != 0;
        }

        private int valueOf(int name) {
            return name >= 0 && name < names.length ? names[name] : 0;
        }

        /** All but the reckonings answer 0 or 1, so that keeping within bounds leaves them alone. */
        private static int joinTwo(int step, long x, long y) {
            long v;
            switch (step) {
                case ADD:
                    v = x + y;
                    break;
                case SUBTRACT:
                    v = x - y;
                    break;
                case MULTIPLY:
                    v = x * y;
                    break;
                case EQUAL:
                    v = x == y ? 1 : 0;
                    break;
                case BELOW:
                    v = x < y ? 1 : 0;
                    break;
                case ABOVE:
                    v = x > y ? 1 : 0;
                    break;
                case BOTH_HOLD:
                    v = x & y;
                    break;
                default:
                    v = x | y;
                    break;
            }
            return (int) (v > MOST ? MOST : v < -MOST ? -MOST : v);
        }
    }

    /** What can be done on a land, why not, and how it is done. */
    private static final class Deeds {
        private final Noise noise;

        Deeds(Noise shared) {
            noise = shared;
        }

        static int whyNotDraw(Land land, int w, int n) {
            if (!land.hills.hasWell(w) || n < 1 || n > 99) {
                return NO_SUCH;
            }
            if (!land.isAwake(w)) {
                return NOT_SO_AWAKE;
            }
            if (land.isSour(w)) {
                return NOT_FIT;
            }
            return land.waterOf(w) < n ? TOO_LITTLE : 0;
        }

        static int whyNotLull(Land land, int w) {
            if (!land.hills.hasWell(w)) {
                return NO_SUCH;
            }
            if (!land.isAwake(w)) {
                return NOT_SO_AWAKE;
            }
            return land.hills.everSleeps(w) ? 0 : NOT_FIT;
        }

        static int whyNotCoin(Land land, int w) {
            if (!land.hills.hasWell(w)) {
                return NO_SUCH;
            }
            return land.isAwake(w) ? NOT_SO_AWAKE : 0;
        }

        static int whyNotTold(Land land, long deed) {
            if (deed == NONE || deed == TOLD_THUNDER) {
                return 0;
            }
            if (deed < 0 || deed >= TOLD_COIN + 100) {
                return NO_SUCH;
            }
            int told = (int) deed;
            if (told < 1000) {
                return whyNotDraw(land, told / 100, told % 100);
            }
            if (told < TOLD_LULL) {
                return NO_SUCH;
            }
            return told < TOLD_COIN ? whyNotLull(land, told - TOLD_LULL) : whyNotCoin(land, told - TOLD_COIN);
        }

        /** Does a told deed of which whyNotTold() said that it can be. */
        void carryOut(Land land, long deed) {
            int told = (int) deed;
            if (told == NONE) {
                land.passHour();
            } else if (told == TOLD_THUNDER) {
                thunderOver(land);
            } else if (told < 1000) {
                drawFrom(land, told / 100, told % 100);
            } else if (told < TOLD_COIN) {
                land.putToSleep(told - TOLD_LULL);
            } else {
                coinInto(land, told - TOLD_COIN);
            }
        }

        int drawFrom(Land land, int w, int n) {
            noise.over(land);
            int woken = noise.wokenBy(w, n);
            rouse(land, woken);
            land.pourOut(w, n);
            return Integer.bitCount(woken);
        }

        int coinInto(Land land, int w) {
            noise.over(land);
            int woken = noise.wokenBy(w, 0);
            land.wakeUp(w);
            rouse(land, woken);
            return Integer.bitCount(woken);
        }

        int thunderOver(Land land) {
            int woken = land.asleepBits();
            rouse(land, woken);
            return Integer.bitCount(woken);
        }

        private static void rouse(Land land, int set) {
            for (int w = 0; w < MAX_WELLS; w++) {
                if (has(set, w)) {
                    land.wakeUp(w);
                }
            }
            if (Integer.bitCount(set) >= 2) {
                land.sour |= set;
            }
        }
    }

    /** The numbers of a year, and the deeds told by them. */
    private static final class Lots {
        private static final int NO_DEED = -2;

        private int x;

        Lots(int seed) {
            x = seed;
        }

        private int next() {
            x = 1103515245 * x + 12345;
            return x >>> 16;
        }

        int nextDeed(int wells) {
            int kind = next() % 6;
            if (kind < 2) {
                return NONE;
            }
            if (wells < 1) {
                return NO_DEED;
            }
            int w = next() % wells;
            if (kind < 4) {
                return w * 100 + 1 + next() % 5;
            }
            return (kind == 4 ? TOLD_LULL : TOLD_COIN) + w;
        }
    }

    /**
     * How many of a set of wells are awake in each hour from now on. Rounds of 7 and of 11 have rows of
     * their own, all others meet again within 360 hours: so no row of 27720 hours is needed.
     */
    private static final class Rounds {
        private final int[] common = new int[360];
        private final int[] sevens = new int[7];
        private final int[] elevens = new int[11];
        private int commonPeriod = 1;
        private int sevensPeriod = 1;
        private int elevensPeriod = 1;

        void over(Land land, int set) {
            commonPeriod = 1;
            sevensPeriod = 1;
            elevensPeriod = 1;
            for (int w = 0; w < land.hills.wells; w++) {
                if (has(set, w)) {
                    widen(land.hills.roundOf(w));
                }
            }
            clear(common);
            clear(sevens);
            clear(elevens);
            for (int w = 0; w < land.hills.wells; w++) {
                if (has(set, w)) {
                    addWell(land, w);
                }
            }
        }

        int joined() {
            return commonPeriod * sevensPeriod * elevensPeriod;
        }

        int firstWith(int many) {
            int all = joined();
            for (int t = 0; t < all; t++) {
                if (awakeIn(t) == many) {
                    return t;
                }
            }
            return NONE;
        }

        int hoursWith(int many) {
            int all = joined();
            int found = 0;
            for (int t = 0; t < all; t++) {
                if (awakeIn(t) == many) {
                    found++;
                }
            }
            return found;
        }

        int fewest() {
            int all = joined();
            int least = MAX_WELLS;
            for (int t = 0; t < all; t++) {
                least = Math.min(least, awakeIn(t));
            }
            return least;
        }

        private void widen(int round) {
            if (round == sevens.length) {
                sevensPeriod = round;
            } else if (round == elevens.length) {
                elevensPeriod = round;
            } else {
                commonPeriod = leastCommon(commonPeriod, round);
            }
        }

        private void addWell(Land land, int w) {
            int round = land.hills.roundOf(w);
            if (round == sevens.length) {
                addTo(sevens, sevensPeriod, land, w);
            } else if (round == elevens.length) {
                addTo(elevens, elevensPeriod, land, w);
            } else {
                addTo(common, commonPeriod, land, w);
            }
        }

        private static void addTo(int[] row, int period, Land land, int w) {
            for (int t = 0; t < period && t < row.length; t++) {
                if (land.isAwakeIn(w, t)) {
                    row[t]++;
                }
            }
        }

        private int awakeIn(int t) {
            return turn(common, commonPeriod, t) + turn(sevens, sevensPeriod, t) + turn(elevens, elevensPeriod, t);
        }

        private static int turn(int[] row, int period, int t) {
            return t < 0 || period < 1 || period > row.length ? 0 : row[t % period];
        }

        private static void clear(int[] row) {
            for (int i = 0; i < row.length; i++) {
                row[i] = 0;
            }
        }

        private static int leastCommon(int a, int b) {
            int sum = a;
            for (int i = 1; i < b && b > 0 && sum % b != 0; i++) {
                sum += a;
            }
            return sum;
        }
    }

    /** Quiet hours of all houses, and how they go together. */
    private static final class Plans {
        private final Noise noise;
        private final Land ahead;
        private final long[] quiet = new long[MAX_HOUSES];
        private final long[] shared = new long[1 << MAX_HOUSES];

        Plans(Noise sharedNoise, Land scratch) {
            noise = sharedNoise;
            ahead = scratch;
        }

        void lookAhead(Land now) {
            for (int h = 0; h < quiet.length; h++) {
                quiet[h] = 0;
            }
            ahead.become(now);
            for (int t = 0; t <= SOON; t++) {
                noise.lookAt(ahead);
                for (int h = 0; h < quiet.length && h < now.hills.houses; h++) {
                    if (quietWellNow(h) != NONE) {
                        quiet[h] |= 1L << t;
                    }
                }
                ahead.passHour();
            }
        }

        /** From which well a house can draw quietly on the land that lies ahead, in the hour it is at. */
        int quietWellNow(int h) {
            int from = ahead.hills.fromOf(h);
            int need = ahead.hills.needOf(h);
            for (int w = 0; w < MAX_WELLS; w++) {
                if (has(from, w) && Deeds.whyNotDraw(ahead, w, need) == 0 && noise.wokenAtOnce(w, need) == 0) {
                    return w;
                }
            }
            return NONE;
        }

        long hoursOf(int h) {
            return h >= 0 && h < quiet.length ? quiet[h] : 0;
        }

        int mostServed(int last) {
            return ahead.hills.houses - lacking(hoursTill(last), 0);
        }

        int soonestEnd() {
            for (int last = 0; last <= SOON; last++) {
                if (lacking(hoursTill(last), 0) == 0) {
                    return last;
                }
            }
            return NONE;
        }

        int hourInPlan(int h, int last) {
            long free = hoursTill(last);
            int hour = NONE;
            for (int g = 0; g <= h && g < MAX_HOUSES; g++) {
                hour = firstHourFor(g, free);
                if (hour < 0) {
                    return NONE;
                }
                free &= ~(1L << hour);
            }
            return hour;
        }

        private int firstHourFor(int h, long free) {
            for (int t = 0; t <= SOON; t++) {
                boolean open = (hoursOf(h) & free & 1L << t) != 0;
                if (open && lacking(free & ~(1L << t), h + 1) == 0) {
                    return t;
                }
            }
            return NONE;
        }

        /**
         * How many of the houses from one on must stay without an hour of their own: by Hall's theorem the
         * most by which a set of houses is greater than the set of all their hours.
         */
        private int lacking(long hours, int firstHouse) {
            int earlier = (1 << firstHouse) - 1;
            int most = 0;
            shared[0] = 0;
            for (int set = 1; set < shared.length && set < 1 << ahead.hills.houses; set++) {
                if ((set & earlier) == 0) {
                    shared[set] = shared[set & (set - 1)] | hoursOf(Integer.numberOfTrailingZeros(set));
                    most = Math.max(most, Integer.bitCount(set) - Long.bitCount(shared[set] & hours));
                }
            }
            return most;
        }

        private static long hoursTill(int last) {
            return (1L << last + 1) - 1;
        }
    }

    /** Which rounds would have snored as a tray tells. */
    private static final class Snores {
        private static final int MAX_HEARD = 24;
        private static final int LISTEN_HOURS = 24;
        private static final int ALL_ROUNDS = 649;

        private int heardFor = 0;
        private int heard = 0;
        private int heardAwake = 0;
        private int found = 0;
        private final int[] fitting = new int[ALL_ROUNDS];

        static boolean canBeHeard(Tray tray) {
            if (tray.many < 1 || tray.many > MAX_HEARD) {
                return false;
            }
            for (int i = 0; i < tray.many; i++) {
                if (tray.numberAt(i) < NONE || tray.numberAt(i) > 1) {
                    return false;
                }
            }
            return true;
        }

        void hear(Tray tray) {
            heardFor = tray.many;
            heard = 0;
            heardAwake = 0;
            for (int i = 0; i < MAX_HEARD && i < tray.many; i++) {
                if (tray.numberAt(i) != NONE) {
                    heard |= 1 << i;
                }
                if (tray.numberAt(i) == 1) {
                    heardAwake |= 1 << i;
                }
            }
        }

        boolean fits(int round, int up, int shift) {
            for (int i = 0; i < heardFor; i++) {
                if (has(heard, i) && isAwakeAt(round, up, shift, i) != has(heardAwake, i)) {
                    return false;
                }
            }
            return true;
        }

        int howManyFit() {
            findFitting();
            return found;
        }

        int fitAt(int k) {
            findFitting();
            return k >= 0 && k < found && k < fitting.length ? fitting[k] : NONE;
        }

        int tellsMost() {
            findFitting();
            int best = NONE;
            int most = NONE;
            for (int i = 0; i < LISTEN_HOURS && found > 0; i++) {
                int awake = awakeAmongFitting(heardFor + i);
                int lesser = Math.min(awake, found - awake);
                if (lesser > most) {
                    most = lesser;
                    best = i + 1;
                }
            }
            return best;
        }

        private int awakeAmongFitting(int hour) {
            int awake = 0;
            for (int i = 0; i < found && i < fitting.length; i++) {
                int told = fitting[i];
                if (isAwakeAt(told / 10000, told / 100 % 100, told % 100, hour)) {
                    awake++;
                }
            }
            return awake;
        }

        private void findFitting() {
            found = 0;
            for (int round = 2; round <= 12; round++) {
                for (int up = 1; up <= round; up++) {
                    for (int shift = 0; shift < round; shift++) {
                        if (fits(round, up, shift) && found >= 0 && found < fitting.length) {
                            fitting[found] = 10000 * round + 100 * up + shift;
                            found++;
                        }
                    }
                }
            }
        }

        private static boolean isAwakeAt(int round, int up, int shift, int hour) {
            return round > 0 && (hour + shift) % round < up;
        }
    }
}
