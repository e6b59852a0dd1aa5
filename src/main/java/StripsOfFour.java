/**
 * Photo booths that flash on their own beat and take whoever is in, in strips of four looks.
 * The words in capitals are those of the document; sets of PEOPLE are bits of an int.
 */
public final class StripsOfFour {
    public static final int UNKNOWN = -1, BAD = -2, LATE = -3, FULL = -4, NONE = -9;

    private static final int MOST_BYTES = 24;
    private static final int MOST_BOOTHS = 2;
    private static final int MOST_PEOPLE = 5;
    private static final int MOST_IN = 4;
    private static final int MOST_STRIPS = 8;
    private static final int MOST_IN_ORDER = 6;
    private static final int MOST_ACTS = 12;
    private static final int MOST_FADED = 9;
    private static final int LAST_MINUTE = 999;
    private static final int SLOTS = 2;
    private static final int LOOKS = 4;
    private static final int LARGEST_SET = 31;
    private static final int MOST_TOLD_LOOKS = 8;
    private static final int TENTHS = 10;

    private static final int LOOK_MINUTE = 0, LOOK_IN = 1, LOOK_HAT = 2, LOOK_BLINKS = 3;
    private static final int LOOK_CELLS = 4;

    private static final int[] HUNDREDS = {1, 100, 10000, 1000000, 100000000};

    private final int[] text = new int[MOST_BYTES];
    private int bytes = 0;
    private Plan plan = new Plan();
    private Plan draft = new Plan();
    private final Scene now = new Scene();
    private final Past past = new Past();
    private final Scene[] kept = new Scene[SLOTS];
    private final boolean[] isKept = new boolean[SLOTS];
    private final Parts parts = new Parts();
    private final Rows rows = new Rows();

    public StripsOfFour() {
        for (int i = 0; i < SLOTS; i++) {
            kept[i] = new Scene();
        }
    }

    // ---- the fair

    public int write(int letter) {
        if (letter < 0 || letter > 255) {
            return BAD;
        }
        if (bytes < 0 || bytes >= MOST_BYTES) {
            return FULL;
        }
        text[bytes] = letter;
        bytes++;
        return bytes;
    }

    public int wipe() {
        int was = bytes;
        bytes = 0;
        return was;
    }

    public int fault() {
        return draft.readFrom(text, bytes);
    }

    public int fair() {
        if (draft.readFrom(text, bytes) != NONE) {
            return LATE;
        }
        Plan old = plan;
        plan = draft;
        draft = old;
        now.startAnew();
        past.forgetAll();
        for (int i = 0; i < SLOTS; i++) {
            isKept[i] = false;
        }
        return 10 * plan.booths + plan.people;
    }

    public int about(int what) {
        switch (what) {
            case 0: return plan.booths;
            case 1: return plan.people;
            case 2: return plan.walk;
            case 3: return now.minute;
            case 4: return now.day;
            case 5: return now.strips;
            case 6: return now.hat;
            case 7: return past.acts;
            case 8: return now.tornOnes();
            case 9: return bytes;
            default: return BAD;
        }
    }

    public int booth(int booth, int what) {
        if (!plan.hasBooth(booth)) {
            return UNKNOWN;
        }
        switch (what) {
            case 0: return plan.firstOf(booth);
            case 1: return plan.everyOf(booth);
            case 2: return now.whoIsIn(booth);
            case 3: return now.begunLooks(booth);
            case 4: return plan.nextFlash(booth, now.minute);
            default: return BAD;
        }
    }

    public int person(int person, int what) {
        if (!plan.hasPerson(person)) {
            return UNKNOWN;
        }
        switch (what) {
            case 0: return plan.tenthsOf(person);
            case 1: return now.placeOf(person);
            case 2: return now.leftOf(person);
            case 3: return now.leftAt(person);
            default: return BAD;
        }
    }

    public int strip(int strip, int what) {
        if (!now.hasStrip(strip)) {
            return UNKNOWN;
        }
        Strip asked = now.chute[strip];
        switch (what) {
            case 0: return asked.booth;
            case 1: return asked.torn;
            case 2: return asked.faded;
            case 3: return asked.allOnIt();
            default: return BAD;
        }
    }

    public int look(int strip, int look, int what) {
        if (!now.hasStrip(strip)) {
            return UNKNOWN;
        }
        if (look < 0 || look >= LOOKS || what < 0 || what >= LOOK_CELLS) {
            return BAD;
        }
        return now.chute[strip].cell(look, what);
    }

    public long seed(long v) {
        long was = now.seed;
        now.seed = v;
        return was;
    }

    // ---- acts

    public int enter(int person, int booth) {
        if (!plan.hasPerson(person) || !plan.hasBooth(booth)) {
            return UNKNOWN;
        }
        if (now.placeOf(person) != NONE || now.comesTooSoon(person, booth, plan.walk)) {
            return LATE;
        }
        if (Integer.bitCount(now.whoIsIn(booth)) >= MOST_IN) {
            return FULL;
        }
        past.remember(now);
        now.stepIn(person, booth);
        return Integer.bitCount(now.whoIsIn(booth));
    }

    public int leave(int person) {
        if (!plan.hasPerson(person)) {
            return UNKNOWN;
        }
        int booth = now.placeOf(person);
        if (booth == NONE) {
            return LATE;
        }
        past.remember(now);
        now.stepOut(person);
        return Integer.bitCount(now.whoIsIn(booth));
    }

    public int hat(int person) {
        if (!plan.hasPerson(person)) {
            return UNKNOWN;
        }
        int booth = now.placeOf(person);
        int had = now.hat;
        if (booth == NONE || had == person || (had != NONE && now.placeOf(had) != booth)) {
            return LATE;
        }
        past.remember(now);
        now.hat = person;
        return had;
    }

    public int minute() {
        past.remember(now);
        int fallen = 0;
        for (int booth = 0; booth < plan.booths; booth++) {
            fallen += now.flash(plan, booth);
        }
        now.minute++;
        return fallen;
    }

    public int stuck() {
        if (now.strips < 2) {
            return LATE;
        }
        past.remember(now);
        return now.swapLastTwo();
    }

    public int tear(int strip, int k) {
        if (!now.hasStrip(strip)) {
            return UNKNOWN;
        }
        if (k < 1 || k >= LOOKS) {
            return BAD;
        }
        if (now.chute[strip].torn != 0) {
            return LATE;
        }
        past.remember(now);
        now.chute[strip].torn = k;
        return Integer.bitCount(now.tornOnes());
    }

    public int day() {
        past.remember(now);
        now.fadeByOne();
        now.day++;
        return now.day;
    }

    public int undo() {
        return past.takeBack(now) ? past.acts : LATE;
    }

    // ---- strips

    public int found(int strip, int n, int row) {
        if (!now.hasStrip(strip)) {
            return UNKNOWN;
        }
        if (!isRow(row, n)) {
            return BAD;
        }
        Strip asked = now.chute[strip];
        for (int first = 0; first + n <= LOOKS; first++) {
            if (asked.isWhole(first, n) && showsRow(asked, first, n, row)) {
                return first;
            }
        }
        return NONE;
    }

    public int together(int what) {
        if (what != 0 && what != 1) {
            return BAD;
        }
        parts.gather(now);
        return what == 0 ? parts.putTogetherAtMost() : parts.waysForAll();
    }

    public int orders() {
        if (now.strips > MOST_IN_ORDER) {
            return LATE;
        }
        rows.gather(now);
        return rows.howMany();
    }

    public int orderAt(int strip) {
        if (!now.hasStrip(strip)) {
            return UNKNOWN;
        }
        if (now.strips > MOST_IN_ORDER) {
            return LATE;
        }
        rows.gather(now);
        return rows.placesOf(strip);
    }

    public int forgery(int booth, int m, int row) {
        if (!plan.hasBooth(booth)) {
            return UNKNOWN;
        }
        if (!isAskedMinute(m) || !isRow(row, LOOKS)) {
            return BAD;
        }
        for (int i = 0; i < LOOKS; i++) {
            if (!canBe(booth, m + i * plan.everyOf(booth), setOf(row, LOOKS, i))) {
                return i;
            }
        }
        return NONE;
    }

    public int toSit(int booth, int row) {
        if (!plan.hasBooth(booth)) {
            return UNKNOWN;
        }
        if (!isRow(row, LOOKS) || !canSit(row)) {
            return BAD;
        }
        int in = now.whoIsIn(booth);
        int steps = 0;
        for (int i = 0; i < LOOKS; i++) {
            int next = setOf(row, LOOKS, i);
            steps += Integer.bitCount(in ^ next);
            in = next;
        }
        return steps;
    }

    public int between(int person, int m) {
        if (!plan.hasPerson(person)) {
            return UNKNOWN;
        }
        if (!isAskedMinute(m)) {
            return BAD;
        }
        int places = 0;
        for (int booth = 0; booth < plan.booths; booth++) {
            if (canHaveBeenIn(person, booth, m)) {
                places |= 1 << booth;
            }
        }
        int seen = now.seenNear(0, m, 0) | now.seenNear(1, m, 0);
        return has(seen, person) ? places : places | 1 << MOST_BOOTHS;
    }

    public int most(int booth, int m) {
        if (!plan.hasBooth(booth)) {
            return UNKNOWN;
        }
        if (!isAskedMinute(m)) {
            return BAD;
        }
        return (now.begunLooks(booth) + plan.flashesBetween(booth, now.minute, m)) / LOOKS;
    }

    // ---- eyes

    public int eyes(int person, int what) {
        if (!plan.hasPerson(person)) {
            return UNKNOWN;
        }
        switch (what) {
            case 0: return now.looksWith(person, LOOK_IN);
            case 1: return now.looksWith(person, LOOK_BLINKS);
            default: return BAD;
        }
    }

    public long whose(int person, int n, int k, boolean upper) {
        if (!plan.hasPerson(person)) {
            return UNKNOWN;
        }
        if (n < 1 || n > MOST_TOLD_LOOKS || k < 0 || k > n) {
            return BAD;
        }
        long all = 0;
        for (int i = 0; i < plan.people; i++) {
            all += plan.blinkWeight(i, n, k);
        }
        if (all == 0) {
            return LATE;
        }
        return inLeastTerms(plan.blinkWeight(person, n, k), all, upper);
    }

    public int open(int booth, int k, boolean upper) {
        if (!plan.hasBooth(booth)) {
            return UNKNOWN;
        }
        if (k < 0 || k > MOST_PEOPLE) {
            return BAD;
        }
        int in = now.whoIsIn(booth);
        long hits = 0;
        long all = 0;
        for (int set = 0; set <= LARGEST_SET; set++) {
            if ((set & ~in) == 0) {
                long weight = plan.openWeight(in, set);
                all += weight;
                hits += Integer.bitCount(set) >= k ? weight : 0;
            }
        }
        return (int) inLeastTerms(hits, all, upper);
    }

    // ---- slots

    public int keep(int slot) {
        if (slot < 0 || slot >= SLOTS) {
            return UNKNOWN;
        }
        kept[slot].copyFrom(now);
        isKept[slot] = true;
        return now.minute;
    }

    public int again(int slot) {
        if (slot < 0 || slot >= SLOTS) {
            return UNKNOWN;
        }
        if (!isKept[slot]) {
            return LATE;
        }
        now.copyFrom(kept[slot]);
        past.forgetAll();
        return now.minute;
    }

    // ---- helpers of the calls

    private static boolean has(int set, int person) {
        return person >= 0 && person < MOST_PEOPLE && (set >> person & 1) == 1;
    }

    private static boolean isAskedMinute(int m) {
        return m >= 0 && m <= LAST_MINUTE;
    }

    private static boolean isRow(int row, int n) {
        if (n < 1 || n > LOOKS || row < 0 || row >= HUNDREDS[n]) {
            return false;
        }
        for (int i = 0; i < n; i++) {
            if (setOf(row, n, i) > LARGEST_SET) {
                return false;
            }
        }
        return true;
    }

    private static int setOf(int row, int n, int i) {
        int behind = n - 1 - i;
        return behind < 0 || behind >= HUNDREDS.length ? 0 : row / HUNDREDS[behind] % 100;
    }

    private static boolean showsRow(Strip strip, int first, int n, int row) {
        for (int i = 0; i < n; i++) {
            if (strip.cell(first + i, LOOK_IN) != setOf(row, n, i)) {
                return false;
            }
        }
        return true;
    }

    private boolean canSit(int row) {
        for (int i = 0; i < LOOKS; i++) {
            int set = setOf(row, LOOKS, i);
            if (set >> plan.people != 0 || Integer.bitCount(set) > MOST_IN) {
                return false;
            }
        }
        return true;
    }

    private boolean canBe(int booth, int minute, int set) {
        int shown = now.shownAt(booth, minute);
        return plan.flashesAt(booth, minute)
            && (shown == NONE || shown == set)
            && (now.seenNear(1 - booth, minute, plan.walk) & set) == 0;
    }

    private boolean canHaveBeenIn(int person, int booth, int minute) {
        int shown = now.shownAt(booth, minute);
        return (shown == NONE || has(shown, person))
            && !has(now.seenNear(1 - booth, minute, plan.walk), person);
    }

    /** Whether THE HAT may go on from one LOOK to the next: not from one head to another. */
    private static boolean hatGoesOn(int hatBefore, int hatBehind) {
        return hatBefore == NONE || hatBehind == NONE || hatBefore == hatBehind;
    }

    private static long inLeastTerms(long above, long below, boolean upper) {
        long divisor = above;
        long rest = below;
        // Euclid's steps for numbers of 64 bits are fewer than 100
        for (int i = 0; i < 100 && rest != 0; i++) {
            long left = divisor % rest;
            divisor = rest;
            rest = left;
        }
        if (divisor == 0) {
            return 0;
        }
        return (upper ? above : below) / divisor;
    }

    /** What THE TEXT tells when it is a FAIR; it stays while the fair goes on, so no snapshot holds it. */
    private static final class Plan {
        private static final int NO_PLACE = 0, HEAD = 1, WALK = 2, PART = 3, FIRST = 4, EVERY = 5, BLINKS = 6;

        int walk = 0;
        int booths = 0;
        int people = 0;
        final int[] firsts = new int[MOST_BOOTHS];
        final int[] everies = new int[MOST_BOOTHS];
        final int[] tenths = new int[MOST_PEOPLE];

        /** Answers the FAULT. */
        int readFrom(int[] text, int bytes) {
            walk = 0;
            booths = 0;
            people = 0;
            int due = HEAD;
            for (int i = 0; i < bytes && i < text.length; i++) {
                due = dueBehind(due, text[i]);
                if (due == NO_PLACE) {
                    return i;
                }
            }
            return due == PART ? NONE : bytes;
        }

        private int dueBehind(int due, int letter) {
            if (due == HEAD) {
                return letter == 'B' ? WALK : NO_PLACE;
            }
            if (due == PART) {
                return beginPart(letter);
            }
            int figure = letter - '0';
            if (figure < 0 || figure > 9) {
                return NO_PLACE;
            }
            return takeFigure(due, figure);
        }

        private int beginPart(int letter) {
            if (letter == 'S' && booths < MOST_BOOTHS) {
                booths++;
                return FIRST;
            }
            if (letter == 'P' && people < MOST_PEOPLE) {
                people++;
                return BLINKS;
            }
            return NO_PLACE;
        }

        private int takeFigure(int due, int figure) {
            if (due == WALK) {
                walk = figure;
                return PART;
            }
            if (due == FIRST && hasBooth(booths - 1)) {
                firsts[booths - 1] = figure;
                return EVERY;
            }
            if (due == EVERY && hasBooth(booths - 1) && figure > 0) {
                everies[booths - 1] = figure;
                return PART;
            }
            if (due == BLINKS && hasPerson(people - 1)) {
                tenths[people - 1] = figure;
                return PART;
            }
            return NO_PLACE;
        }

        boolean hasBooth(int booth) {
            return booth >= 0 && booth < booths && booth < MOST_BOOTHS;
        }

        boolean hasPerson(int person) {
            return person >= 0 && person < people && person < MOST_PEOPLE;
        }

        int firstOf(int booth) {
            return hasBooth(booth) ? firsts[booth] : 0;
        }

        int everyOf(int booth) {
            return hasBooth(booth) ? Math.max(1, everies[booth]) : 1;
        }

        int tenthsOf(int person) {
            return hasPerson(person) ? tenths[person] : 0;
        }

        boolean flashesAt(int booth, int minute) {
            return hasBooth(booth) && nextFlash(booth, minute) == minute;
        }

        int nextFlash(int booth, int minute) {
            int first = firstOf(booth);
            if (minute <= first) {
                return first;
            }
            return minute + Math.floorMod(first - minute, everyOf(booth));
        }

        int flashesBetween(int booth, int from, int to) {
            int next = nextFlash(booth, from);
            return next > to ? 0 : (to - next) / everyOf(booth) + 1;
        }

        /** How likely a PERSON's eyes are to do k blinks on n LOOKS, by the n-th power of ten. */
        long blinkWeight(int person, int n, int k) {
            long weight = 1;
            for (int i = 0; i < n; i++) {
                weight *= i < k ? tenthsOf(person) : TENTHS - tenthsOf(person);
            }
            return weight;
        }

        /** How likely of those in just the ones of a set do not blink, by the power of ten of how many are in. */
        long openWeight(int in, int set) {
            long weight = 1;
            for (int i = 0; i < MOST_PEOPLE; i++) {
                if (has(in, i)) {
                    weight *= has(set, i) ? TENTHS - tenthsOf(i) : tenthsOf(i);
                }
            }
            return weight;
        }
    }

    /** Up to four LOOKS of a BOOTH: begun while there are less. */
    private static final class Strip {
        int booth = 0;
        int looks = 0;
        int torn = 0;
        int faded = 0;
        private final int[] cells = new int[LOOKS * LOOK_CELLS];

        void copyFrom(Strip other) {
            booth = other.booth;
            looks = other.looks;
            torn = other.torn;
            faded = other.faded;
            System.arraycopy(other.cells, 0, cells, 0, cells.length);
        }

        void begin(int itsBooth) {
            booth = itsBooth;
            looks = 0;
            torn = 0;
            faded = 0;
        }

        void take(int minute, int in, int hat, int blinks) {
            int at = looks * LOOK_CELLS;
            if (at < 0 || at + LOOK_CELLS > cells.length) {
                return;
            }
            cells[at + LOOK_MINUTE] = minute;
            cells[at + LOOK_IN] = in;
            cells[at + LOOK_HAT] = hat;
            cells[at + LOOK_BLINKS] = blinks;
            looks++;
        }

        int cell(int look, int what) {
            if (look < 0 || look >= LOOKS || what < 0 || what >= LOOK_CELLS) {
                return NONE;
            }
            return cells[look * LOOK_CELLS + what];
        }

        int allOnIt() {
            int all = 0;
            for (int i = 0; i < LOOKS; i++) {
                all |= cell(i, LOOK_IN);
            }
            return all;
        }

        boolean isWhole(int first, int n) {
            return torn <= first || torn >= first + n;
        }
    }

    /** All that ACTS change, and THE SEED: what is undone and what is kept is one of these. */
    private static final class Scene {
        long seed = 0;
        int minute = 0;
        int day = 0;
        int hat = NONE;
        int strips = 0;
        final Strip[] chute = new Strip[MOST_STRIPS];
        private final Strip[] begun = new Strip[MOST_BOOTHS];
        private final int[] places = new int[MOST_PEOPLE];
        private final int[] leftBooths = new int[MOST_PEOPLE];
        private final int[] leftMinutes = new int[MOST_PEOPLE];

        Scene() {
            for (int i = 0; i < MOST_STRIPS; i++) {
                chute[i] = new Strip();
            }
            for (int i = 0; i < MOST_BOOTHS; i++) {
                begun[i] = new Strip();
            }
            startAnew();
        }

        /** THE SEED stays, as the document asks when THE FAIR is made anew. */
        void startAnew() {
            minute = 0;
            day = 0;
            hat = NONE;
            strips = 0;
            for (int i = 0; i < MOST_BOOTHS; i++) {
                begun[i].begin(i);
            }
            for (int i = 0; i < MOST_PEOPLE; i++) {
                places[i] = NONE;
                leftBooths[i] = NONE;
                leftMinutes[i] = NONE;
            }
        }

        void copyFrom(Scene other) {
            seed = other.seed;
            minute = other.minute;
            day = other.day;
            hat = other.hat;
            strips = other.strips;
            for (int i = 0; i < strips && i < MOST_STRIPS; i++) {
                chute[i].copyFrom(other.chute[i]);
            }
            for (int i = 0; i < MOST_BOOTHS; i++) {
                begun[i].copyFrom(other.begun[i]);
            }
            System.arraycopy(other.places, 0, places, 0, MOST_PEOPLE);
            System.arraycopy(other.leftBooths, 0, leftBooths, 0, MOST_PEOPLE);
            System.arraycopy(other.leftMinutes, 0, leftMinutes, 0, MOST_PEOPLE);
        }

        boolean hasStrip(int strip) {
            return strip >= 0 && strip < strips && strip < MOST_STRIPS;
        }

        private static boolean isOfPeople(int person) {
            return person >= 0 && person < MOST_PEOPLE;
        }

        int placeOf(int person) {
            return isOfPeople(person) ? places[person] : NONE;
        }

        int leftOf(int person) {
            return isOfPeople(person) ? leftBooths[person] : NONE;
        }

        int leftAt(int person) {
            return isOfPeople(person) ? leftMinutes[person] : NONE;
        }

        boolean comesTooSoon(int person, int booth, int walk) {
            int left = leftOf(person);
            return left != NONE && left != booth && minute - leftAt(person) < walk;
        }

        int whoIsIn(int booth) {
            int in = 0;
            for (int i = 0; i < MOST_PEOPLE; i++) {
                if (places[i] == booth) {
                    in |= 1 << i;
                }
            }
            return in;
        }

        int begunLooks(int booth) {
            return booth >= 0 && booth < MOST_BOOTHS ? begun[booth].looks : 0;
        }

        int tornOnes() {
            int torn = 0;
            for (int i = 0; i < strips && i < MOST_STRIPS; i++) {
                if (chute[i].torn != 0) {
                    torn |= 1 << i;
                }
            }
            return torn;
        }

        void stepIn(int person, int booth) {
            if (isOfPeople(person)) {
                places[person] = booth;
            }
        }

        void stepOut(int person) {
            if (!isOfPeople(person)) {
                return;
            }
            leftBooths[person] = places[person];
            leftMinutes[person] = minute;
            places[person] = NONE;
            if (hat == person) {
                hat = NONE;
            }
        }

        /** Answers how many STRIPS fell by it. */
        int flash(Plan plan, int booth) {
            if (booth < 0 || booth >= MOST_BOOTHS || strips < 0 || strips >= MOST_STRIPS) {
                return 0;
            }
            Strip strip = begun[booth];
            int in = whoIsIn(booth);
            if (!plan.flashesAt(booth, minute) || (in == 0 && strip.looks == 0)) {
                return 0;
            }
            strip.take(minute, in, has(in, hat) ? hat : NONE, drawBlinks(plan, in));
            if (strip.looks < LOOKS) {
                return 0;
            }
            chute[strips].copyFrom(strip);
            strips++;
            strip.begin(booth);
            return 1;
        }

        private int drawBlinks(Plan plan, int in) {
            int blinks = 0;
            for (int i = 0; i < MOST_PEOPLE; i++) {
                if (has(in, i)) {
                    seed = seed * 6364136223846793005L + 1442695040888963407L;
                    if ((seed >>> 33) % TENTHS < plan.tenthsOf(i)) {
                        blinks |= 1 << i;
                    }
                }
            }
            return blinks;
        }

        /** Answers of which BOOTH the last STRIP is then. */
        int swapLastTwo() {
            if (strips < 2 || strips > MOST_STRIPS) {
                return LATE;
            }
            Strip last = chute[strips - 1];
            chute[strips - 1] = chute[strips - 2];
            chute[strips - 2] = last;
            return chute[strips - 1].booth;
        }

        void fadeByOne() {
            for (int i = 0; i < strips && i < MOST_STRIPS; i++) {
                chute[i].faded = Math.min(MOST_FADED, chute[i].faded + 1);
            }
        }

        /** The set on the LOOK of a BOOTH at a MINUTE (there is one at most), or NONE. */
        int shownAt(int booth, int at) {
            for (int i = 0; i < strips && i < MOST_STRIPS; i++) {
                for (int look = 0; look < LOOKS; look++) {
                    if (chute[i].booth == booth && chute[i].cell(look, LOOK_MINUTE) == at) {
                        return chute[i].cell(look, LOOK_IN);
                    }
                }
            }
            return NONE;
        }

        /** Who is on LOOKS of a BOOTH at a MINUTE, or less than a walk from it. */
        int seenNear(int booth, int at, int walk) {
            int seen = 0;
            for (int i = 0; i < strips && i < MOST_STRIPS; i++) {
                for (int look = 0; look < LOOKS; look++) {
                    // at that MINUTE itself it counts when the walk is 0, too
                    if (chute[i].booth == booth
                        && Math.abs(chute[i].cell(look, LOOK_MINUTE) - at) < Math.max(1, walk)) {
                        seen |= chute[i].cell(look, LOOK_IN);
                    }
                }
            }
            return seen;
        }

        int looksWith(int person, int what) {
            int looks = 0;
            for (int i = 0; i < strips && i < MOST_STRIPS; i++) {
                for (int look = 0; look < LOOKS; look++) {
                    if (has(chute[i].cell(look, what), person)) {
                        looks++;
                    }
                }
            }
            return looks;
        }
    }

    /** The row of ACTS, as what was there before each: a ring, so that the first one is forgotten cheaply. */
    private static final class Past {
        int acts = 0;
        private int first = 0;
        private final Scene[] before = new Scene[MOST_ACTS];

        Past() {
            for (int i = 0; i < MOST_ACTS; i++) {
                before[i] = new Scene();
            }
        }

        void forgetAll() {
            acts = 0;
        }

        void remember(Scene scene) {
            if (acts >= MOST_ACTS) {
                first = Math.floorMod(first + 1, MOST_ACTS);
                acts = MOST_ACTS - 1;
            }
            before[Math.floorMod(first + acts, MOST_ACTS)].copyFrom(scene);
            acts++;
        }

        boolean takeBack(Scene scene) {
            if (acts < 1) {
                return false;
            }
            acts--;
            scene.copyFrom(before[Math.floorMod(first + acts, MOST_ACTS)]);
            return true;
        }
    }

    /** The parts of TORN STRIPS that lie about, mixed. */
    private static final class Parts {
        private int count = 0;
        private final int[] torn = new int[MOST_STRIPS];
        /** Of each upper part the lower ones that go with it, as bits. */
        private final int[] fits = new int[MOST_STRIPS];
        private final int[] table = new int[1 << MOST_STRIPS];

        void gather(Scene scene) {
            count = 0;
            for (int i = 0; i < MOST_STRIPS && count < MOST_STRIPS; i++) {
                if (scene.hasStrip(i) && scene.chute[i].torn != 0) {
                    torn[count] = i;
                    count++;
                }
            }
            for (int i = 0; i < count; i++) {
                fits[i] = 0;
                for (int j = 0; j < count; j++) {
                    fits[i] |= goTogether(scene, torn[i], torn[j]) ? 1 << j : 0;
                }
            }
        }

        private static boolean goTogether(Scene scene, int ofUpper, int ofLower) {
            if (!scene.hasStrip(ofUpper) || !scene.hasStrip(ofLower)) {
                return false;
            }
            Strip upper = scene.chute[ofUpper];
            Strip lower = scene.chute[ofLower];
            return upper.torn == lower.torn
                && hatGoesOn(upper.cell(upper.torn - 1, LOOK_HAT), lower.cell(lower.torn, LOOK_HAT));
        }

        private int fitsOf(int upper) {
            return upper >= 0 && upper < count && upper < MOST_STRIPS ? fits[upper] : 0;
        }

        /** By Ore: of the uppers the set that most lacks lowers tells how many must be left. */
        int putTogetherAtMost() {
            int most = count;
            table[0] = 0;
            for (int set = 1; set < 1 << count && set < table.length; set++) {
                table[set] = table[set & (set - 1)] | fitsOf(Integer.numberOfTrailingZeros(set));
                int lacking = Integer.bitCount(set) - Integer.bitCount(table[set]);
                most = Math.min(most, count - lacking);
            }
            return most;
        }

        /** For each set of lowers: in how many ways the first uppers, as many, take just these. */
        int waysForAll() {
            int all = (1 << count) - 1;
            for (int set = 1; set <= all && set < table.length; set++) {
                table[set] = 0;
            }
            table[0] = 1;
            for (int set = 0; set < all && set < table.length; set++) {
                int free = fitsOf(Integer.bitCount(set)) & ~set;
                for (int lower = 0; lower < count; lower++) {
                    if ((free >> lower & 1) == 1) {
                        table[set | 1 << lower] += table[set];
                    }
                }
            }
            return all < table.length ? table[all] : 0;
        }
    }

    /** The ORDERS of all STRIPS: counted by sets, as to go through all rows would take long. */
    private static final class Rows {
        private int count = 0;
        /** Of each STRIP those that may stand right before it, and right behind it, as bits. */
        private final int[] before = new int[MOST_IN_ORDER];
        private final int[] behind = new int[MOST_IN_ORDER];
        /** For a set and a STRIP of it: how many rows of the set end, and begin, with that one. */
        private final int[] ending = new int[MOST_IN_ORDER << MOST_IN_ORDER];
        private final int[] beginning = new int[MOST_IN_ORDER << MOST_IN_ORDER];

        void gather(Scene scene) {
            count = Math.min(scene.strips, MOST_IN_ORDER);
            for (int i = 0; i < count; i++) {
                before[i] = 0;
                behind[i] = 0;
                for (int j = 0; j < count; j++) {
                    before[i] |= mayFollow(scene.chute[j], scene.chute[i]) ? 1 << j : 0;
                    behind[i] |= mayFollow(scene.chute[i], scene.chute[j]) ? 1 << j : 0;
                }
            }
            countRows(ending, before);
            countRows(beginning, behind);
        }

        private static boolean mayFollow(Strip one, Strip next) {
            return hatGoesOn(one.cell(LOOKS - 1, LOOK_HAT), next.cell(0, LOOK_HAT));
        }

        private void countRows(int[] table, int[] links) {
            for (int set = 1; set < 1 << count; set++) {
                for (int i = 0; i < count; i++) {
                    int rest = set & ~(1 << i);
                    int at = set * MOST_IN_ORDER + i;
                    if (rest != set && at < table.length) {
                        table[at] = rest == 0 ? 1 : sumOver(table, rest, links[i]);
                    }
                }
            }
        }

        private int sumOver(int[] table, int set, int linked) {
            int sum = 0;
            for (int i = 0; i < count; i++) {
                int at = set * MOST_IN_ORDER + i;
                if ((set & linked & 1 << i) != 0 && at < table.length) {
                    sum += table[at];
                }
            }
            return sum;
        }

        int howMany() {
            int all = (1 << count) - 1;
            return count == 0 ? 1 : sumOver(ending, all, all);
        }

        int placesOf(int strip) {
            if (strip < 0 || strip >= count) {
                return 0;
            }
            int all = (1 << count) - 1;
            int bit = 1 << strip;
            int places = 0;
            for (int set = 1; set <= all; set++) {
                if ((set & bit) != 0
                    && sumOver(ending, set, bit) > 0
                    && sumOver(beginning, all & ~set | bit, bit) > 0) {
                    places |= 1 << Integer.bitCount(set) - 1;
                }
            }
            return places;
        }
    }
}
