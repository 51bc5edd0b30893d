/**
 * Nine and one warm place: sleepers in one bed, who turn by a law, and what can be tried, told and
 * undone of their nights. The promises stand in DOC.md; every word in capitals is told there.
 *
 * All rows are made once, in the constructor: no call makes an object.
 */
public final class WarmPlace {
    public static final int NONE = -1, UNKNOWN = -1000000001, OUTSIDE = -1000000002, NOT = -1000000003, FULL = -1000000004;

    private static final int MOST_LETTERS = 200;
    private static final int MOST_PLACES = 6;
    private static final int MOST_LAW = 8;
    private static final int WORDS = 4;
    private static final int MOST_WARMTH = 99;
    private static final int LAST_HOUR = 90000;
    private static final int MOST_AT_ONCE = 99;
    private static final int MOST_UNDONE = 30;
    private static final int MOST_TURNS = 5;
    private static final int MOST_RHYME = 4;
    private static final int MOST_RHYME_HOURS = 30;
    private static final int MOST_LAID_HOURS = 9;
    private static final int MOST_ROUNDS = 200;
    private static final int MOST_ODDS_HOURS = 50;
    private static final int MOST_SEEN = 6;
    private static final int MOST_BOOK = 20;
    private static final int IMAGES = 2;
    private static final int THOUSAND = 1000;
    private static final long BILLION = 1000000000L;

    private final Reader reader;
    private final Bed bed;
    private final Night now;
    private final Night trial;
    private final Past past;
    private final Image[] images;
    private final Turning turning;
    private final Rhyming rhyming;
    private final Laying laying;
    private final Rounds rounds;
    private final Seen seen;
    private final Book book;
    private int theSeed;

    public WarmPlace() {
        Bed untold = new Bed();
        Night tried = new Night(untold);
        reader = new Reader();
        bed = untold;
        now = new Night(untold);
        trial = tried;
        past = new Past();
        images = new Image[IMAGES];
        for (int i = 0; i < IMAGES; i++) {
            images[i] = new Image();
        }
        turning = new Turning(untold);
        rhyming = new Rhyming(tried);
        laying = new Laying(tried);
        rounds = new Rounds(tried);
        seen = new Seen();
        book = new Book();
        theSeed = 0;
    }

    // ---- the bed

    public int feed(int letter) {
        if (letter < 0 || letter > 255) {
            return OUTSIDE;
        }
        return reader.add(letter) ? reader.length : FULL;
    }

    public int bed() {
        int number = reader.readAll();
        if (number != 0) {
            return -10 - number;
        }
        bed.become(reader.draft);
        now.layAll();
        seen.empty();
        book.empty();
        past.forget();
        for (int i = 0; i < IMAGES; i++) {
            images[i].kept = false;
        }
        return bed.sleepers;
    }

    public int fault() {
        return reader.faultLetter;
    }

    public int told(int what) {
        switch (what) {
            case 0: return bed.places;
            case 1: return bed.ring ? 1 : 0;
            case 2: return bed.sleepers;
            case 3: return bed.lawWords;
            case 4: return reader.length;
            case 5: return now.hours;
            case 6: return now.up();
            case 7: return now.awake();
            case 8: return now.coldest();
            case 9: return seen.count;
            case 10: return book.count;
            case 11: return past.count;
            default: return OUTSIDE;
        }
    }

    public int place(int p, int what) {
        if (!bed.hasPlace(p)) {
            return UNKNOWN;
        }
        switch (what) {
            case 0: return bed.heat[p];
            case 1: return now.who[p];
            default: return OUTSIDE;
        }
    }

    public int sleeper(int s, int what) {
        if (!bed.hasSleeper(s)) {
            return UNKNOWN;
        }
        switch (what) {
            case 0: return now.warm[s];
            case 1: return bed.gives[s];
            case 2: return bed.loses[s];
            case 3: return bed.wakes[s];
            case 4: return now.placeOf(s);
            default: return OUTSIDE;
        }
    }

    public int rule(int i) {
        return i < 0 || i >= bed.lawWords ? NONE : bed.law[i];
    }

    // ---- hours

    public int hour(int word) {
        if (!isWord(word)) {
            return UNKNOWN;
        }
        int refusal = hoursRefused();
        if (refusal != 0) {
            return refusal;
        }
        goOn(word);
        return now.coldest();
    }

    public int night(int n) {
        if (n < 1 || n > MOST_AT_ONCE) {
            return OUTSIDE;
        }
        int refusal = hoursRefused();
        if (refusal != 0) {
            return refusal;
        }
        for (int i = 0; i < n; i++) {
            goOn(bed.lawAt(now.hours));
        }
        return now.coldest();
    }

    public int getUp(int s) {
        if (!bed.hasSleeper(s)) {
            return UNKNOWN;
        }
        int p = now.placeOf(s);
        if (p == NONE) {
            return NOT;
        }
        past.remember(now);
        now.leave(p);
        return p;
    }

    public int comeIn(int s) {
        if (!bed.hasSleeper(s)) {
            return UNKNOWN;
        }
        int p = now.lastEmpty();
        if (now.placeOf(s) != NONE || p == NONE) {
            return NOT;
        }
        past.remember(now);
        now.who[p] = s;
        return p;
    }

    public int drift(int n) {
        if (n < 1 || n > MOST_AT_ONCE) {
            return OUTSIDE;
        }
        int refusal = hoursRefused();
        if (refusal != 0) {
            return refusal;
        }
        for (int i = 0; i < n; i++) {
            int drawn = drawOfSix();
            goOn(isWord(drawn) ? drawn : bed.lawAt(now.hours));
        }
        return now.coldest();
    }

    public int undo(int n) {
        if (n < 1 || n > MOST_UNDONE) {
            return OUTSIDE;
        }
        if (n > past.count) {
            return NOT;
        }
        past.bringBack(n, now);
        return now.hours;
    }

    // ---- tried

    public int firstAwake(int what) {
        if (what != 0 && what != 1) {
            return OUTSIDE;
        }
        trial.become(now);
        for (int hoursOn = 0; hoursOn <= MOST_AT_ONCE; hoursOn++) {
            int awake = trial.awake();
            if (awake != 0) {
                return what == 0 ? hoursOn : Integer.numberOfTrailingZeros(awake);
            }
            trial.passByLaw();
        }
        return NONE;
    }

    public int turnsFor(int n, int i) {
        if (n < 1 || n > MOST_TURNS) {
            return OUTSIDE;
        }
        if (now.inBed() == 0) {
            return NOT;
        }
        turning.seek(now, n);
        if (i == NONE || turning.coldest == NONE) {
            return turning.coldest;
        }
        return i < 0 || i >= n ? NONE : turning.best[i];
    }

    public int rhyme(int n, int i) {
        if (n < 1 || n > MOST_RHYME_HOURS) {
            return OUTSIDE;
        }
        if (now.inBed() == 0) {
            return NOT;
        }
        rhyming.seek(now, n);
        if (i == NONE || rhyming.length == NONE) {
            return rhyming.length;
        }
        return i < 0 || i >= rhyming.length ? NONE : wordOf(rhyming.row, rhyming.length, i);
    }

    public int laid(int n, int i) {
        if (n < 1 || n > MOST_LAID_HOURS) {
            return OUTSIDE;
        }
        laying.seek(now, n);
        if (i == NONE) {
            return laying.coldest;
        }
        return i < 0 || i >= laying.count ? NONE : laying.best[i];
    }

    public int change(int i) {
        laying.seekPairs(now);
        if (i == NONE) {
            return laying.pairCount;
        }
        return i < 0 || i >= laying.pairCount ? NONE : laying.pairs[i];
    }

    public int steady(int s) {
        if (s != NONE && !bed.hasSleeper(s)) {
            return UNKNOWN;
        }
        if (bed.places == 0) {
            return NOT;
        }
        rounds.seek(now);
        if (s == NONE || rounds.length == NONE) {
            return rounds.length;
        }
        return rounds.hoursInWarmest(now, s);
    }

    public int twoBeds(int what) {
        if (what != 0 && what != 1) {
            return OUTSIDE;
        }
        int least = NONE;
        int leastSet = NONE;
        // The first SLEEPER is in the first bed: its SETS are the odd ones.
        for (int set = 1; set < 1 << bed.sleepers; set += 2) {
            int unlike = bed.unlike(set);
            if (least == NONE || unlike < least) {
                least = unlike;
                leastSet = set;
            }
        }
        return what == 0 ? least : leastSet;
    }

    public int nobodyUp(int n, int q) {
        if (n < 1 || n > MOST_ODDS_HOURS || q < 0 || q > THOUSAND) {
            return OUTSIDE;
        }
        int times = n * Integer.bitCount(now.inBed());
        long odds = BILLION;
        for (int k = 0; k < times; k++) {
            odds = odds * (THOUSAND - q) / THOUSAND;
        }
        return (int) odds;
    }

    // ---- what was seen

    public int morning(int s, int p) {
        if (!bed.hasSleeper(s) || !bed.hasPlace(p)) {
            return UNKNOWN;
        }
        return seen.add(s, p) ? seen.count : FULL;
    }

    public int counted(int m, int i) {
        if (m < 1 || m > MOST_TURNS) {
            return OUTSIDE;
        }
        if (bed.places == 0) {
            return NOT;
        }
        seen.seek(now, m);
        if (i == NONE) {
            return seen.rows;
        }
        return i < 0 || i >= m || seen.rows == 0 ? NONE : wordOf(seen.firstRow, m, i);
    }

    public int sure(int m) {
        if (m < 1 || m > MOST_TURNS) {
            return OUTSIDE;
        }
        if (bed.places == 0) {
            return NOT;
        }
        seen.seek(now, m);
        return seen.inAll;
    }

    public int write(int word) {
        if (!isWord(word)) {
            return UNKNOWN;
        }
        return book.add(word) ? book.count : FULL;
    }

    public int judge(int what) {
        if (what != 0 && what != 1) {
            return OUTSIDE;
        }
        if (now.inBed() == 0) {
            return NOT;
        }
        trial.become(now);
        int wrong = book.sayTo(trial);
        return what == 0 ? wrong : trial.coldest();
    }

    public int tear() {
        int both = seen.count + book.count;
        seen.empty();
        book.empty();
        return both;
    }

    // ---- images

    public int seed(int v) {
        if (v < 0) {
            return OUTSIDE;
        }
        int was = theSeed;
        theSeed = v;
        return was;
    }

    public int keep(int i) {
        if (i < 0 || i >= IMAGES) {
            return UNKNOWN;
        }
        images[i].take(now, theSeed);
        past.forget();
        return 1;
    }

    public int goBack(int i) {
        if (i < 0 || i >= IMAGES) {
            return UNKNOWN;
        }
        Image image = images[i];
        if (!image.kept) {
            return NOT;
        }
        now.setCode(image.code, image.hours);
        theSeed = image.seedThen;
        past.forget();
        return 1;
    }

    // ---- what several calls share

    private static boolean isWord(int word) {
        return word >= 0 && word < WORDS;
    }

    /** A row of WORDS as one number, two bits a WORD, the first one highest: so rows rise as numbers. */
    private static int wordOf(int row, int length, int i) {
        return row >> 2 * (length - 1 - i) & 3;
    }

    private int hoursRefused() {
        if (bed.places == 0) {
            return NOT;
        }
        return now.hours > LAST_HOUR ? FULL : 0;
    }

    private void goOn(int word) {
        past.remember(now);
        now.passHour(word);
    }

    private int drawOfSix() {
        theSeed = (int) (theSeed * 1103515245L + 12345L & 0x7fffffffL);
        return theSeed / 65536 % 6;
    }

    /** What THE TEXT tells; it stays so until the next one. */
    private static final class Bed {
        int places;
        boolean ring;
        int sleepers;
        int lawWords;
        final int[] heat = new int[MOST_PLACES];
        final int[] warmth = new int[MOST_PLACES];
        final int[] gives = new int[MOST_PLACES];
        final int[] loses = new int[MOST_PLACES];
        final int[] wakes = new int[MOST_PLACES];
        final int[] law = new int[MOST_LAW];

        Bed() {
            lawWords = 1;
        }

        void empty() {
            places = 0;
            ring = false;
            sleepers = 0;
            lawWords = 1;
            law[0] = 0;
            for (int p = 0; p < MOST_PLACES; p++) {
                heat[p] = 0;
            }
        }

        void become(Bed other) {
            places = other.places;
            ring = other.ring;
            sleepers = other.sleepers;
            lawWords = other.lawWords;
            System.arraycopy(other.heat, 0, heat, 0, MOST_PLACES);
            System.arraycopy(other.warmth, 0, warmth, 0, MOST_PLACES);
            System.arraycopy(other.gives, 0, gives, 0, MOST_PLACES);
            System.arraycopy(other.loses, 0, loses, 0, MOST_PLACES);
            System.arraycopy(other.wakes, 0, wakes, 0, MOST_PLACES);
            System.arraycopy(other.law, 0, law, 0, MOST_LAW);
        }

        boolean hasPlace(int p) {
            return p >= 0 && p < places;
        }

        boolean hasSleeper(int s) {
            return s >= 0 && s < sleepers;
        }

        int lawAt(int hour) {
            return lawWords < 1 || hour < 0 ? 0 : law[hour % lawWords];
        }

        int warmestPlace() {
            int best = 0;
            for (int p = 1; p < places; p++) {
                if (heat[p] > heat[best]) {
                    best = p;
                }
            }
            return best;
        }

        /** Where one who lies in PLACE p lies behind a WORD. */
        int turned(int p, int word) {
            int last = places - 1;
            switch (word) {
                case 1: return p == last ? 0 : p + 1;
                case 2: return p == 0 ? last : p - 1;
                case 3: return p == 0 ? last : p == last ? 0 : p;
                default: return p;
            }
        }

        int unlike(int set) {
            int difference = 0;
            for (int s = 0; s < sleepers; s++) {
                difference += (set >> s & 1) == 1 ? gives[s] : -gives[s];
            }
            return Math.abs(difference);
        }
    }

    /** Who lies where, how warm, and in which HOUR. */
    private static final class Night {
        final Bed bed;
        final int[] who = new int[MOST_PLACES];
        final int[] warm = new int[MOST_PLACES];
        int hours;

        Night(Bed bed) {
            this.bed = bed;
            for (int p = 0; p < MOST_PLACES; p++) {
                who[p] = NONE;
            }
        }

        void layAll() {
            for (int p = 0; p < MOST_PLACES; p++) {
                boolean taken = p < bed.sleepers;
                who[p] = taken ? p : NONE;
                warm[p] = taken ? bed.warmth[p] : 0;
            }
            hours = 0;
        }

        void become(Night other) {
            System.arraycopy(other.who, 0, who, 0, MOST_PLACES);
            System.arraycopy(other.warm, 0, warm, 0, MOST_PLACES);
            hours = other.hours;
        }

        /** All of it but HOURS in one number: 7 bits for each WARMTH, 3 for each PLACE. */
        long code() {
            long code = 0;
            for (int k = 0; k < MOST_PLACES; k++) {
                code = code << 10 | (long) (warm[k] << 3 | who[k] + 1);
            }
            return code;
        }

        void setCode(long code, int hoursThen) {
            long rest = code;
            for (int k = MOST_PLACES - 1; k >= 0; k--) {
                who[k] = (int) (rest & 7) - 1;
                warm[k] = (int) (rest >> 3 & 127);
                rest >>= 10;
            }
            hours = hoursThen;
        }

        int inBed() {
            int set = 0;
            for (int p = 0; p < bed.places; p++) {
                if (who[p] != NONE) {
                    set |= 1 << who[p];
                }
            }
            return set;
        }

        int up() {
            return (1 << bed.sleepers) - 1 & ~inBed();
        }

        int awake() {
            int set = 0;
            for (int p = 0; p < bed.places; p++) {
                int s = who[p];
                if (s != NONE && warm[s] <= bed.wakes[s]) {
                    set |= 1 << s;
                }
            }
            return set;
        }

        int coldest() {
            int least = NONE;
            for (int p = 0; p < bed.places; p++) {
                int s = who[p];
                if (s != NONE) {
                    int cold = 100 + warm[s] - bed.wakes[s];
                    least = least == NONE || cold < least ? cold : least;
                }
            }
            return least;
        }

        int placeOf(int s) {
            for (int p = 0; p < bed.places; p++) {
                if (who[p] == s) {
                    return p;
                }
            }
            return NONE;
        }

        int lastEmpty() {
            for (int p = bed.places - 1; p >= 0; p--) {
                if (who[p] == NONE) {
                    return p;
                }
            }
            return NONE;
        }

        void leave(int p) {
            if (!bed.hasPlace(p)) {
                return;
            }
            int last = bed.places - 1;
            for (int k = p; k < last; k++) {
                who[k] = who[k + 1];
            }
            who[last] = NONE;
        }

        void passHour(int word) {
            turn(word);
            stay(1);
            hours++;
        }

        void passByLaw() {
            passHour(bed.lawAt(hours));
        }

        private void turn(int word) {
            int last = bed.places - 1;
            if (last < 1) {
                return;
            }
            int first = who[0];
            int end = who[last];
            if (word == 1) {
                for (int p = last; p > 0; p--) {
                    who[p] = who[p - 1];
                }
                who[0] = end;
            } else if (word == 2) {
                for (int p = 0; p < last; p++) {
                    who[p] = who[p + 1];
                }
                who[last] = first;
            } else if (word == 3) {
                who[0] = end;
                who[last] = first;
            }
        }

        /**
         * WARMTH behind n hours without a turn. Each hour adds the same to each one (nobody's GIVES
         * hangs on WARMTH), so that cutting once behind all of them answers as cutting in each.
         */
        void stay(int n) {
            int in = 0;
            for (int p = 0; p < bed.places; p++) {
                int s = who[p];
                if (s != NONE) {
                    in |= 1 << s;
                    int more = bed.heat[p] + givenTo(p) - bed.loses[s];
                    warm[s] = Math.max(0, Math.min(MOST_WARMTH, warm[s] + n * more));
                }
            }
            for (int s = 0; s < bed.sleepers; s++) {
                if ((in >> s & 1) == 0) {
                    warm[s] = Math.max(0, warm[s] - n * 2 * bed.loses[s]);
                }
            }
        }

        private int givenTo(int p) {
            int last = bed.places - 1;
            boolean round = bed.ring && last > 1;
            int below = p > 0 ? p - 1 : round ? last : NONE;
            int above = p < last ? p + 1 : round ? 0 : NONE;
            return givenFrom(below) + givenFrom(above);
        }

        private int givenFrom(int p) {
            return p == NONE || who[p] == NONE ? 0 : bed.gives[who[p]];
        }
    }

    /** THE TEXT, and how it is read into a draft: so a FAULT leaves THE BED as it was. */
    private static final class Reader {
        final int[] text = new int[MOST_LETTERS];
        final Bed draft = new Bed();
        int length;
        int faultLetter = NONE;
        private int at;
        private int fault;
        private int numberAt;
        private int heatsTold;
        private boolean lawTold;

        boolean add(int letter) {
            if (length >= MOST_LETTERS) {
                return false;
            }
            text[length] = letter;
            length++;
            return true;
        }

        /** The number of the first FAULT, or 0; THE TEXT is empty then. */
        int readAll() {
            draft.empty();
            at = 0;
            fault = 0;
            faultLetter = NONE;
            heatsTold = 0;
            lawTold = false;
            skipBlanks();
            for (int k = 0; k < MOST_LETTERS && fault == 0 && at < length; k++) {
                readClause();
                skipBlanks();
            }
            length = 0;
            return fault;
        }

        private void readClause() {
            int word = text[at];
            if (draft.places == 0) {
                if (word == 'b') {
                    readPlaces();
                } else {
                    blame(1, at);
                }
                return;
            }
            switch (word) {
                case 'b':
                    blame(3, at);
                    break;
                case 'h':
                    readHeat();
                    break;
                case 's':
                    readSleeper();
                    break;
                case 'r':
                    readLaw();
                    break;
                default:
                    blame(1, at);
                    break;
            }
        }

        private void readPlaces() {
            at++;
            int places = readNumber(2, MOST_PLACES);
            int ring = readNumber(0, 1);
            readEnd();
            if (fault == 0) {
                draft.places = places;
                draft.ring = ring == 1;
            }
        }

        private void readHeat() {
            at++;
            int p = readNumber(0, draft.places - 1);
            if (fault == 0 && (heatsTold >> p & 1) == 1) {
                blame(4, numberAt);
            }
            int heat = readNumber(0, 9);
            readEnd();
            if (fault == 0) {
                draft.heat[p] = heat;
                heatsTold |= 1 << p;
            }
        }

        private void readSleeper() {
            if (draft.sleepers >= draft.places) {
                blame(3, at);
                return;
            }
            at++;
            int warmth = readNumber(1, MOST_WARMTH);
            int gives = readNumber(0, 9);
            int loses = readNumber(0, 20);
            int wakes = readNumber(0, MOST_WARMTH - 1);
            if (fault == 0 && wakes >= warmth) {
                blame(4, numberAt);
            }
            readEnd();
            if (fault == 0) {
                int s = draft.sleepers;
                draft.warmth[s] = warmth;
                draft.gives[s] = gives;
                draft.loses[s] = loses;
                draft.wakes[s] = wakes;
                draft.sleepers = s + 1;
            }
        }

        private void readLaw() {
            if (lawTold) {
                blame(3, at);
                return;
            }
            at++;
            lawTold = true;
            draft.law[0] = readNumber(0, WORDS - 1);
            int words = 1;
            for (int k = 1; k < MOST_LAW && nextIs(','); k++) {
                at++;
                draft.law[k] = readNumber(0, WORDS - 1);
                words++;
            }
            draft.lawWords = words;
            readEnd();
        }

        private boolean nextIs(int letter) {
            if (fault != 0) {
                return false;
            }
            skipBlanks();
            return at < length && text[at] == letter;
        }

        private void readEnd() {
            if (nextIs(';')) {
                at++;
            } else {
                blame(1, at);
            }
        }

        private int readNumber(int low, int high) {
            if (fault != 0) {
                return 0;
            }
            skipBlanks();
            numberAt = at;
            int value = 0;
            while (at < length && text[at] >= '0' && text[at] <= '9') {
                if (at - numberAt < 3) {
                    value = value * 10 + text[at] - '0';
                }
                at++;
            }
            if (at == numberAt) {
                blame(1, at);
            } else if (at - numberAt > 3 || value < low || value > high) {
                blame(2, numberAt);
            }
            return value;
        }

        private void skipBlanks() {
            while (at < length && text[at] == ' ') {
                at++;
            }
        }

        /** Only the first FAULT counts. */
        private void blame(int number, int letter) {
            if (fault == 0) {
                fault = number;
                faultLetter = letter;
            }
        }
    }

    /** What can be UNDONE: the latest nights, in a ring of rows. */
    private static final class Past {
        final long[] codes = new long[MOST_UNDONE];
        final int[] hours = new int[MOST_UNDONE];
        int count;
        private int next;

        void forget() {
            count = 0;
        }

        void remember(Night night) {
            codes[next] = night.code();
            hours[next] = night.hours;
            next = next + 1 < MOST_UNDONE ? next + 1 : 0;
            count = Math.min(count + 1, MOST_UNDONE);
        }

        void bringBack(int n, Night night) {
            if (n < 1 || n > count) {
                return;
            }
            next = next >= n ? next - n : next - n + MOST_UNDONE;
            count -= n;
            night.setCode(codes[next], hours[next]);
        }
    }

    private static final class Image {
        boolean kept;
        long code;
        int hours;
        int seedThen;

        void take(Night night, int seedNow) {
            kept = true;
            code = night.code();
            hours = night.hours;
            seedThen = seedNow;
        }
    }

    /** TURNS: the row of WORDS by which COLDEST is most. */
    private static final class Turning {
        final Night[] nights = new Night[MOST_TURNS + 1];
        final int[] row = new int[MOST_TURNS];
        final int[] best = new int[MOST_TURNS];
        int coldest;
        private int fewest;

        Turning(Bed bed) {
            for (int k = 0; k <= MOST_TURNS; k++) {
                nights[k] = new Night(bed);
            }
        }

        void seek(Night from, int n) {
            coldest = NONE;
            fewest = 0;
            nights[0].become(from);
            tryWords(this, 0, n, 0);
        }

        private static void tryWords(Turning t, int depth, int n, int turns) {
            if (depth >= n || depth >= MOST_TURNS) {
                t.compare(depth, turns);
                return;
            }
            Night next = t.nights[depth + 1];
            for (int word = 0; word < WORDS; word++) {
                next.become(t.nights[depth]);
                next.passHour(word);
                if (next.awake() == 0) {
                    t.row[depth] = word;
                    tryWords(t, depth + 1, n, word == 0 ? turns : turns + 1);
                }
            }
        }

        /** Rows come rising, so that of like ones the first one stays. */
        private void compare(int depth, int turns) {
            int cold = nights[depth].coldest();
            if (cold > coldest || cold == coldest && turns < fewest) {
                coldest = cold;
                fewest = turns;
                System.arraycopy(row, 0, best, 0, MOST_TURNS);
            }
        }
    }

    /** RHYME: the shortest row of WORDS by which nobody wakes. */
    private static final class Rhyming {
        final Night trial;
        int length;
        int row;

        Rhyming(Night trial) {
            this.trial = trial;
        }

        void seek(Night from, int n) {
            for (int words = 1; words <= MOST_RHYME; words++) {
                for (int r = 0; r < 1 << 2 * words; r++) {
                    if (nobodyWakes(from, n, r, words)) {
                        length = words;
                        row = r;
                        return;
                    }
                }
            }
            length = NONE;
            row = 0;
        }

        private boolean nobodyWakes(Night from, int n, int r, int words) {
            trial.become(from);
            int i = 0;
            for (int k = 0; k < n; k++) {
                trial.passHour(wordOf(r, words, i));
                if (trial.awake() != 0) {
                    return false;
                }
                i = i + 1 < words ? i + 1 : 0;
            }
            return true;
        }
    }

    /** LAID: the order in the taken PLACES by which COLDEST is most; CHANGE: pairs who both would be warmer. */
    private static final class Laying {
        final Night trial;
        final int[] taken = new int[MOST_PLACES];
        final int[] order = new int[MOST_PLACES];
        final int[] best = new int[MOST_PLACES];
        int count;
        int coldest;
        final int[] unchanged = new int[MOST_PLACES];
        final int[] pairs = new int[MOST_PLACES * MOST_PLACES];
        int pairCount;

        Laying(Night trial) {
            this.trial = trial;
        }

        void seek(Night from, int n) {
            coldest = NONE;
            count = 0;
            for (int p = 0; p < from.bed.places; p++) {
                if (from.who[p] != NONE) {
                    taken[count] = p;
                    count++;
                }
            }
            if (count > 0) {
                tryOrders(this, from, 0, from.inBed(), n);
            }
        }

        private static void tryOrders(Laying t, Night from, int depth, int left, int n) {
            if (depth >= t.count || depth >= MOST_PLACES) {
                t.compare(from, n);
                return;
            }
            for (int s = 0; s < MOST_PLACES; s++) {
                if ((left >> s & 1) == 1) {
                    t.order[depth] = s;
                    tryOrders(t, from, depth + 1, left & ~(1 << s), n);
                }
            }
        }

        /** Orders come rising, so that of like ones the first one stays. */
        private void compare(Night from, int n) {
            trial.become(from);
            for (int k = 0; k < count; k++) {
                trial.who[taken[k]] = order[k];
            }
            trial.stay(n);
            int cold = trial.coldest();
            if (cold > coldest) {
                coldest = cold;
                System.arraycopy(order, 0, best, 0, MOST_PLACES);
            }
        }

        void seekPairs(Night from) {
            trial.become(from);
            trial.stay(1);
            System.arraycopy(trial.warm, 0, unchanged, 0, MOST_PLACES);
            pairCount = 0;
            for (int a = 0; a < from.bed.sleepers; a++) {
                for (int b = a + 1; b < from.bed.sleepers; b++) {
                    if (bothWarmer(from, a, b)) {
                        pairs[pairCount] = 10 * a + b;
                        pairCount++;
                    }
                }
            }
        }

        private boolean bothWarmer(Night from, int a, int b) {
            int placeOfA = from.placeOf(a);
            int placeOfB = from.placeOf(b);
            if (placeOfA == NONE || placeOfB == NONE) {
                return false;
            }
            trial.become(from);
            trial.who[placeOfA] = b;
            trial.who[placeOfB] = a;
            trial.stay(1);
            return trial.warm[a] > unchanged[a] && trial.warm[b] > unchanged[b];
        }
    }

    /** STEADY: when a night behind whole rounds of THE LAW is as one before it. */
    private static final class Rounds {
        final Night trial;
        final long[] codes = new long[MOST_ROUNDS + 1];
        int length;
        private int before;

        Rounds(Night trial) {
            this.trial = trial;
        }

        void seek(Night from) {
            length = NONE;
            before = 0;
            trial.become(from);
            codes[0] = trial.code();
            for (int round = 1; round <= MOST_ROUNDS; round++) {
                for (int k = 0; k < from.bed.lawWords; k++) {
                    trial.passByLaw();
                }
                codes[round] = trial.code();
                int like = likeBefore(round);
                if (like != NONE) {
                    before = like;
                    length = round - like;
                    return;
                }
            }
        }

        private int likeBefore(int round) {
            for (int r = 0; r < round; r++) {
                if (codes[r] == codes[round]) {
                    return r;
                }
            }
            return NONE;
        }

        int hoursInWarmest(Night from, int s) {
            int warmest = from.bed.warmestPlace();
            int words = from.bed.lawWords;
            trial.become(from);
            for (int k = 0; k < before * words; k++) {
                trial.passByLaw();
            }
            int hours = 0;
            for (int k = 0; k < length * words; k++) {
                trial.passByLaw();
                if (trial.who[warmest] == s) {
                    hours++;
                }
            }
            return hours;
        }
    }

    /** MORNING, and the rows of turns by which all that it tells is so. */
    private static final class Seen {
        final int[] who = new int[MOST_SEEN];
        final int[] where = new int[MOST_SEEN];
        int count;
        int rows;
        int firstRow;
        int inAll;

        void empty() {
            count = 0;
        }

        boolean add(int s, int p) {
            if (count >= MOST_SEEN) {
                return false;
            }
            who[count] = s;
            where[count] = p;
            count++;
            return true;
        }

        void seek(Night from, int m) {
            rows = 0;
            firstRow = 0;
            inAll = 0;
            for (int row = 0; row < 1 << 2 * m; row++) {
                if (fits(from, row, m)) {
                    int words = wordsIn(row, m);
                    firstRow = rows == 0 ? row : firstRow;
                    inAll = rows == 0 ? words : inAll & words;
                    rows++;
                }
            }
        }

        private boolean fits(Night from, int row, int m) {
            for (int k = 0; k < count; k++) {
                int p = from.placeOf(who[k]);
                if (p == NONE) {
                    return false;
                }
                for (int i = 0; i < m; i++) {
                    p = from.bed.turned(p, wordOf(row, m, i));
                }
                if (p != where[k]) {
                    return false;
                }
            }
            return true;
        }

        private static int wordsIn(int row, int m) {
            int set = 0;
            for (int i = 0; i < m; i++) {
                set |= 1 << wordOf(row, m, i);
            }
            return set;
        }
    }

    /** THE BOOK: WORDS from now on. */
    private static final class Book {
        final int[] words = new int[MOST_BOOK];
        int count;

        void empty() {
            count = 0;
        }

        boolean add(int word) {
            if (count >= MOST_BOOK) {
                return false;
            }
            words[count] = word;
            count++;
            return true;
        }

        /** The first hour behind which one is AWAKE, or NONE; the night goes on to the end of it. */
        int sayTo(Night night) {
            int wrong = NONE;
            for (int k = 0; k < count; k++) {
                night.passHour(words[k]);
                if (wrong == NONE && night.awake() != 0) {
                    wrong = k;
                }
            }
            return wrong;
        }
    }
}
