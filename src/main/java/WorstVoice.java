/** A town whose mayor must be its worst singer; README.md tells how to use it. */
public final class WorstVoice {
    public static final int NONE = -1, UNKNOWN = -101, OUTSIDE = -102, STATE = -103, FULL = -104;

    private static final int SINGER = 0, TENOR = 1, BOY = 2, DEAF = 3, CHORISTER = 4, KINDS = 5;
    private static final String KIND_LETTERS = "stbdc";
    private static final int PITCH = 0, BREATH = 1, FEELING = 3, FAULTS = 4, MOST_FAULT = 9;
    private static final int FEWEST_SINGERS = 2, MOST_SINGERS = 4, MOST_WIDOWS = 5;
    private static final int MOST_LETTERS = 32, MOST_HONEY = 9, MOST_HEARD = 8, MOST_NEEDS = 20, MOST_TIMES = 60;
    private static final int WORSE_BY_COLD = 3, LESS_BY_ECHO = 1;
    /** The places that WORST numbers: 2 with a COLD and 1 on the LEFT, together. */
    private static final int PLACES = 4, PLACE_COLD = 2, PLACE_LEFT = 1;
    /** A singer's text and the sign behind it: a letter, the digits, "," or ";". */
    private static final int SINGER_STEP = 2 + FAULTS;
    /** The numbers from which singer() tells FAULTS and how BAD one is, and need() tells how much each. */
    private static final int WHAT_FAULT = 10, WHAT_BAD = 20, WHAT_EACH = 10;
    private static final int WIDOW_WHATS = 5, COUNT_WHATS = 9, YEARS_WHATS = 3;
    private static final int[] SINGER_WHATS = {0, 1, 2, 3, 4, 5, 6, 10, 11, 12, 13, 20, 21, 22, 23};

    private final Page page = new Page();
    private final Choir choir;
    private final Choir keptChoir;
    /** What would be is tried on this one, so that the calls that only ask change nothing. */
    private final Choir trial;
    private final Hearsay hearsay = new Hearsay();
    private final Hearsay keptHearsay = new Hearsay();
    private final int[] pouring = new int[MOST_SINGERS];
    private final int[] poured = new int[MOST_SINGERS];
    private boolean imageKept;
    private int townsRead;
    private int needsDone;

    public WorstVoice() {
        Voices voices = new Voices();
        choir = new Choir(voices);
        keptChoir = new Choir(voices);
        trial = new Choir(voices);
    }

    // ---- the town

    public int letter(int code) {
        if (code < 1 || code > 126) {
            return OUTSIDE;
        }
        return page.write(code) ? page.length : FULL;
    }

    public int blank() {
        return page.wipe();
    }

    public int fault() {
        return page.firstWrong();
    }

    public int town() {
        if (!page.isWhole()) {
            return STATE;
        }
        choir.readFrom(page);
        hearsay.clear();
        imageKept = false;
        townsRead++;
        page.wipe();
        return choir.singers;
    }

    public int singer(int singer, int what) {
        if (!choir.hasSinger(singer)) {
            return UNKNOWN;
        }
        switch (what) {
            case 0: return choir.voice(singer).number();
            case 1: return choir.votes(singer);
            case 2: return choir.coldOf(singer);
            case 3: return choir.leftOf(singer);
            case 4: return choir.honeyOf(singer);
            case 5: return worstAndVotes(singer) % PLACES;
            case 6: return worstAndVotes(singer) / PLACES;
            default: return singersFault(singer, what);
        }
    }

    public int as(int singer, int kind) {
        if (!choir.hasSinger(singer)) {
            return UNKNOWN;
        }
        if (kind < 0 || kind >= KINDS) {
            return OUTSIDE;
        }
        return isOfKind(choir.voice(singer), kind) ? singer : NONE;
    }

    public int widow(int widow, int what) {
        if (!choir.hasWidow(widow)) {
            return UNKNOWN;
        }
        switch (what) {
            case 0: return choir.minds(widow);
            case 1: return choir.favourite(widow);
            case 2: return choir.bad(choir.favourite(widow), choir.minds(widow));
            case 3: return canMind(widow);
            case 4: return bestAsk(widow);
            default: return OUTSIDE;
        }
    }

    public int wince(int widow, int singer) {
        if (!choir.hasWidow(widow) || !choir.hasSinger(singer)) {
            return UNKNOWN;
        }
        return choir.bad(singer, choir.minds(widow));
    }

    // ---- colds, aisles, honey, weeks

    public int cold(int singer, boolean is) {
        if (!choir.hasSinger(singer)) {
            return UNKNOWN;
        }
        int had = choir.coldOf(singer);
        choir.setCold(singer, is);
        return had;
    }

    public int aisle(int singer, boolean left) {
        if (!choir.hasSinger(singer)) {
            return UNKNOWN;
        }
        int was = choir.leftOf(singer);
        choir.setLeft(singer, left);
        return was;
    }

    public int honey(int singer, int honey) {
        if (!choir.hasSinger(singer)) {
            return UNKNOWN;
        }
        if (honey < 0 || honey > MOST_HONEY) {
            return OUTSIDE;
        }
        int had = choir.honeyOf(singer);
        choir.setHoney(singer, honey);
        return had;
    }

    public int practise(int singer) {
        if (!choir.hasSinger(singer)) {
            return UNKNOWN;
        }
        return choir.practiseWeek(singer);
    }

    public int mayor() {
        return choir.isEmpty() ? STATE : choir.elected();
    }

    // ---- what would be

    public int need(int singer, int what) {
        if (!choir.hasSinger(singer)) {
            return UNKNOWN;
        }
        boolean asksEach = what >= WHAT_EACH && what < WHAT_EACH + MOST_SINGERS;
        if (what != 0 && !asksEach) {
            return OUTSIDE;
        }
        if (needsDone >= MOST_NEEDS) {
            return STATE;
        }
        needsDone++;
        int least = pourLeast(singer);
        if (least == NONE || !asksEach) {
            return least;
        }
        int one = what - WHAT_EACH;
        return choir.hasSinger(one) ? poured[one] : NONE;
    }

    // ---- what is heard

    public int hear(int widow, int a, int b, boolean more) {
        if (!choir.hasWidow(widow) || !choir.hasSinger(a) || !choir.hasSinger(b) || a == b) {
            return UNKNOWN;
        }
        return hearsay.add(widow, a, b, more) ? hearsay.size : FULL;
    }

    public int forget() {
        return hearsay.clear();
    }

    public int years(int times, int seed, int what) {
        if (times < 1 || times > MOST_TIMES || seed < 0 || what < 0 || what >= YEARS_WHATS) {
            return OUTSIDE;
        }
        if (choir.isEmpty()) {
            return STATE;
        }
        trial.takeFrom(choir);
        int next = seed;
        int often = 0;
        int last = NONE;
        for (int year = 0; year < times; year++) {
            next = nextSeed(next);
            trial.practiseWeek(drawn(next, choir.singers));
            next = nextSeed(next);
            int chilled = drawn(next, choir.singers);
            trial.setCold(chilled, trial.coldOf(chilled) == 0);
            last = trial.elected();
            often += last == 0 ? 1 : 0;
        }
        switch (what) {
            case 0: return often;
            case 1: return last;
            default: return next;
        }
    }

    // ---- what is told of all

    public int image() {
        if (choir.isEmpty()) {
            return STATE;
        }
        keptChoir.takeFrom(choir);
        keptHearsay.takeFrom(hearsay);
        imageKept = true;
        return choir.weeks;
    }

    public int restore() {
        if (!imageKept) {
            return STATE;
        }
        choir.takeFrom(keptChoir);
        hearsay.takeFrom(keptHearsay);
        return choir.weeks;
    }

    public int count(int what) {
        switch (what) {
            case 0: return choir.singers;
            case 1: return choir.widows;
            case 2: return choir.coldsOfAll();
            case 3: return choir.honeyOfAll();
            case 4: return choir.weeks;
            case 5: return hearsay.size;
            case 6: return page.length;
            case 7: return townsRead;
            case 8: return needsDone;
            default: return OUTSIDE;
        }
    }

    public long digest() {
        long h = 947L;
        for (int one = 0; one < choir.singers; one++) {
            for (int what : SINGER_WHATS) {
                h = mix(h, singer(one, what));
            }
        }
        for (int one = 0; one < choir.widows; one++) {
            for (int what = 0; what < WIDOW_WHATS; what++) {
                h = mix(h, widow(one, what));
            }
            for (int other = 0; other < choir.singers; other++) {
                h = mix(h, wince(one, other));
            }
        }
        if (!choir.isEmpty()) {
            h = mix(h, mayor());
        }
        for (int place = 0; place < page.length; place++) {
            h = mix(h, page.codeAt(place));
        }
        for (int what = 0; what < COUNT_WHATS; what++) {
            h = mix(h, count(what));
        }
        return h;
    }

    private static long mix(long h, long number) {
        return 31L * h + number;
    }

    private int singersFault(int singer, int what) {
        if (what >= WHAT_FAULT && what < WHAT_FAULT + FAULTS) {
            return choir.faultOf(singer, what - WHAT_FAULT);
        }
        if (what >= WHAT_BAD && what < WHAT_BAD + FAULTS) {
            return choir.bad(singer, what - WHAT_BAD);
        }
        return OUTSIDE;
    }

    private static boolean isOfKind(Singer voice, int kind) {
        switch (kind) {
            case SINGER: return true;
            case TENOR: return voice instanceof Tenor;
            case BOY: return voice instanceof Boy;
            case DEAF: return voice instanceof Deaf;
            case CHORISTER: return voice instanceof Chorister;
            default: return false;
        }
    }

    /** WORST of one, and PLACES times how many are FOR him by that: both come of the same search. */
    private int worstAndVotes(int singer) {
        trial.takeFrom(choir);
        int worst = 0;
        int most = NONE;
        for (int place = 0; place < PLACES; place++) {
            trial.setCold(singer, (place & PLACE_COLD) != 0);
            trial.setLeft(singer, (place & PLACE_LEFT) != 0);
            int votes = trial.votes(singer);
            if (votes > most) {
                most = votes;
                worst = place;
            }
        }
        return PLACES * most + worst;
    }

    /** HONEY for one: how little, or NONE; how much each has is in poured then. */
    private int pourLeast(int singer) {
        trial.takeFrom(choir);
        int mixtures = 1;
        for (int others = 1; others < choir.singers; others++) {
            mixtures *= MOST_HONEY + 1;
        }
        int least = NONE;
        // A mixture's digits are what the others get, the first of them in front: of like sums the first found is due.
        for (int mixture = 0; mixture < mixtures; mixture++) {
            int sum = pour(singer, mixture);
            boolean isLess = sum != NONE && (least == NONE || sum < least);
            if (isLess && trial.elected() == singer) {
                least = sum;
                copyRow(pouring, poured);
            }
        }
        return least;
    }

    /** Gives the others more HONEY by a mixture's digits: how much in all, or NONE if it is too much for one. */
    private int pour(int singer, int mixture) {
        int rest = mixture;
        int sum = 0;
        boolean isTooMuch = false;
        for (int one = MOST_SINGERS - 1; one >= 0; one--) {
            pouring[one] = 0;
            if (one != singer && choir.hasSinger(one)) {
                pouring[one] = rest % (MOST_HONEY + 1);
                rest /= MOST_HONEY + 1;
                sum += pouring[one];
                int honey = choir.honeyOf(one) + pouring[one];
                if (honey > MOST_HONEY) {
                    isTooMuch = true;
                }
                trial.setHoney(one, honey);
            }
        }
        return isTooMuch ? NONE : sum;
    }

    /** MINDS of a WIDOW, as bits. */
    private int canMind(int widow) {
        int bits = 0;
        for (int fault = 0; fault < FAULTS; fault++) {
            if (hearsay.wouldBeSo(choir, widow, fault)) {
                bits |= 1 << fault;
            }
        }
        return bits;
    }

    /** ASK for a WIDOW; there is none for one who can MIND nothing, for then nothing can be left. */
    private int bestAsk(int widow) {
        int minds = canMind(widow);
        if (minds == 0) {
            return NONE;
        }
        int best = NONE;
        int fewest = FAULTS + 1;
        for (int a = 0; a < choir.singers; a++) {
            for (int b = 0; b < choir.singers; b++) {
                int left = a == b ? FAULTS + 1 : leftAtWorst(minds, a, b);
                if (left < fewest) {
                    fewest = left;
                    best = MOST_SINGERS * a + b;
                }
            }
        }
        return best;
    }

    private int leftAtWorst(int minds, int a, int b) {
        int more = 0;
        for (int fault = 0; fault < FAULTS; fault++) {
            if (choir.bad(a, fault) > choir.bad(b, fault)) {
                more |= 1 << fault;
            }
        }
        return Math.max(Integer.bitCount(minds & more), Integer.bitCount(minds & ~more));
    }

    private static void copyRow(int[] from, int[] to) {
        System.arraycopy(from, 0, to, 0, Math.min(from.length, to.length));
    }

    private static int nextSeed(int seed) {
        return (int) ((1103515245L * seed + 12345L) & 0x7fffffffL);
    }

    private static int drawn(int seed, int ways) {
        return ways < 1 ? 0 : (seed / 65536) % ways;
    }

    /** A voice of the KIND SINGER; the other KINDS differ from it in what they override. */
    private static class Singer {
        int number() {
            return SINGER;
        }

        /** How BAD one is by his voice alone, whose FAULT is so great. */
        int plainBad(int fault, int great) {
            return great;
        }

        /** How great a FAULT is after a WEEK of practice. */
        int practised(int great) {
            return great > 0 ? great - 1 : 0;
        }
    }

    private static class Tenor extends Singer {
        int number() {
            return TENOR;
        }

        int plainBad(int fault, int great) {
            return fault == PITCH ? great / 2 : great;
        }
    }

    private static final class Boy extends Singer {
        int number() {
            return BOY;
        }

        int plainBad(int fault, int great) {
            return fault == FEELING ? 2 * great : great;
        }

        int practised(int great) {
            return great < MOST_FAULT ? great + 1 : MOST_FAULT;
        }
    }

    private static final class Deaf extends Singer {
        int number() {
            return DEAF;
        }

        int plainBad(int fault, int great) {
            return fault == PITCH ? MOST_FAULT : great;
        }
    }

    private static final class Chorister extends Tenor {
        int number() {
            return CHORISTER;
        }

        int plainBad(int fault, int great) {
            return fault == PITCH || fault == BREATH ? great / 2 : great;
        }
    }

    /** One voice of each KIND: they hold nothing, so all who sing alike share one. */
    private static final class Voices {
        private final Singer plain = new Singer();
        private final Tenor tenor = new Tenor();
        private final Boy boy = new Boy();
        private final Deaf deaf = new Deaf();
        private final Chorister chorister = new Chorister();

        Singer ofKind(int kind) {
            switch (kind) {
                case TENOR: return tenor;
                case BOY: return boy;
                case DEAF: return deaf;
                case CHORISTER: return chorister;
                default: return plain;
            }
        }
    }

    /** THE PAGE: letters, one behind the other, and whether they tell a TOWN. */
    private static final class Page {
        private final int[] codes = new int[MOST_LETTERS];
        private int length;

        boolean write(int code) {
            if (length < 0 || length >= codes.length) {
                return false;
            }
            codes[length] = code;
            length++;
            return true;
        }

        int wipe() {
            int had = length;
            length = 0;
            return had;
        }

        int codeAt(int place) {
            return place >= 0 && place < length && place < codes.length ? codes[place] : 0;
        }

        int digitAt(int place) {
            return codeAt(place) - '0';
        }

        int kindAt(int place) {
            return kindOf(codeAt(place));
        }

        /** The place of the first letter that no TOWN has there; the length, if there is none. */
        int firstWrong() {
            int end = NONE;
            for (int place = 0; place < length; place++) {
                int code = codeAt(place);
                boolean isRight = end == NONE ? fitsSingers(code, place) : fitsWidows(code, place - end);
                if (!isRight) {
                    return place;
                }
                if (code == ';') {
                    end = place;
                }
            }
            return length;
        }

        boolean isWhole() {
            return firstWrong() == length && singersEnd() < length - 1;
        }

        /** The place of the first ";"; the length, if there is none. */
        int singersEnd() {
            for (int place = 0; place < length; place++) {
                if (codeAt(place) == ';') {
                    return place;
                }
            }
            return length;
        }

        private static boolean fitsSingers(int code, int place) {
            int before = place / SINGER_STEP;
            int within = place % SINGER_STEP;
            if (within == 0) {
                return kindOf(code) != NONE;
            }
            if (within < SINGER_STEP - 1) {
                return code >= '0' && code <= '9';
            }
            return code == ',' && before + 1 < MOST_SINGERS || code == ';' && before + 1 >= FEWEST_SINGERS;
        }

        private static boolean fitsWidows(int code, int behindEnd) {
            return behindEnd <= MOST_WIDOWS && code >= '0' && code < '0' + FAULTS;
        }

        private static int kindOf(int code) {
            return KIND_LETTERS.indexOf((char) code);
        }
    }

    /** THE TOWN, as it is now or as it would be: who sings how, and what each WIDOW MINDS. */
    private static final class Choir {
        private final Voices voices;
        private final int[] kinds = new int[MOST_SINGERS];
        private final int[] faults = new int[MOST_SINGERS * FAULTS];
        private final int[] colds = new int[MOST_SINGERS];
        private final int[] lefts = new int[MOST_SINGERS];
        private final int[] honeys = new int[MOST_SINGERS];
        private final int[] minded = new int[MOST_WIDOWS];
        private int singers;
        private int widows;
        private int weeks;

        Choir(Voices voices) {
            this.voices = voices;
        }

        /** A page that is whole is read; all is as at first then. */
        void readFrom(Page page) {
            int end = page.singersEnd();
            singers = Math.min(MOST_SINGERS, (end + 1) / SINGER_STEP);
            widows = Math.max(0, Math.min(MOST_WIDOWS, page.length - end - 1));
            weeks = 0;
            for (int one = 0; one < singers; one++) {
                readSinger(page, one);
            }
            for (int one = 0; one < widows; one++) {
                minded[one] = page.digitAt(end + 1 + one);
            }
        }

        private void readSinger(Page page, int one) {
            if (!hasSinger(one)) {
                return;
            }
            int place = SINGER_STEP * one;
            kinds[one] = page.kindAt(place);
            for (int fault = 0; fault < FAULTS; fault++) {
                faults[FAULTS * one + fault] = page.digitAt(place + 1 + fault);
            }
            colds[one] = 0;
            lefts[one] = 0;
            honeys[one] = 0;
        }

        void takeFrom(Choir other) {
            copyRow(other.kinds, kinds);
            copyRow(other.faults, faults);
            copyRow(other.colds, colds);
            copyRow(other.lefts, lefts);
            copyRow(other.honeys, honeys);
            copyRow(other.minded, minded);
            singers = other.singers;
            widows = other.widows;
            weeks = other.weeks;
        }

        boolean isEmpty() {
            return singers == 0;
        }

        boolean hasSinger(int one) {
            return one >= 0 && one < singers && one < MOST_SINGERS;
        }

        boolean hasWidow(int one) {
            return one >= 0 && one < widows && one < MOST_WIDOWS;
        }

        Singer voice(int one) {
            return voices.ofKind(hasSinger(one) ? kinds[one] : SINGER);
        }

        int coldOf(int one) {
            return hasSinger(one) ? colds[one] : 0;
        }

        int leftOf(int one) {
            return hasSinger(one) ? lefts[one] : 0;
        }

        int honeyOf(int one) {
            return hasSinger(one) ? honeys[one] : 0;
        }

        int faultOf(int one, int fault) {
            return hasSinger(one) && isFault(fault) ? faults[FAULTS * one + fault] : 0;
        }

        int minds(int widow) {
            return hasWidow(widow) ? minded[widow] : NONE;
        }

        void setCold(int one, boolean is) {
            if (hasSinger(one)) {
                colds[one] = is ? 1 : 0;
            }
        }

        void setLeft(int one, boolean is) {
            if (hasSinger(one)) {
                lefts[one] = is ? 1 : 0;
            }
        }

        void setHoney(int one, int much) {
            if (hasSinger(one)) {
                honeys[one] = much;
            }
        }

        /** A WEEK of practice: how much all FAULTS are together then. */
        int practiseWeek(int one) {
            if (!hasSinger(one)) {
                return 0;
            }
            Singer voice = voice(one);
            int sum = 0;
            for (int at = FAULTS * one; at < FAULTS * one + FAULTS; at++) {
                faults[at] = voice.practised(faults[at]);
                sum += faults[at];
            }
            weeks++;
            return sum;
        }

        /** How BAD one is in a FAULT. */
        int bad(int one, int fault) {
            if (!hasSinger(one) || !isFault(fault)) {
                return 0;
            }
            int bad = voices.ofKind(kinds[one]).plainBad(fault, faults[FAULTS * one + fault]);
            if (fault == PITCH || fault == BREATH) {
                bad += WORSE_BY_COLD * colds[one];
            }
            return Math.max(0, bad - LESS_BY_ECHO * lefts[one] - honeys[one]);
        }

        /** Whom a WIDOW is FOR. */
        int favourite(int widow) {
            int fault = minds(widow);
            int worst = 0;
            for (int one = 1; one < singers; one++) {
                if (bad(one, fault) > bad(worst, fault)) {
                    worst = one;
                }
            }
            return worst;
        }

        /** How many WIDOWS are FOR one. */
        int votes(int one) {
            int votes = 0;
            for (int widow = 0; widow < widows; widow++) {
                votes += favourite(widow) == one ? 1 : 0;
            }
            return votes;
        }

        /** MAYOR. */
        int elected() {
            int best = 0;
            for (int one = 1; one < singers; one++) {
                if (votes(one) > votes(best)) {
                    best = one;
                }
            }
            return best;
        }

        int coldsOfAll() {
            int sum = 0;
            for (int one = 0; one < singers; one++) {
                sum += coldOf(one);
            }
            return sum;
        }

        int honeyOfAll() {
            int sum = 0;
            for (int one = 0; one < singers; one++) {
                sum += honeyOf(one);
            }
            return sum;
        }

        private static boolean isFault(int fault) {
            return fault >= 0 && fault < FAULTS;
        }
    }

    /** What is HEARD: that a WIDOW WINCED more at the first than at the second, or not more. */
    private static final class Hearsay {
        private final int[] widows = new int[MOST_HEARD];
        private final int[] firsts = new int[MOST_HEARD];
        private final int[] seconds = new int[MOST_HEARD];
        private final int[] mores = new int[MOST_HEARD];
        private int size;

        boolean add(int widow, int first, int second, boolean more) {
            if (size < 0 || size >= MOST_HEARD) {
                return false;
            }
            widows[size] = widow;
            firsts[size] = first;
            seconds[size] = second;
            mores[size] = more ? 1 : 0;
            size++;
            return true;
        }

        int clear() {
            int had = size;
            size = 0;
            return had;
        }

        void takeFrom(Hearsay other) {
            copyRow(other.widows, widows);
            copyRow(other.firsts, firsts);
            copyRow(other.seconds, seconds);
            copyRow(other.mores, mores);
            size = other.size;
        }

        /** Whether all that is HEARD of a WIDOW would be so, if she MINDED that FAULT. */
        boolean wouldBeSo(Choir choir, int widow, int fault) {
            for (int at = 0; at < size && at < MOST_HEARD; at++) {
                int more = choir.bad(firsts[at], fault) > choir.bad(seconds[at], fault) ? 1 : 0;
                if (widows[at] == widow && mores[at] != more) {
                    return false;
                }
            }
            return true;
        }
    }
}
