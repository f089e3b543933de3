/**
 * He may not pause: a poet says verses that a god understands and writes,
 * and makes the next ones meanwhile. The document's promises are told at
 * each method by their numbers.
 */
public final class MayNotPause {
    public static final int NONE = -1, BAD = -2, NOT = -3, FULL = -4;

    private static final int VERSE_BYTES = 59, HARD_BYTES = 19;
    private static final int MOST_VERSES = 12, MOST_PUT = 2;
    private static final int LAST_BREATH = 299;

    private static final int LEAD = 0, WEAR = 1, CHANGE = 2, PENS = 3, LAW = 4, FILLERS = 5;
    private static final int SETTINGS = 6, RULES = 5;
    private static final int[] LEAST_SETTING = {0, 1, 0, 0, 0, 0};
    private static final int[] MOST_SETTING = {99, 99, 9, 9, 1, 4095};

    private static final int CHORUS = 1, LIST = 2, RIDDLE = 3;
    private static final int MAKE = 0, SAY = 1, KNOT = 2;

    private static final int MOST_LEAD = 99, MOST_LEADS = 30;
    private static final int MOST_LINE = 10;
    private static final int SURELY_SOLVED = 5, SIXTEEN = 16;

    private static final int SHEETS = 4, FORMS = 3, MOST_ITEMS = 60;
    private static final int NULL = 1, INDEX = 2, CAST = 3, STORE = 4, SIZE = 5;

    // A number's least value stands for a refusal where every other value may be an answer.
    private static final int LEAST_INT = 1 << 31;
    private static final long LEAST_LONG = 1L << 63;

    private final int[] settings = {0, 99, 0, 9, 0, 0};
    private final Script verses = new Script(VERSE_BYTES);
    private final Script hards = new Script(HARD_BYTES);
    private final Telling told = new Telling(MOST_VERSES);
    // Searches tell other poems, so that the one of VERSES stays told.
    private final Telling trial = new Telling(MOST_VERSES + MOST_PUT);
    private final PutSearch putSearch = new PutSearch(trial, verses, hards, settings);
    private final OrderSearch orderSearch = new OrderSearch(trial, verses, settings);
    private final Sightings sightings = new Sightings();
    private final Sheet[] sheets = new Sheet[SHEETS];
    private boolean putIsFound, orderIsFound;
    private int latestFinding;

    /** Promise 1. */
    public MayNotPause() {
        for (int s = 0; s < SHEETS; s++) {
            sheets[s] = new Sheet();
        }
    }

    // ---- verses

    /** Promise 2. */
    public int type(int text, int b) {
        if (!isText(text) || b < 0 || b > 255) {
            return BAD;
        }
        Script script = scriptOf(text);
        if (script.isFull()) {
            return FULL;
        }
        script.append(b);
        tellAnew();
        return script.length;
    }

    /** Promise 3. */
    public int wipe(int text) {
        if (!isText(text)) {
            return BAD;
        }
        Script script = scriptOf(text);
        int had = script.length;
        script.shorten(0);
        tellAnew();
        return had;
    }

    /** Promise 4. */
    public int undo(int text) {
        if (!isText(text)) {
            return BAD;
        }
        Script script = scriptOf(text);
        if (script.size == 0) {
            return NOT;
        }
        script.dropLastVerse();
        tellAnew();
        return script.size;
    }

    /** Promise 5. */
    public int fault(int text) {
        return isText(text) ? scriptOf(text).flaw : BAD;
    }

    /** Promise 6. */
    public int set(int what, int v) {
        if (what < 0 || what >= SETTINGS) {
            return BAD;
        }
        if (v < LEAST_SETTING[what] || v > MOST_SETTING[what]) {
            return BAD;
        }
        int was = settings[what];
        settings[what] = v;
        tellAnew();
        return was;
    }

    /** Promise 7. */
    public int verse(int verse, int what) {
        if (!isVerse(verse)) {
            return BAD;
        }
        Turn turn = told.turnAt(verse);
        switch (what) {
            case 0: return verses.figure(verse, MAKE);
            case 1: return verses.figure(verse, SAY);
            case 2: return verses.figure(verse, KNOT);
            case 3: return turn.kind;
            case 4: return turn.make;
            case 5: return turn.knot;
            default: return BAD;
        }
    }

    // ---- breaths

    /** Promise 8. */
    public int when(int verse, int what) {
        if (!isVerse(verse)) {
            return BAD;
        }
        Turn turn = told.turnAt(verse);
        switch (what) {
            case 0: return turn.begins;
            case 1: return turn.said;
            case 2: return turn.understood;
            case 3: return turn.written;
            case 4: return turn.pause;
            default: return BAD;
        }
    }

    /** Promise 9. */
    public int poem(int what) {
        switch (what) {
            case 0: return told.howManyWritten();
            case 1: return told.lastWritten();
            case 2: return told.last().allPauses;
            case 3: return told.last().pensTaken;
            default: return BAD;
        }
    }

    /** Promise 10. */
    public int judged() {
        for (int v = 0; v < verses.size; v++) {
            Turn turn = told.turnAt(v);
            if (turn.written == NONE || turn.pause > 0) {
                return v;
            }
        }
        return NONE;
    }

    /** Promise 11. */
    public int rest(int verse) {
        if (!isVerse(verse)) {
            return BAD;
        }
        Turn turn = told.turnAt(verse);
        return turn.begins == NONE ? NOT : turn.spare;
    }

    /** Promise 12. */
    public int doing(int breath, int what) {
        if (breath < 0 || breath > LAST_BREATH) {
            return BAD;
        }
        switch (what) {
            case 0: return told.saidIn(breath);
            case 1: return told.madeIn(breath);
            case 2: return told.inHandIn(breath);
            default: return BAD;
        }
    }

    // ---- so that he never pauses

    /** Promise 13. */
    public int put(int what) {
        if (what < 0 || what >= PutSearch.ANSWERS) {
            return BAD;
        }
        if (!putIsFound) {
            putSearch.seek();
            putIsFound = true;
        }
        return putSearch.best[what];
    }

    /** Promise 14. */
    public int order(int i) {
        if (i < -2 || i >= OrderSearch.MOST) {
            return BAD;
        }
        if (!orderIsFound) {
            orderSearch.seek();
            orderIsFound = true;
        }
        if (i == -2) {
            return orderSearch.leastPauses;
        }
        return i == NONE ? orderSearch.leastLong : orderSearch.best[i];
    }

    /** Promise 15. */
    public int lead() {
        for (int l = 0; l <= MOST_LEAD; l++) {
            trial.open(settings);
            trial.changeLead(l);
            trial.addAll(verses);
            if (trial.isWholeWithoutPause()) {
                return l;
            }
        }
        return NONE;
    }

    // ---- odds, fillers

    /** Promise 16. */
    public long odds(int what) {
        if (what < 0 || what > 3) {
            return LEAST_LONG - BAD;
        }
        long whole = 1, mean = 0, below = 1;
        for (int v = 0; v < verses.size; v++) {
            whole *= SIXTEEN - sixteenths(v);
            below *= SIXTEEN;
            mean = mean * SIXTEEN + whole;
        }
        long above = what < 2 ? whole : mean;
        // What is below is a power of 2, so only twos can be common to both.
        for (int k = 0; k < 64 && above % 2 == 0 && below % 2 == 0; k++) {
            above /= 2;
            below /= 2;
        }
        return what % 2 == 0 ? above : below;
    }

    /** Promise 17. */
    public int drawn(int seed) {
        int drawnSeed = seed;
        for (int v = 0; v < verses.size; v++) {
            int halting = sixteenths(v);
            if (halting > 0) {
                drawnSeed = 1103515245 * drawnSeed + 12345;
                if ((drawnSeed >>> 16) % SIXTEEN < halting) {
                    return v;
                }
            }
        }
        return verses.size;
    }

    /** Promise 18. */
    public int line(int h, int what) {
        if (h < NONE || h > MOST_LINE || what < 0 || what > 1) {
            return BAD;
        }
        if (h != NONE) {
            return errorsBy(h, what);
        }
        int best = bestLine();
        return what == 0 ? best : errorsBy(best, 0) + errorsBy(best, 1);
    }

    // ---- seen

    /** Promise 19. */
    public int seen(int breath, int verse) {
        if (!Sightings.mayBe(breath, verse)) {
            return BAD;
        }
        if (sightings.isFull()) {
            return FULL;
        }
        sightings.add(breath, verse);
        return sightings.size;
    }

    /** Promise 20. */
    public int forget() {
        int had = sightings.size;
        sightings.size = 0;
        return had;
    }

    /** Promise 21. */
    public int leads() {
        int bits = 0;
        for (int l = 0; l <= MOST_LEADS; l++) {
            trial.open(settings);
            trial.changeLead(l);
            trial.addAll(verses);
            if (sightings.fit(trial)) {
                bits |= 1 << l;
            }
        }
        return bits;
    }

    /** Promise 22. */
    public int read(int s) {
        if (!isSheet(s)) {
            return BAD;
        }
        Sheet from = sheets[s];
        if (from.lost) {
            return found(NULL);
        }
        int came = 0;
        for (int i = 0; i + 1 < from.size; i += 2) {
            int breath = from.item(i), verse = from.item(i + 1);
            if (!Sightings.mayBe(breath, verse) || sightings.isFull()) {
                break;
            }
            sightings.add(breath, verse);
            came++;
        }
        return came;
    }

    // ---- sheets

    /** Promise 23. */
    public int sheet(int s, int form, int n) {
        if (!isSheet(s) || !isForm(form) || n > MOST_ITEMS) {
            return BAD;
        }
        if (n < 0) {
            return found(SIZE);
        }
        sheets[s].renew(form, n);
        return n;
    }

    /** Promise 24. */
    public int lose(int s) {
        if (!isSheet(s)) {
            return BAD;
        }
        if (sheets[s].lost) {
            return found(NULL);
        }
        sheets[s].lost = true;
        return sheets[s].size;
    }

    /** Promise 25. */
    public int lay(int s, int form, int i, int v) {
        if (!isSheet(s) || !isForm(form)) {
            return BAD;
        }
        int finding = findingAt(sheets[s], form, i);
        if (finding != 0) {
            return found(finding);
        }
        sheets[s].store(i, v);
        return 1;
    }

    /** Promise 26. */
    public int get(int s, int form, int i) {
        if (!isSheet(s) || !isForm(form)) {
            return LEAST_INT;
        }
        int finding = findingAt(sheets[s], form, i);
        if (finding != 0) {
            latestFinding = finding;
            return LEAST_INT;
        }
        return sheets[s].item(i);
    }

    /** Promise 27. */
    public int copy(int s, int i, int t, int j, int n) {
        if (!isSheet(s) || !isSheet(t)) {
            return BAD;
        }
        Sheet from = sheets[s], to = sheets[t];
        if (from.lost || to.lost) {
            return found(NULL);
        }
        if (from.form != to.form) {
            return found(STORE);
        }
        if (!from.hasSpan(i, n) || !to.hasSpan(j, n)) {
            return found(INDEX);
        }
        // arraycopy takes the items as they were, even where the spans overlap.
        System.arraycopy(from.items, i, to.items, j, n);
        return 1;
    }

    /** Promise 28. */
    public int write(int s) {
        if (!isSheet(s)) {
            return BAD;
        }
        Sheet to = sheets[s];
        if (to.lost) {
            return found(NULL);
        }
        int n = Math.min(to.size, verses.size);
        for (int v = 0; v < n; v++) {
            to.store(v, told.turnAt(v).begins);
        }
        return n;
    }

    /** Promise 29. */
    public int count(int what) {
        switch (what) {
            case 0: return verses.size;
            case 1: return hards.size;
            case 2: return verses.length;
            case 3: return hards.length;
            case 4: return sightings.size;
            case 5: return told.last().needed;
            case 6: return settings[LEAD];
            case 7: return Integer.bitCount(settings[FILLERS] & ((1 << verses.size) - 1));
            case 8: return latestFinding;
            default: return BAD;
        }
    }

    /** Promise 30. */
    public long digest() {
        long h = 17;
        for (int what = 0; what <= 7; what++) {
            h = 31 * h + count(what);
        }
        h = 31 * h + fault(0);
        h = 31 * h + fault(1);
        for (int v = 0; v < verses.size; v++) {
            h = digestOfVerse(h, v);
        }
        h = digestOfBreaths(h);
        for (int what = 0; what <= 5; what++) {
            h = 31 * h + put(what);
        }
        for (int i = -2; i <= 2; i++) {
            h = 31 * h + order(i);
        }
        h = 31 * h + lead();
        for (int what = 0; what <= 3; what++) {
            h = 31 * h + odds(what);
        }
        h = 31 * h + drawn(7);
        h = 31 * h + line(NONE, 0);
        h = 31 * h + line(NONE, 1);
        h = 31 * h + line(5, 0);
        h = 31 * h + line(5, 1);
        return 31 * h + leads();
    }

    private long digestOfVerse(long start, int v) {
        long h = start;
        for (int what = 0; what <= 5; what++) {
            h = 31 * h + verse(v, what);
        }
        for (int what = 0; what <= 4; what++) {
            h = 31 * h + when(v, what);
        }
        return 31 * h + rest(v);
    }

    private long digestOfBreaths(long start) {
        long h = start;
        for (int what = 0; what <= 3; what++) {
            h = 31 * h + poem(what);
        }
        h = 31 * h + judged();
        for (int breath = 0; breath <= 9; breath++) {
            for (int what = 0; what <= 2; what++) {
                h = 31 * h + doing(breath, what);
            }
        }
        return h;
    }

    private static boolean isText(int text) {
        return text == 0 || text == 1;
    }

    private Script scriptOf(int text) {
        return text == 0 ? verses : hards;
    }

    private boolean isVerse(int verse) {
        return verse >= 0 && verse < verses.size;
    }

    private static boolean isSheet(int s) {
        return s >= 0 && s < SHEETS;
    }

    private static boolean isForm(int form) {
        return form >= 0 && form < FORMS;
    }

    // All results hang on the texts and settings alone, so they are kept till one of these changes.
    private void tellAnew() {
        told.open(settings);
        told.addAll(verses);
        putIsFound = false;
        orderIsFound = false;
    }

    // By how many sixteenths a verse is never solved.
    private int sixteenths(int verse) {
        return Math.max(0, told.turnAt(verse).knot - SURELY_SOLVED);
    }

    // what = 0: called a filler wrongly; 1: not called one wrongly.
    private int errorsBy(int h, int what) {
        int errors = 0;
        for (int v = 0; v < verses.size; v++) {
            boolean called = verses.figure(v, KNOT) >= h;
            boolean filler = (settings[FILLERS] >> v & 1) == 1;
            if (called != filler && called == (what == 0)) {
                errors++;
            }
        }
        return errors;
    }

    private int bestLine() {
        int best = 0, fewest = MOST_VERSES + 1;
        for (int h = 0; h <= MOST_LINE; h++) {
            int errors = errorsBy(h, 0) + errorsBy(h, 1);
            if (errors < fewest) {
                best = h;
                fewest = errors;
            }
        }
        return best;
    }

    private int found(int finding) {
        latestFinding = finding;
        return -10 - finding;
    }

    // 0: an item can be treated as one of the form.
    private static int findingAt(Sheet sheet, int form, int i) {
        if (sheet.lost) {
            return NULL;
        }
        if (sheet.form != form) {
            return CAST;
        }
        return sheet.hasItem(i) ? 0 : INDEX;
    }

    /** A text of verses: four bytes each, with ; between them. */
    private static final class Script {
        static final int STEP = 5;

        final int[] bytes;
        int length;
        int flaw = NONE;
        int size;

        Script(int most) {
            bytes = new int[most];
        }

        boolean isFull() {
            return length >= bytes.length;
        }

        void append(int b) {
            if (!isFull()) {
                bytes[length] = b;
                length++;
                settle();
            }
        }

        void shorten(int to) {
            if (to >= 0 && to <= length) {
                length = to;
                settle();
            }
        }

        void dropLastVerse() {
            shorten(size > 1 ? STEP * (size - 1) - 1 : 0);
        }

        private void settle() {
            flaw = firstFlaw();
            size = flaw == NONE ? (length + 1) / STEP : 0;
        }

        // There is no room for a verse too many, so that one needs no look.
        private int firstFlaw() {
            for (int i = 0; i < length; i++) {
                if (!fits(bytes[i], i % STEP)) {
                    return i;
                }
            }
            return length == 0 || length % STEP == STEP - 1 ? NONE : length;
        }

        private static boolean fits(int b, int place) {
            switch (place) {
                case 0: return kindBy(b) != NONE;
                case 2: return b >= '1' && b <= '9';
                case 4: return b == ';';
                default: return b >= '0' && b <= '9';
            }
        }

        private static int kindBy(int b) {
            switch (b) {
                case 'p': return 0;
                case 'c': return CHORUS;
                case 'l': return LIST;
                case 'r': return RIDDLE;
                default: return NONE;
            }
        }

        int kindOf(int verse) {
            return verse >= 0 && verse < size ? kindBy(bytes[STEP * verse]) : NONE;
        }

        // which: MAKE, SAY or KNOT, as told.
        int figure(int verse, int which) {
            if (verse < 0 || verse >= size || which < MAKE || which > KNOT) {
                return 0;
            }
            return bytes[STEP * verse + 1 + which] - '0';
        }
    }

    /** A verse in its place in a poem, and what comes of it. */
    private static final class Turn {
        int kind, make, say, knot;
        int begins, said, understood, written, pause;
        // Running sums over the poem up to this verse.
        int needed, allPauses, penUsed, pensTaken;
        // Breaths in which he could make: till the verse is written, and beyond need as it begins.
        int could, spare;

        // As if a verse of no breaths ended ahead of breath 0.
        void beStart(int lead) {
            comeToNothing();
            written = 0;
            could = lead;
        }

        void follow(Turn ahead) {
            comeToNothing();
            needed = ahead.needed + make;
            could = ahead.could;
            allPauses = ahead.allPauses;
            penUsed = ahead.penUsed;
            pensTaken = ahead.pensTaken;
        }

        private void comeToNothing() {
            begins = NONE;
            said = NONE;
            understood = NONE;
            written = NONE;
            pause = NONE;
        }

        // free: the first breath in which nothing else is to be written.
        void beSaid(int free) {
            pause = Math.max(0, needed - could);
            allPauses += pause;
            begins = free + pause;
            could += pause;
            spare = could - needed;
            said = begins + say;
            if (kind == LIST) {
                could += say;
            }
            understood = said + knot;
            could += knot;
        }

        // Without a pen for it the verse stays unwritten.
        void beWritten(int wear, int change, int pens) {
            int writing = kind == RIDDLE ? say + 2 : say;
            int changing = 0;
            if (penUsed > 0 && penUsed + writing > wear) {
                if (pensTaken >= pens) {
                    return;
                }
                pensTaken++;
                penUsed = 0;
                changing = change;
            }
            penUsed += writing;
            written = understood + changing + writing;
            could += changing + writing;
        }
    }

    /** A poem that is told verse by verse, each from what came ahead of it. */
    private static final class Telling {
        final int[] rules = new int[RULES];
        final Turn start = new Turn();
        final Turn[] turns;
        int size;

        Telling(int most) {
            turns = new Turn[most];
            for (int p = 0; p < most; p++) {
                turns[p] = new Turn();
            }
        }

        void open(int[] settings) {
            for (int r = 0; r < RULES && r < settings.length; r++) {
                rules[r] = settings[r];
            }
            size = 0;
            start.beStart(rules[LEAD]);
        }

        void changeLead(int lead) {
            rules[LEAD] = lead;
            start.beStart(lead);
        }

        // PENS never run out with one for each verse.
        void letHimPause() {
            rules[LAW] = 0;
            rules[PENS] = turns.length;
        }

        void addAll(Script from) {
            for (int v = 0; v < from.size; v++) {
                add(from, v);
            }
        }

        void add(Script from, int verse) {
            if (size >= turns.length) {
                return;
            }
            Turn turn = turns[size];
            turn.kind = from.kindOf(verse);
            turn.say = from.figure(verse, SAY);
            int alike = howManyOf(turn.kind);
            boolean again = turn.kind == CHORUS && alike > 0;
            turn.make = again ? 0 : from.figure(verse, MAKE);
            turn.knot = again ? 0 : Math.max(0, from.figure(verse, KNOT) - alike);
            Turn ahead = last();
            turn.follow(ahead);
            size++;
            boolean inTime = turn.needed <= turn.could;
            if (ahead.written != NONE && (inTime || rules[LAW] == 0)) {
                turn.beSaid(ahead.written);
                turn.beWritten(rules[WEAR], rules[CHANGE], rules[PENS]);
            }
        }

        void dropLast() {
            if (size > 0) {
                size--;
            }
        }

        private int howManyOf(int kind) {
            int alike = 0;
            for (int p = 0; p < size; p++) {
                if (turns[p].kind == kind) {
                    alike++;
                }
            }
            return alike;
        }

        Turn turnAt(int p) {
            return p >= 0 && p < size ? turns[p] : start;
        }

        Turn last() {
            return turnAt(size - 1);
        }

        boolean isWholeWithoutPause() {
            return last().written != NONE && last().allPauses == 0;
        }

        // Once a verse is not written, none behind it is.
        int howManyWritten() {
            int p = 0;
            while (p < size && turns[p].written != NONE) {
                p++;
            }
            return p;
        }

        int lastWritten() {
            return turnAt(howManyWritten() - 1).written;
        }

        int saidIn(int breath) {
            for (int p = 0; p < size; p++) {
                if (isSaidIn(turns[p], breath)) {
                    return p;
                }
            }
            return NONE;
        }

        private static boolean isSaidIn(Turn turn, int breath) {
            return turn.begins != NONE && turn.begins <= breath && breath < turn.said;
        }

        int madeIn(int breath) {
            int made = rules[LEAD] + breath;
            for (int p = 0; p < size; p++) {
                Turn turn = turns[p];
                if (turn.kind == LIST || turn.begins == NONE) {
                    continue;
                }
                if (isSaidIn(turn, breath)) {
                    return NONE;
                }
                if (turn.said <= breath) {
                    made -= turn.say;
                }
            }
            for (int p = 0; p < size; p++) {
                if (made < turns[p].needed) {
                    return p;
                }
            }
            return NONE;
        }

        int inHandIn(int breath) {
            for (int p = 0; p < size; p++) {
                Turn turn = turns[p];
                int till = turn.written == NONE ? turn.understood : turn.written;
                if (turn.said != NONE && turn.said <= breath && breath < till) {
                    return p;
                }
            }
            return NONE;
        }
    }

    /** The fewest HARD ones, and where they are put so that he never pauses. */
    private static final class PutSearch {
        static final int ANSWERS = 6;

        final Telling trial;
        final Script verses, hards;
        final int[] settings;
        final int[] best = new int[ANSWERS];

        PutSearch(Telling trial, Script verses, Script hards, int[] settings) {
            this.trial = trial;
            this.verses = verses;
            this.hards = hards;
            this.settings = settings;
        }

        void seek() {
            for (int a = 0; a < ANSWERS; a++) {
                best[a] = NONE;
            }
            attempt(0, NONE, NONE, NONE, NONE);
            if (best[0] == NONE) {
                seekOne();
            }
            if (best[0] == NONE) {
                seekTwo();
            }
        }

        private void seekOne() {
            for (int place = 0; place <= verses.size; place++) {
                for (int hard = 0; hard < hards.size; hard++) {
                    attempt(1, place, hard, NONE, NONE);
                }
            }
        }

        private void seekTwo() {
            int pairs = hards.size * hards.size;
            for (int first = 0; first <= verses.size; first++) {
                for (int second = first; second <= verses.size; second++) {
                    for (int pair = 0; pair < pairs && hards.size > 0; pair++) {
                        attempt(2, first, pair / hards.size, second, pair % hards.size);
                    }
                }
            }
        }

        // Attempts come from the least row on, so a later one must be shorter to be better.
        private void attempt(int howMany, int first, int a, int second, int b) {
            trial.open(settings);
            for (int v = 0; v <= verses.size && trial.isWholeWithoutPause(); v++) {
                if (v == first) {
                    trial.add(hards, a);
                }
                if (v == second) {
                    trial.add(hards, b);
                }
                if (v < verses.size) {
                    trial.add(verses, v);
                }
            }
            int length = trial.last().written;
            if (trial.isWholeWithoutPause() && (best[0] == NONE || length < best[1])) {
                best[0] = howMany;
                best[1] = length;
                best[2] = first;
                best[3] = a;
                best[4] = second;
                best[5] = b;
            }
        }
    }

    /** The row of the first VERSES by which he pauses least. */
    private static final class OrderSearch {
        static final int MOST = 7;
        static final int FAR_ABOVE = 1000000;

        final Telling trial;
        final Script verses;
        final int[] settings;
        final int[] row = new int[MOST], best = new int[MOST];
        final boolean[] taken = new boolean[MOST];
        int size, leastPauses, leastLong;

        OrderSearch(Telling trial, Script verses, int[] settings) {
            this.trial = trial;
            this.verses = verses;
            this.settings = settings;
        }

        void seek() {
            size = Math.min(MOST, verses.size);
            leastPauses = FAR_ABOVE;
            leastLong = FAR_ABOVE;
            for (int i = 0; i < MOST; i++) {
                best[i] = NONE;
                taken[i] = false;
            }
            trial.open(settings);
            trial.letHimPause();
            placeFrom(this, 0);
        }

        // Rows come from the least on, so one is kept only if it is better than all ahead of it.
        private static void placeFrom(OrderSearch search, int depth) {
            if (depth >= search.size || depth >= MOST) {
                search.keep();
                return;
            }
            for (int v = 0; v < search.size && v < MOST; v++) {
                if (search.taken[v]) {
                    continue;
                }
                search.taken[v] = true;
                search.row[depth] = v;
                search.trial.add(search.verses, v);
                if (search.mayBeBest()) {
                    placeFrom(search, depth + 1);
                }
                search.trial.dropLast();
                search.taken[v] = false;
            }
        }

        // Pauses and breaths only grow with more verses.
        private boolean mayBeBest() {
            Turn last = trial.last();
            return last.allPauses < leastPauses
                || last.allPauses == leastPauses && last.written < leastLong;
        }

        private void keep() {
            leastPauses = trial.last().allPauses;
            leastLong = trial.last().written;
            for (int i = 0; i < size && i < MOST; i++) {
                best[i] = row[i];
            }
        }
    }

    /** What was SEEN: in which breaths he made which verses. */
    private static final class Sightings {
        static final int MOST = 8;

        final int[] breaths = new int[MOST], made = new int[MOST];
        int size;

        static boolean mayBe(int breath, int verse) {
            return breath >= 0 && breath <= LAST_BREATH && verse >= NONE && verse < MOST_VERSES;
        }

        boolean isFull() {
            return size >= MOST;
        }

        void add(int breath, int verse) {
            if (!isFull()) {
                breaths[size] = breath;
                made[size] = verse;
                size++;
            }
        }

        boolean fit(Telling told) {
            for (int i = 0; i < size && i < MOST; i++) {
                if (told.madeIn(breaths[i]) != made[i]) {
                    return false;
                }
            }
            return true;
        }
    }

    /** A row of bytes, shorts or ints, or a LOST one; its place is kept for the next. */
    private static final class Sheet {
        final int[] items = new int[MOST_ITEMS];
        boolean lost = true;
        int form, size;

        void renew(int newForm, int n) {
            lost = false;
            form = newForm;
            size = n;
            for (int i = 0; i < MOST_ITEMS; i++) {
                items[i] = 0;
            }
        }

        boolean hasItem(int i) {
            return i >= 0 && i < size && i < MOST_ITEMS;
        }

        // Told by what is left, as i and n together may wrap.
        boolean hasSpan(int i, int n) {
            return i >= 0 && n >= 0 && i <= size && n <= size - i;
        }

        int item(int i) {
            return hasItem(i) ? items[i] : 0;
        }

        void store(int i, int v) {
            if (hasItem(i)) {
                items[i] = form == 0 ? (byte) v : form == 1 ? (short) v : v;
            }
        }
    }
}
