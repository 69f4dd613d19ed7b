/**
 * A desk at which the lines on one slip are written, settled and signed down. The numbered promises in DOC.md say
 * what every call answers; words in capitals there are the words that the names here come from.
 *
 * Everything that a call needs is made by the constructor and used again, so that no call makes an object.
 */
public final class SlipDesk {
    /** None: no such thing, or none of them. */
    public static final int NONE = -1;

    private static final int NO_ANSWER = -2;
    private static final int NO_RULED = -3;
    private static final int MOST_OFFERS = 9;
    private static final int MOST_RULES = 6;
    private static final int MOST_IMAGES = 4;
    private static final int MOST_PAST = 20;
    private static final int MOST_NUMBER = 999;
    private static final int MOST_PENCE = 9999;
    private static final int LAST_DAY_BY_HAND = 999;
    private static final int DAYS_AHEAD = 60;
    private static final int NOTED_DAYS = 31;
    private static final int MOST_ROW = 4;
    private static final int WAYS = 3;

    private final Text text;
    private final SlipReader slipReader;
    private final RuleReader ruleReader;
    private final Rule[] rules;
    private int ruleCount;
    private final Desk desk;
    private final Desk[] images;
    private final boolean[] imageMade;
    private final Book[] past;
    private int pastCount;
    private int pastNext;
    private final Days days;
    private final Book trial;
    private final int[] parts;
    private final int[] row;
    private final int[] bestRow;
    private final int[] courses;
    private final int[] gains;

    public SlipDesk() {
        text = new Text();
        slipReader = new SlipReader();
        ruleReader = new RuleReader();
        rules = new Rule[MOST_RULES];
        for (int i = 0; i < MOST_RULES; i++) {
            rules[i] = new Rule();
        }
        desk = new Desk();
        images = new Desk[MOST_IMAGES];
        for (int i = 0; i < MOST_IMAGES; i++) {
            images[i] = new Desk();
        }
        imageMade = new boolean[MOST_IMAGES];
        past = new Book[MOST_PAST];
        for (int i = 0; i < MOST_PAST; i++) {
            past[i] = new Book();
        }
        days = new Days();
        trial = new Book();
        parts = new int[MOST_OFFERS];
        row = new int[MOST_ROW];
        bestRow = new int[MOST_ROW];
        courses = new int[(MOST_RULES + 1) * NOTED_DAYS];
        gains = new int[WAYS * WAYS * 2];
    }

    // ---- the tape, the slip and the rules

    public int feed(int a, int b, int c, int d, int e) {
        if (text.length + Text.BYTES_FED > Text.MOST_BYTES) {
            return NONE;
        }
        text.append(a);
        text.append(b);
        text.append(c);
        text.append(d);
        text.append(e);
        return text.length;
    }

    public int end(int n) {
        if (n < 0 || n > text.length) {
            return NONE;
        }
        text.length = n;
        return n;
    }

    public int slip() {
        boolean stands = slipReader.reads(text);
        text.length = 0;
        if (!stands) {
            return -2 - text.fault;
        }
        desk.told.copyFrom(slipReader.read);
        desk.book.begin(desk.told);
        desk.notes.size = 0;
        pastCount = 0;
        return desk.told.offers;
    }

    public int rule() {
        if (ruleCount < 0 || ruleCount >= MOST_RULES) {
            return NONE;
        }
        boolean stands = ruleReader.reads(text, rules[ruleCount]);
        text.length = 0;
        if (!stands) {
            return -2 - text.fault;
        }
        ruleCount++;
        return ruleCount - 1;
    }

    public int force(int rule) {
        if (rule < NONE || rule >= ruleCount) {
            return NO_ANSWER;
        }
        int was = desk.inForce;
        desk.inForce = rule;
        return was;
    }

    // ---- what is there

    public int offer(int offer, int what) {
        if (!isOffer(offer)) {
            return NONE;
        }
        Book book = desk.book;
        switch (what) {
            case 0:
                return book.writes[offer];
            case 1:
                return book.stands[offer];
            case 2:
                return desk.told.needsOf[offer];
            case 3:
                return book.where[offer];
            case 4:
                return book.signed[offer];
            case 5:
                return book.paid[offer];
            default:
                return NONE;
        }
    }

    public int need(int offer, int i, int what) {
        int found = isOffer(offer) ? desk.told.findNeed(offer, i) : NONE;
        if (found == NONE) {
            return NONE;
        }
        switch (what) {
            case 0:
                return desk.told.needKind[found];
            case 1:
                return desk.told.needNumber[found];
            case 2:
                return isLine(offer) && desk.book.holds(desk.told, found) ? 1 : 0;
            default:
                return NONE;
        }
    }

    public int line(int place) {
        return place >= 0 && place < desk.book.lines ? desk.book.lineAt[place] : NONE;
    }

    public int out(int place) {
        return place >= 0 && place < desk.book.outs ? desk.book.outAt[place] : NONE;
    }

    public int count(int what) {
        Book book = desk.book;
        switch (what) {
            case 0:
                return book.ordered;
            case 1:
                return desk.told.offers;
            case 2:
                return ruleCount;
            case 3:
                return desk.inForce;
            case 4:
                return book.today;
            case 5:
                return book.bitsWhere(Book.WAITS, desk.told.offers);
            case 6:
                return book.lineBits();
            case 7:
                return book.placed;
            case 8:
                return book.lacking();
            case 9:
                return book.signedOf(book.lineBits());
            case 10:
                return book.outs;
            case 11:
                return desk.notes.size;
            case 12:
                return pastCount;
            case 13:
                return desk.x;
            case 14:
                return text.length;
            default:
                return NONE;
        }
    }

    // ---- acts

    public int day() {
        if (!desk.told.there || desk.book.today >= LAST_DAY_BY_HAND) {
            return NONE;
        }
        remember();
        int taken = days.pass(desk.book, desk.told, ruleInForce());
        return taken == NONE ? NO_ANSWER : taken;
    }

    public int cancel(int offer) {
        if (!isLine(offer)) {
            return NONE;
        }
        remember();
        return desk.book.strike(offer, desk.told);
    }

    public int order(int order) {
        if (!desk.told.there || !isNumber(order) || order == desk.book.ordered) {
            return NONE;
        }
        remember();
        desk.book.reorder(order);
        return desk.book.settle(desk.told);
    }

    public int write(int offer, int number) {
        if (!isLine(offer) || !isNumber(number) || number == desk.book.writes[offer]) {
            return NONE;
        }
        remember();
        desk.book.rewrite(offer, number);
        desk.book.settle(desk.told);
        return isLine(offer) ? desk.book.signed[offer] : NO_ANSWER;
    }

    public int claim(int much) {
        Book book = desk.book;
        if (much < 1 || much > MOST_PENCE || book.lines < 1) {
            return NONE;
        }
        remember();
        book.partPence(much, parts);
        for (int i = 0; i < book.lines; i++) {
            int offer = book.lineAt[i];
            book.paid[offer] = Math.min(MOST_PENCE, book.paid[offer] + parts[offer]);
        }
        return book.paid[book.lineAt[0]];
    }

    public int undo() {
        if (pastCount < 1) {
            return NONE;
        }
        pastCount--;
        pastNext = pastNext > 0 ? pastNext - 1 : MOST_PAST - 1;
        desk.book.copyFrom(past[pastNext]);
        return pastCount;
    }

    /** Keeps the book as it is ahead of an act; the oldest one kept makes room. */
    private void remember() {
        past[pastNext].copyFrom(desk.book);
        pastNext = pastNext < MOST_PAST - 1 ? pastNext + 1 : 0;
        pastCount = Math.min(MOST_PAST, pastCount + 1);
    }

    // ---- what would be, if one line was another or went

    public int would(int offer, int number) {
        return isLine(offer) && isNumber(number) ? signedIfWritten(offer, number) : NONE;
    }

    public int least(int offer, int goal) {
        if (!isLine(offer) || !isNumber(goal)) {
            return NONE;
        }
        if (goal > desk.book.ordered) {
            return NO_ANSWER;
        }
        // No line has more signed than it writes, so that no number below the goal can do.
        for (int number = goal; number <= MOST_NUMBER; number++) {
            if (signedIfWritten(offer, number) >= goal) {
                return number;
            }
        }
        return NO_ANSWER;
    }

    /** The offer is a line. */
    private int signedIfWritten(int offer, int number) {
        trial.copyFrom(desk.book);
        trial.rewrite(offer, number);
        trial.settle(desk.told);
        return trial.signed[offer];
    }

    public int worst(int what) {
        if (!desk.told.there || what < 0 || what > 1) {
            return NONE;
        }
        int which = NO_ANSWER;
        int most = NO_ANSWER;
        for (int i = 0; i < desk.book.lines; i++) {
            int offer = desk.book.lineAt[i];
            tryStriking(offer);
            if (trial.lacking() > most) {
                most = trial.lacking();
                which = offer;
            }
        }
        return what == 0 ? which : most;
    }

    public int firm() {
        if (!desk.told.there) {
            return NONE;
        }
        int there = desk.book.lineBits();
        for (int i = 0; i < desk.book.lines; i++) {
            int offer = desk.book.lineAt[i];
            tryStriking(offer);
            there &= trial.lineBits() | 1 << offer;
        }
        return there;
    }

    private void tryStriking(int offer) {
        trial.copyFrom(desk.book);
        trial.strike(offer, desk.told);
    }

    // ---- sets of lines

    public int half(int what) {
        if (!desk.told.there || what < 0 || what > 1) {
            return NONE;
        }
        if (desk.book.lines < 1) {
            return NO_ANSWER;
        }
        int all = desk.book.lineBits();
        int whole = desk.book.signedOf(all);
        int best = all;
        for (int set = 1; set < 1 << MOST_OFFERS; set++) {
            if ((set & ~all) == 0 && Integer.bitCount(set) < Integer.bitCount(best)
                    && 2 * desk.book.signedOf(set) > whole) {
                best = set;
            }
        }
        return what == 0 ? Integer.bitCount(best) : best;
    }

    public int agree(int lines, int what) {
        int all = desk.book.lineBits();
        if (!desk.told.there || what < 0 || what > 1 || (lines & ~all) != 0) {
            return NONE;
        }
        if (desk.book.lines < 1) {
            return NO_ANSWER;
        }
        int others = all & ~lines;
        int best = others;
        for (int set = 0; set < 1 << MOST_OFFERS; set++) {
            if ((set & ~others) == 0 && Integer.bitCount(set) < Integer.bitCount(best) && isAgreed(lines | set)) {
                best = set;
            }
        }
        return what == 0 ? Integer.bitCount(best) : best;
    }

    /** There are lines. */
    private boolean isAgreed(int set) {
        Book book = desk.book;
        boolean leads = (set >> book.lineAt[0] & 1) == 1;
        return leads && 3 * book.signedOf(set) >= 2 * book.signedOf(book.lineBits());
    }

    // ---- rows in which waiting ones are taken

    public int rows(int what) {
        if (!desk.told.there || what < 0 || what > MOST_ROW + 1) {
            return NO_ANSWER;
        }
        int size = Math.min(MOST_ROW, Integer.bitCount(desk.book.bitsWhere(Book.WAITS, desk.told.offers)));
        int number = 1;
        for (int i = 2; i <= size; i++) {
            number *= i;
        }
        int leastShort = 0;
        int mostLines = 0;
        for (int nth = 0; nth < number; nth++) {
            layRow(nth, size);
            takeRow(size);
            boolean better = trial.lacking() < leastShort
                    || trial.lacking() == leastShort && trial.lines > mostLines;
            if (nth == 0 || better) {
                leastShort = trial.lacking();
                mostLines = trial.lines;
                System.arraycopy(row, 0, bestRow, 0, MOST_ROW);
            }
        }
        if (what == 0) {
            return leastShort;
        }
        if (what == 1) {
            return mostLines;
        }
        return what - 2 < size ? bestRow[what - 2] : NONE;
    }

    /** Lays the nth (least numbers first) of all rows of the first so many that wait. */
    private void layRow(int nth, int size) {
        int free = desk.book.bitsWhere(Book.WAITS, desk.told.offers);
        int left = nth;
        for (int place = 0; place < size && place < MOST_ROW; place++) {
            int rowsEach = 1;
            for (int i = 2; i < size - place; i++) {
                rowsEach *= i;
            }
            int passed = rowsEach > 0 ? left / rowsEach : 0;
            row[place] = nthBit(free, passed);
            free &= ~(1 << row[place]);
            left -= passed * rowsEach;
        }
    }

    /** The number of the nth bit (from 0) that is set; 0 without it. */
    private static int nthBit(int bits, int nth) {
        int seen = 0;
        for (int i = 0; i < MOST_OFFERS; i++) {
            if ((bits >> i & 1) == 1) {
                if (seen == nth) {
                    return i;
                }
                seen++;
            }
        }
        return 0;
    }

    private void takeRow(int size) {
        trial.copyFrom(desk.book);
        for (int place = 0; place < size && place < MOST_ROW; place++) {
            trial.takeIn(row[place]);
            trial.settle(desk.told);
        }
    }

    // ---- how it goes on

    public int ahead(int n, int what) {
        if (!desk.told.there || n < 0 || n > DAYS_AHEAD || what < 0 || what > 3) {
            return NONE;
        }
        trial.copyFrom(desk.book);
        for (int i = 0; i < n; i++) {
            days.pass(trial, desk.told, ruleInForce());
        }
        switch (what) {
            case 0:
                return trial.placed;
            case 1:
                return trial.lines;
            case 2:
                return trial.lacking();
            default:
                return trial.outs;
        }
    }

    public int full() {
        if (!desk.told.there) {
            return NONE;
        }
        trial.copyFrom(desk.book);
        for (int i = 0; i < DAYS_AHEAD; i++) {
            int which = trial.today;
            days.pass(trial, desk.told, ruleInForce());
            if (trial.lacking() == 0) {
                return which;
            }
        }
        return NO_ANSWER;
    }

    public int taken(int offer) {
        if (!isOffer(offer) || desk.book.where[offer] != Book.WAITS) {
            return NONE;
        }
        trial.copyFrom(desk.book);
        for (int i = 0; i < DAYS_AHEAD; i++) {
            int which = trial.today;
            if (days.pass(trial, desk.told, ruleInForce()) == offer) {
                return which;
            }
        }
        return NO_ANSWER;
    }

    public int seasons(int m, int n, int p, int what) {
        boolean told = m >= 1 && m <= 10 && n >= 1 && n <= 30 && p >= 0 && p <= 100 && what >= 0 && what <= 1;
        if (!desk.told.there || !told) {
            return NONE;
        }
        int kept = desk.x;
        int sum = 0;
        for (int season = 0; season < m; season++) {
            trial.copyFrom(desk.book);
            for (int i = 0; i < n; i++) {
                drawCancelling(p);
                days.pass(trial, desk.told, ruleInForce());
            }
            sum += what == 0 ? trial.lacking() : trial.lines;
        }
        desk.x = kept;
        return sum;
    }

    private void drawCancelling(int p) {
        int offers = desk.told.offers;
        if (desk.draw() % 100 < p && offers > 0) {
            int offer = desk.draw() % offers;
            if (trial.isOn(offer)) {
                trial.strike(offer, desk.told);
            }
        }
    }

    public int seed(int x) {
        if (x < 0) {
            return NONE;
        }
        int was = desk.x;
        desk.x = x;
        return was;
    }

    // ---- what the notes leave open

    public int note(int n, int offer) {
        // Only telling a note needs a slip: clearing them is never refused.
        if (n == NONE) {
            desk.notes.size = 0;
            return 0;
        }
        if (!desk.told.there || n < 0 || n >= NOTED_DAYS || offer != NONE && !isOffer(offer)
                || !desk.notes.adds(n, offer)) {
            return NO_ANSWER;
        }
        return desk.notes.size;
    }

    public int sizes(int offer, int what) {
        if (!isOffer(offer) || what < 0 || what > 1) {
            return NONE;
        }
        int many = 0;
        int first = NO_ANSWER;
        for (int number = 10; number <= 990; number += 10) {
            trial.begin(desk.told);
            trial.writes[offer] = number;
            if (goesAsNoted(ruleInForce())) {
                many++;
                first = many == 1 ? number : first;
            }
        }
        return what == 0 ? many : first;
    }

    public int standing(int offer) {
        if (!isOffer(offer)) {
            return NONE;
        }
        int bits = 0;
        for (int stands = 0; stands <= 1; stands++) {
            trial.begin(desk.told);
            trial.stands[offer] = stands;
            if (goesAsNoted(ruleInForce())) {
                bits |= 1 << stands;
            }
        }
        return bits;
    }

    public int ruled(int what) {
        if (!desk.told.there || what < 0 || what > 1) {
            return NO_RULED;
        }
        int many = 0;
        int first = NO_ANSWER;
        for (int number = NONE; number < ruleCount; number++) {
            trial.begin(desk.told);
            if (goesAsNoted(ruleAt(number))) {
                many++;
                first = many == 1 ? number : first;
            }
        }
        return what == 0 ? many : first;
    }

    public int look(int what) {
        if (!desk.told.there || what < 0 || what > 1) {
            return NONE;
        }
        int many = layCourses();
        if (many < 1) {
            return NO_ANSWER;
        }
        int bestDay = 0;
        int fewest = many + 1;
        for (int onDay = 0; onDay < NOTED_DAYS; onDay++) {
            int alike = mostAlike(onDay, many);
            if (alike < fewest) {
                fewest = alike;
                bestDay = onDay;
            }
        }
        return what == 0 ? bestDay : fewest;
    }

    /** Lays down whom the rules that are as noted (and none, if it is) take on each day: how many these are. */
    private int layCourses() {
        int many = 0;
        for (int number = NONE; number < ruleCount && many <= MOST_RULES; number++) {
            Rule rule = ruleAt(number);
            boolean noted = true;
            trial.begin(desk.told);
            for (int onDay = 0; onDay < NOTED_DAYS && noted; onDay++) {
                int taken = days.pass(trial, desk.told, rule);
                courses[many * NOTED_DAYS + onDay] = taken;
                noted = desk.notes.allow(onDay, taken);
            }
            if (noted) {
                many++;
            }
        }
        return many;
    }

    /** Of the first so many courses: the most that take the same one on a day. */
    private int mostAlike(int onDay, int many) {
        int most = 0;
        for (int i = 0; i < many && i <= MOST_RULES; i++) {
            int alike = 0;
            for (int j = 0; j < many && j <= MOST_RULES; j++) {
                if (courses[i * NOTED_DAYS + onDay] == courses[j * NOTED_DAYS + onDay]) {
                    alike++;
                }
            }
            most = Math.max(most, alike);
        }
        return most;
    }

    /** Lets the trial book, which is at its begin, go on as far as there are notes. */
    private boolean goesAsNoted(Rule rule) {
        int last = desk.notes.lastDay();
        for (int onDay = 0; onDay <= last && onDay < NOTED_DAYS; onDay++) {
            if (!desk.notes.allow(onDay, days.pass(trial, desk.told, rule))) {
                return false;
            }
        }
        return true;
    }

    // ---- two that write more, and pence

    public int rests(int one, int other, int what) {
        if (!isLine(one) || !isLine(other) || one == other || what < 0 || what > 2) {
            return NONE;
        }
        layGains(one, other);
        int many = 0;
        int first = NO_ANSWER;
        for (int two = 0; two < WAYS * WAYS; two++) {
            if (isRest(two / WAYS, two % WAYS)) {
                many++;
                first = many == 1 ? two : first;
            }
        }
        if (what == 0) {
            return many;
        }
        if (first == NO_ANSWER) {
            return NO_ANSWER;
        }
        return what == 1 ? first / WAYS : first % WAYS;
    }

    /** Lays down what each of two lines has, for all that both can write. */
    private void layGains(int one, int other) {
        for (int i = 0; i < WAYS; i++) {
            for (int j = 0; j < WAYS; j++) {
                trial.copyFrom(desk.book);
                trial.rewrite(one, Math.min(MOST_NUMBER, desk.book.writes[one] * (i + 1)));
                trial.rewrite(other, Math.min(MOST_NUMBER, desk.book.writes[other] * (j + 1)));
                trial.settle(desk.told);
                gains[2 * (i * WAYS + j)] = 3 * trial.signed[one] - trial.writes[one];
                gains[2 * (i * WAYS + j) + 1] = 3 * trial.signed[other] - trial.writes[other];
            }
        }
    }

    private boolean isRest(int i, int j) {
        for (int k = 0; k < WAYS; k++) {
            if (gains[2 * (k * WAYS + j)] > gains[2 * (i * WAYS + j)]
                    || gains[2 * (i * WAYS + k) + 1] > gains[2 * (i * WAYS + j) + 1]) {
                return false;
            }
        }
        return true;
    }

    public int pence(int much, int offer) {
        if (much < 0 || much > MOST_PENCE || !isLine(offer)) {
            return NONE;
        }
        desk.book.partPence(much, parts);
        return parts[offer];
    }

    // ---- images

    public int image(int k) {
        if (k < 0 || k >= MOST_IMAGES) {
            return NONE;
        }
        images[k].copyFrom(desk);
        imageMade[k] = true;
        return desk.book.today;
    }

    public int back(int k) {
        if (k < 0 || k >= MOST_IMAGES || !imageMade[k]) {
            return NONE;
        }
        desk.copyFrom(images[k]);
        pastCount = 0;
        return desk.book.today;
    }

    // ---- small questions

    private boolean isOffer(int offer) {
        return offer >= 0 && offer < desk.told.offers;
    }

    private boolean isLine(int offer) {
        return isOffer(offer) && desk.book.isOn(offer);
    }

    private static boolean isNumber(int number) {
        return number >= 1 && number <= MOST_NUMBER;
    }

    /** A rule by its number; null, if there is none such. */
    private Rule ruleAt(int number) {
        return number >= 0 && number < ruleCount && number < MOST_RULES ? rules[number] : null;
    }

    private Rule ruleInForce() {
        return ruleAt(desk.inForce);
    }

    /** All that an image holds. */
    private static final class Desk {
        final Told told = new Told();
        final Book book = new Book();
        final Notes notes = new Notes();
        int inForce = NONE;
        int x;

        void copyFrom(Desk other) {
            told.copyFrom(other.told);
            book.copyFrom(other.book);
            notes.copyFrom(other.notes);
            inForce = other.inForce;
            x = other.x;
        }

        int draw() {
            x = (int) ((x * 1103515245L + 12345L) % 2147483648L);
            return x / 65536;
        }
    }

    /** A slip as its text tells it. */
    private static final class Told {
        static final int MOST_NEEDS = 12;

        boolean there;
        int ordered;
        int offers;
        final int[] writes = new int[MOST_OFFERS];
        final int[] stands = new int[MOST_OFFERS];
        final int[] needsOf = new int[MOST_OFFERS];
        int needs;
        final int[] needOffer = new int[MOST_NEEDS];
        final int[] needKind = new int[MOST_NEEDS];
        final int[] needNumber = new int[MOST_NEEDS];

        void copyFrom(Told other) {
            there = other.there;
            ordered = other.ordered;
            offers = other.offers;
            System.arraycopy(other.writes, 0, writes, 0, MOST_OFFERS);
            System.arraycopy(other.stands, 0, stands, 0, MOST_OFFERS);
            System.arraycopy(other.needsOf, 0, needsOf, 0, MOST_OFFERS);
            needs = other.needs;
            System.arraycopy(other.needOffer, 0, needOffer, 0, MOST_NEEDS);
            System.arraycopy(other.needKind, 0, needKind, 0, MOST_NEEDS);
            System.arraycopy(other.needNumber, 0, needNumber, 0, MOST_NEEDS);
        }

        void addOffer(int number, int standing) {
            if (offers < MOST_OFFERS) {
                writes[offers] = number;
                stands[offers] = standing;
                needsOf[offers] = 0;
                offers++;
            }
        }

        void addNeed(int offer, int kind, int number) {
            if (needs < MOST_NEEDS && offer >= 0 && offer < offers) {
                needOffer[needs] = offer;
                needKind[needs] = kind;
                needNumber[needs] = number;
                needs++;
                needsOf[offer]++;
            }
        }

        /** Where the i-th need (from 0) of an offer stands among all; NONE without it. */
        int findNeed(int offer, int i) {
            int seen = 0;
            for (int at = 0; at < needs; at++) {
                if (needOffer[at] == offer) {
                    if (seen == i) {
                        return at;
                    }
                    seen++;
                }
            }
            return NONE;
        }
    }

    /**
     * How far a slip has come. Offers in its rows are below MOST_OFFERS; lines and outs tell how far these are filled.
     * What is signed and placed is so for the lines as they are, behind every change.
     */
    private static final class Book {
        static final int WAITS = 0;
        static final int LINE = 1;
        static final int OUT = 2;

        int ordered;
        int today;
        int placed;
        int lines;
        int outs;
        final int[] writes = new int[MOST_OFFERS];
        final int[] stands = new int[MOST_OFFERS];
        final int[] where = new int[MOST_OFFERS];
        final int[] signed = new int[MOST_OFFERS];
        final int[] paid = new int[MOST_OFFERS];
        final int[] lineAt = new int[MOST_OFFERS];
        final int[] outAt = new int[MOST_OFFERS];

        void copyFrom(Book other) {
            ordered = other.ordered;
            today = other.today;
            placed = other.placed;
            lines = other.lines;
            outs = other.outs;
            System.arraycopy(other.writes, 0, writes, 0, MOST_OFFERS);
            System.arraycopy(other.stands, 0, stands, 0, MOST_OFFERS);
            System.arraycopy(other.where, 0, where, 0, MOST_OFFERS);
            System.arraycopy(other.signed, 0, signed, 0, MOST_OFFERS);
            System.arraycopy(other.paid, 0, paid, 0, MOST_OFFERS);
            System.arraycopy(other.lineAt, 0, lineAt, 0, MOST_OFFERS);
            System.arraycopy(other.outAt, 0, outAt, 0, MOST_OFFERS);
        }

        void begin(Told told) {
            ordered = told.ordered;
            today = 0;
            placed = 0;
            lines = 0;
            outs = 0;
            System.arraycopy(told.writes, 0, writes, 0, MOST_OFFERS);
            System.arraycopy(told.stands, 0, stands, 0, MOST_OFFERS);
            for (int i = 0; i < MOST_OFFERS; i++) {
                where[i] = WAITS;
                signed[i] = 0;
                paid[i] = 0;
            }
        }

        boolean isOn(int offer) {
            return offer >= 0 && offer < MOST_OFFERS && where[offer] == LINE;
        }

        int bitsWhere(int place, int offers) {
            int bits = 0;
            for (int i = 0; i < offers && i < MOST_OFFERS; i++) {
                if (where[i] == place) {
                    bits |= 1 << i;
                }
            }
            return bits;
        }

        int lineBits() {
            return bitsWhere(LINE, MOST_OFFERS);
        }

        int lacking() {
            return Math.max(0, ordered - placed);
        }

        int signedOf(int set) {
            int sum = 0;
            for (int i = 0; i < MOST_OFFERS; i++) {
                if ((set >> i & 1) == 1) {
                    sum += signed[i];
                }
            }
            return sum;
        }

        void takeIn(int offer) {
            if (offer >= 0 && offer < MOST_OFFERS && where[offer] == WAITS && lines < MOST_OFFERS) {
                where[offer] = LINE;
                lineAt[lines] = offer;
                lines++;
                sign();
            }
        }

        void reorder(int number) {
            ordered = number;
            sign();
        }

        void rewrite(int offer, int number) {
            if (offer >= 0 && offer < MOST_OFFERS) {
                writes[offer] = number;
                sign();
            }
        }

        private void leave(int offer) {
            if (!isOn(offer) || outs >= MOST_OFFERS) {
                return;
            }
            int kept = 0;
            for (int i = 0; i < lines; i++) {
                if (lineAt[i] != offer) {
                    lineAt[kept] = lineAt[i];
                    kept++;
                }
            }
            lines = kept;
            where[offer] = OUT;
            signed[offer] = 0;
            outAt[outs] = offer;
            outs++;
            sign();
        }

        /** A line is cancelled: how many go out by that. */
        int strike(int offer, Told told) {
            int before = outs;
            leave(offer);
            settle(told);
            return outs - before;
        }

        /** Lines go out till what all need holds: how many. */
        int settle(Told told) {
            int before = outs;
            for (int i = 0; i < MOST_OFFERS; i++) {
                int first = firstInNeed(told);
                if (first == NONE) {
                    break;
                }
                leave(first);
            }
            return outs - before;
        }

        /** The first line along the slip of which a need does not hold; NONE without one. */
        private int firstInNeed(Told told) {
            int inNeed = 0;
            for (int need = 0; need < told.needs; need++) {
                if (isOn(told.needOffer[need]) && !holds(told, need)) {
                    inNeed |= 1 << told.needOffer[need];
                }
            }
            for (int i = 0; i < lines; i++) {
                if ((inNeed >> lineAt[i] & 1) == 1) {
                    return lineAt[i];
                }
            }
            return NONE;
        }

        /** Whether a need of a line holds. */
        boolean holds(Told told, int need) {
            int number = told.needNumber[need];
            switch (told.needKind[need]) {
                case 0:
                    return placed >= number;
                case 1:
                    return isOn(number);
                case 2:
                    return signed[told.needOffer[need]] >= number;
                case 3:
                    return lines <= number;
                case 4:
                    return lacking() <= number;
                default:
                    return today <= number;
            }
        }

        private void sign() {
            int left = ordered;
            int others = 0;
            int wanted = 0;
            placed = 0;
            for (int i = 0; i < lines; i++) {
                int offer = lineAt[i];
                placed += writes[offer];
                if (stands[offer] == 1 && writes[offer] <= left) {
                    signed[offer] = writes[offer];
                    left -= writes[offer];
                } else {
                    others |= 1 << offer;
                    wanted += writes[offer];
                }
            }
            // Parting just what they want among them by what they want gives each what it writes.
            partAmong(others, Math.min(left, wanted), writes, signed);
        }

        /** Parts pence among the lines by what they have signed. */
        void partPence(int much, int[] into) {
            partAmong(lineBits(), much, signed, into);
        }

        /** Parts something by weight, downwards; then one each to those that lost most, the first along the slip first. */
        private void partAmong(int members, int much, int[] weights, int[] into) {
            int whole = 0;
            for (int i = 0; i < lines; i++) {
                whole += (members >> lineAt[i] & 1) * weights[lineAt[i]];
            }
            if (whole <= 0) {
                return;
            }
            int left = much;
            for (int i = 0; i < lines; i++) {
                int offer = lineAt[i];
                if ((members >> offer & 1) == 1) {
                    into[offer] = much * weights[offer] / whole;
                    left -= into[offer];
                }
            }
            int unserved = members;
            for (int given = 0; given < left && given < MOST_OFFERS; given++) {
                int next = lostMost(unserved, much, weights, whole);
                if (next == NONE) {
                    return;
                }
                into[next]++;
                unserved &= ~(1 << next);
            }
        }

        /** Of members the one whose part of the whole lost most, the first along the slip first; NONE without one. */
        private int lostMost(int members, int much, int[] weights, int whole) {
            if (whole <= 0) {
                return NONE;
            }
            int which = NONE;
            int most = -1;
            for (int i = 0; i < lines; i++) {
                int offer = lineAt[i];
                if ((members >> offer & 1) == 1 && much * weights[offer] % whole > most) {
                    most = much * weights[offer] % whole;
                    which = offer;
                }
            }
            return which;
        }
    }

    /** What was noted of who was taken on which day. */
    private static final class Notes {
        static final int MOST_NOTES = 10;

        int size;
        final int[] onDay = new int[MOST_NOTES];
        final int[] taken = new int[MOST_NOTES];

        void copyFrom(Notes other) {
            size = other.size;
            System.arraycopy(other.onDay, 0, onDay, 0, MOST_NOTES);
            System.arraycopy(other.taken, 0, taken, 0, MOST_NOTES);
        }

        boolean adds(int day, int offer) {
            if (size < 0 || size >= MOST_NOTES) {
                return false;
            }
            onDay[size] = day;
            taken[size] = offer;
            size++;
            return true;
        }

        int lastDay() {
            int last = NONE;
            for (int i = 0; i < size; i++) {
                last = Math.max(last, onDay[i]);
            }
            return last;
        }

        boolean allow(int day, int offer) {
            for (int i = 0; i < size; i++) {
                if (onDay[i] == day && taken[i] != offer) {
                    return false;
                }
            }
            return true;
        }
    }

    /** Lets days pass in a book. */
    private static final class Days {
        private final long[] words = new long[Rule.WORDS];

        /** A day passes by a rule (null: without one): which offer is taken; NONE, if none is. */
        int pass(Book book, Told told, Rule rule) {
            int taken = choose(book, told, rule);
            if (taken != NONE) {
                book.takeIn(taken);
            }
            book.settle(told);
            book.today++;
            return taken;
        }

        private int choose(Book book, Told told, Rule rule) {
            int waiting = book.bitsWhere(Book.WAITS, told.offers);
            if (waiting == 0) {
                return NONE;
            }
            if (rule == null) {
                return nthBit(waiting, 0);
            }
            layWords(book, waiting);
            int which = NONE;
            long most = 0;
            for (int offer = 0; offer < MOST_OFFERS; offer++) {
                if ((waiting >> offer & 1) == 1) {
                    words[Rule.OFFER] = offer;
                    words[Rule.WRITES] = book.writes[offer];
                    words[Rule.STANDS] = book.stands[offer];
                    words[Rule.NEEDS] = told.needsOf[offer];
                    long worth = rule.worth(words);
                    if (worth > most) {
                        most = worth;
                        which = offer;
                    }
                }
            }
            return which;
        }

        /** Lays down the words that are the same for all that wait. */
        private void layWords(Book book, int waiting) {
            words[Rule.LINES] = book.lines;
            words[Rule.PLACED] = book.placed;
            words[Rule.ORDER] = book.ordered;
            words[Rule.SHORT] = book.lacking();
            words[Rule.WAITING] = Integer.bitCount(waiting);
            words[Rule.GONE] = book.outs;
            words[Rule.DAY] = book.today;
        }
    }

    /** A rule as steps for a stack of numbers, those of a clause's sum ahead of those of its test. */
    private static final class Rule {
        static final int OFFER = 0;
        static final int WRITES = 1;
        static final int STANDS = 2;
        static final int NEEDS = 3;
        static final int LINES = 4;
        static final int PLACED = 5;
        static final int ORDER = 6;
        static final int SHORT = 7;
        static final int WAITING = 8;
        static final int GONE = 9;
        static final int DAY = 10;
        static final int WORDS = 11;

        static final int PUSH_NUMBER = 0;
        static final int PUSH_WORD = 1;
        static final int PLUS = 2;
        static final int MINUS = 3;
        static final int TIMES = 4;
        static final int OVER = 5;
        static final int REST = 6;
        static final int LESS = 7;
        static final int LESS_OR_LIKE = 8;
        static final int LIKE = 9;
        static final int MORE_OR_LIKE = 10;
        static final int MORE = 11;
        static final int AND = 12;
        static final int OR = 13;
        static final int NOT = 14;

        static final int MOST_CLAUSES = 12;
        // Every step has a byte of the text to itself.
        static final int MOST_STEPS = Text.MOST_BYTES;
        static final int MOST_STACK = 64;

        int clauses;
        int size;
        final int[] sumFrom = new int[MOST_CLAUSES];
        final int[] testFrom = new int[MOST_CLAUSES];
        final int[] testTo = new int[MOST_CLAUSES];
        final int[] steps = new int[MOST_STEPS];
        final int[] numbers = new int[MOST_STEPS];
        private final long[] stack = new long[MOST_STACK];

        void clear() {
            clauses = 0;
            size = 0;
        }

        void add(int step, int number) {
            if (size < MOST_STEPS) {
                steps[size] = step;
                numbers[size] = number;
                size++;
            }
        }

        void addClause(int sumStart, int testStart) {
            if (clauses < MOST_CLAUSES) {
                sumFrom[clauses] = sumStart;
                testFrom[clauses] = testStart;
                testTo[clauses] = size;
                clauses++;
            }
        }

        /** The sum of the first clause without a test, or whose test holds; 0 without one. */
        long worth(long[] words) {
            for (int i = 0; i < clauses; i++) {
                if (testFrom[i] == testTo[i] || run(testFrom[i], testTo[i], words) != 0) {
                    return run(sumFrom[i], testFrom[i], words);
                }
            }
            return 0;
        }

        private long run(int from, int to, long[] words) {
            int top = NONE;
            for (int i = from; i < to && i < MOST_STEPS; i++) {
                int step = steps[i];
                if (step == PUSH_NUMBER && top + 1 < MOST_STACK) {
                    top++;
                    stack[top] = numbers[i];
                } else if (step == PUSH_WORD && top + 1 < MOST_STACK) {
                    top++;
                    stack[top] = words[numbers[i]];
                } else if (step == NOT && top >= 0) {
                    stack[top] = 1 - stack[top];
                } else if (top >= 1) {
                    top--;
                    stack[top] = step < LESS ? reckon(step, stack[top], stack[top + 1])
                            : truth(step, stack[top], stack[top + 1]);
                }
            }
            return top >= 0 ? stack[top] : 0;
        }

        private static long reckon(int step, long a, long b) {
            switch (step) {
                case PLUS:
                    return a + b;
                case MINUS:
                    return a - b;
                case TIMES:
                    return a * b;
                case OVER:
                    return b == 0 ? 0 : a / b;
                default:
                    return b == 0 ? 0 : a % b;
            }
        }

        private static long truth(int step, long a, long b) {
            boolean holds;
            switch (step) {
                case LESS:
                    holds = a < b;
                    break;
                case LESS_OR_LIKE:
                    holds = a <= b;
                    break;
                case LIKE:
                    holds = a == b;
                    break;
                case MORE_OR_LIKE:
                    holds = a >= b;
                    break;
                case MORE:
                    holds = a > b;
                    break;
                case AND:
                    holds = a != 0 && b != 0;
                    break;
                default:
                    holds = a != 0 || b != 0;
                    break;
            }
            return holds ? 1 : 0;
        }
    }

    /** The tape; cut into tokens, it is read from the first on, and knows the first fault that a reader finds. */
    private static final class Text {
        static final int MOST_BYTES = 400;
        static final int BYTES_FED = 20;
        static final int MOST_DIGITS = 5;
        // A token a byte, and the end.
        static final int MOST_TOKENS = MOST_BYTES + 1;

        // Signs are tokens by their bytes; with = behind them, so much above that.
        static final int OR_LIKE = 256;
        static final int END = 512;
        static final int NUMBER = 513;
        static final int WORD = 600;
        // The first ones as Rule numbers its words.
        static final String WORDS =
                "offer writes stands needs lines placed order short waiting gone day slip take if and or not ";
        static final int OFFER = WORD + Rule.OFFER;
        static final int NEEDS = WORD + Rule.NEEDS;
        static final int SLIP = WORD + Rule.WORDS;
        static final int TAKE = SLIP + 1;
        static final int IF = SLIP + 2;
        static final int AND = SLIP + 3;
        static final int OR = SLIP + 4;
        static final int NOT = SLIP + 5;
        static final int UNKNOWN = 99;

        static final int CANNOT_STAND = 0;
        static final int BAD_NUMBER = 1;
        static final int TOO_DEEP = 2;
        static final int TOO_MANY_PARTS = 3;
        static final int TOO_MANY_CLAUSES = 4;

        final byte[] bytes = new byte[MOST_BYTES];
        int length;
        int fault;
        private int tokens;
        private int at;
        private final int[] kinds = new int[MOST_TOKENS];
        private final int[] places = new int[MOST_TOKENS];
        private final int[] values = new int[MOST_TOKENS];

        /** Four bytes come behind the others, the highest first. */
        void append(int number) {
            for (int shift = 24; shift >= 0; shift -= 8) {
                if (length < MOST_BYTES) {
                    bytes[length] = (byte) (number >> shift);
                    length++;
                }
            }
        }

        void cut() {
            tokens = 0;
            at = 0;
            fault = 0;
            int place = 0;
            for (int i = 0; i < MOST_BYTES && place < length; i++) {
                place += byteAt(place) == ' ' ? 1 : cutOne(place);
            }
            addToken(END, length, 0);
        }

        /** Cuts the token that begins at a place: how many bytes it has. */
        private int cutOne(int place) {
            int digits = runOf('0', '9', place);
            if (digits > 0) {
                addToken(NUMBER, place, numberAt(place, digits));
                return digits;
            }
            int letters = runOf('a', 'z', place);
            if (letters > 0) {
                addToken(WORD + wordAt(place, letters), place, 0);
                return letters;
            }
            int sign = byteAt(place);
            boolean orLike = (sign == '<' || sign == '>') && byteAt(place + 1) == '=';
            addToken(orLike ? sign + OR_LIKE : sign, place, 0);
            return orLike ? 2 : 1;
        }

        private void addToken(int kind, int place, int value) {
            if (tokens < MOST_TOKENS) {
                kinds[tokens] = kind;
                places[tokens] = place;
                values[tokens] = value;
                tokens++;
            }
        }

        private int byteAt(int place) {
            return place >= 0 && place < length && place < MOST_BYTES ? bytes[place] & 255 : END;
        }

        /** How many bytes from a low to a high one go on from a place. */
        private int runOf(char low, char high, int place) {
            int many = 0;
            for (int i = place; i < length && byteAt(i) >= low && byteAt(i) <= high; i++) {
                many++;
            }
            return many;
        }

        /** A number; NONE, if it has too many digits. */
        private int numberAt(int place, int digits) {
            int value = 0;
            for (int i = 0; i < digits && i < MOST_DIGITS; i++) {
                value = value * 10 + byteAt(place + i) - '0';
            }
            return digits > MOST_DIGITS ? NONE : value;
        }

        private int wordAt(int place, int letters) {
            int number = 0;
            int seen = 0;
            boolean same = true;
            for (int i = 0; i < WORDS.length(); i++) {
                char sign = WORDS.charAt(i);
                if (sign != ' ') {
                    same = same && seen < letters && byteAt(place + seen) == sign;
                    seen++;
                } else if (same && seen == letters) {
                    return number;
                } else {
                    number++;
                    seen = 0;
                    same = true;
                }
            }
            return UNKNOWN;
        }

        /** What the token is that is to be read next. */
        int kind() {
            return at < tokens ? kinds[at] : END;
        }

        int value() {
            return at < tokens ? values[at] : NONE;
        }

        void step() {
            if (at < tokens - 1) {
                at++;
            }
        }

        /** Reads a number from a least to a most one; NONE, and it fails, if there is no such one. */
        int number(int least, int most) {
            int value = value();
            if (kind() != NUMBER) {
                fails(CANNOT_STAND);
                return NONE;
            }
            if (value < least || value > most) {
                fails(BAD_NUMBER);
                return NONE;
            }
            step();
            return value;
        }

        /** There is a fault at the token that is to be read next: false, for whoever reads on. */
        boolean fails(int why) {
            fault = at < tokens ? 1 + 8 * places[at] + why : 0;
            return false;
        }
    }

    /** Reads slips. Readers stop at the first fault, which the text keeps then. */
    private static final class SlipReader {
        static final int MOST_CLAUSES = 40;

        final Told read = new Told();

        boolean reads(Text text) {
            read.there = true;
            read.offers = 0;
            read.needs = 0;
            text.cut();
            for (int clause = 0; clause <= MOST_CLAUSES; clause++) {
                if (!readsClause(text, clause)) {
                    return false;
                }
                if (text.kind() == Text.END) {
                    return true;
                }
                if (text.kind() != ';') {
                    return text.fails(Text.CANNOT_STAND);
                }
                text.step();
            }
            return false;
        }

        private boolean readsClause(Text text, int clause) {
            int kind = text.kind();
            if (kind != Text.SLIP && kind != Text.OFFER && kind != Text.NEEDS) {
                return text.fails(Text.CANNOT_STAND);
            }
            if (clause >= MOST_CLAUSES || (kind == Text.SLIP) != (clause == 0)
                    || kind == Text.OFFER && read.offers >= MOST_OFFERS
                    || kind == Text.NEEDS && read.needs >= Told.MOST_NEEDS) {
                return text.fails(Text.TOO_MANY_CLAUSES);
            }
            text.step();
            if (kind == Text.SLIP) {
                read.ordered = text.number(1, MOST_NUMBER);
                return read.ordered != NONE;
            }
            return kind == Text.OFFER ? readsOffer(text) : readsNeed(text);
        }

        private boolean readsOffer(Text text) {
            int writes = text.number(1, MOST_NUMBER);
            if (writes == NONE) {
                return false;
            }
            int stands = text.number(0, 1);
            if (stands == NONE) {
                return false;
            }
            read.addOffer(writes, stands);
            return true;
        }

        private boolean readsNeed(Text text) {
            int offer = text.number(0, read.offers - 1);
            if (offer == NONE) {
                return false;
            }
            int kind = text.number(0, 5);
            if (kind == NONE) {
                return false;
            }
            int number = text.number(0, MOST_NUMBER);
            if (number == NONE) {
                return false;
            }
            read.addNeed(offer, kind, number);
            return true;
        }
    }

    /** Reads rules. */
    private static final class RuleReader {
        static final int MOST_DEPTH = 10;
        static final int MOST_PARTS = 60;

        private int partCount;

        boolean reads(Text text, Rule into) {
            into.clear();
            partCount = 0;
            text.cut();
            for (int clause = 0; clause <= Rule.MOST_CLAUSES; clause++) {
                if (text.kind() != Text.TAKE) {
                    return text.fails(Text.CANNOT_STAND);
                }
                if (clause >= Rule.MOST_CLAUSES) {
                    return text.fails(Text.TOO_MANY_CLAUSES);
                }
                text.step();
                int sumStart = into.size;
                if (!readsSum(text, into)) {
                    return false;
                }
                int testStart = into.size;
                if (text.kind() == Text.IF) {
                    text.step();
                    if (!readsTest(text, into, 0)) {
                        return false;
                    }
                }
                into.addClause(sumStart, testStart);
                if (text.kind() == Text.END) {
                    return true;
                }
                if (text.kind() != ';') {
                    return text.fails(Text.CANNOT_STAND);
                }
                text.step();
            }
            return false;
        }

        /** Facts joined by and, these by or: each joins as soon as nothing that binds closer follows. */
        private boolean readsTest(Text text, Rule into, int depth) {
            boolean andWaits = false;
            boolean orWaits = false;
            for (int i = 0; i < Text.MOST_TOKENS; i++) {
                if (!readsFact(text, into, depth)) {
                    return false;
                }
                if (andWaits) {
                    into.add(Rule.AND, 0);
                }
                andWaits = text.kind() == Text.AND;
                if (!andWaits) {
                    if (orWaits) {
                        into.add(Rule.OR, 0);
                    }
                    orWaits = text.kind() == Text.OR;
                    if (!orWaits) {
                        return true;
                    }
                }
                text.step();
            }
            return false;
        }

        private boolean readsFact(Text text, Rule into, int depth) {
            int kind = text.kind();
            if (kind != Text.NOT && kind != '[') {
                return readsComparison(text, into);
            }
            if (depth >= MOST_DEPTH) {
                return text.fails(Text.TOO_DEEP);
            }
            text.step();
            if (kind == Text.NOT) {
                if (!readsFact(text, into, depth + 1)) {
                    return false;
                }
                into.add(Rule.NOT, 0);
                return true;
            }
            if (!readsTest(text, into, depth + 1)) {
                return false;
            }
            if (text.kind() != ']') {
                return text.fails(Text.CANNOT_STAND);
            }
            text.step();
            return true;
        }

        private boolean readsComparison(Text text, Rule into) {
            if (!readsSum(text, into)) {
                return false;
            }
            int step = stepOf(text.kind());
            if (step < Rule.LESS || step > Rule.MORE) {
                return text.fails(Text.CANNOT_STAND);
            }
            if (partCount >= MOST_PARTS) {
                return text.fails(Text.TOO_MANY_PARTS);
            }
            partCount++;
            text.step();
            if (!readsSum(text, into)) {
                return false;
            }
            into.add(step, 0);
            return true;
        }

        /** Values joined by * / %, these by + and -, as facts are in a test. */
        private boolean readsSum(Text text, Rule into) {
            int closer = NONE;
            int wider = NONE;
            for (int i = 0; i < Text.MOST_TOKENS; i++) {
                if (!readsValue(text, into)) {
                    return false;
                }
                if (closer != NONE) {
                    into.add(closer, 0);
                }
                int step = stepOf(text.kind());
                closer = step == Rule.TIMES || step == Rule.OVER || step == Rule.REST ? step : NONE;
                if (closer == NONE) {
                    if (wider != NONE) {
                        into.add(wider, 0);
                    }
                    wider = step == Rule.PLUS || step == Rule.MINUS ? step : NONE;
                    if (wider == NONE) {
                        return true;
                    }
                }
                text.step();
            }
            return false;
        }

        private boolean readsValue(Text text, Rule into) {
            int kind = text.kind();
            boolean isNumber = kind == Text.NUMBER;
            if (!isNumber && (kind < Text.WORD || kind >= Text.WORD + Rule.WORDS)) {
                return text.fails(Text.CANNOT_STAND);
            }
            if (isNumber && text.value() == NONE) {
                return text.fails(Text.BAD_NUMBER);
            }
            if (partCount >= MOST_PARTS) {
                return text.fails(Text.TOO_MANY_PARTS);
            }
            partCount++;
            into.add(isNumber ? Rule.PUSH_NUMBER : Rule.PUSH_WORD, isNumber ? text.value() : kind - Text.WORD);
            text.step();
            return true;
        }

        /** The step that a sign stands for; NONE, if it stands for none. */
        private static int stepOf(int kind) {
            switch (kind) {
                case '+':
                    return Rule.PLUS;
                case '-':
                    return Rule.MINUS;
                case '*':
                    return Rule.TIMES;
                case '/':
                    return Rule.OVER;
                case '%':
                    return Rule.REST;
                case '<':
                    return Rule.LESS;
                case '<' + Text.OR_LIKE:
                    return Rule.LESS_OR_LIKE;
                case '=':
                    return Rule.LIKE;
                case '>' + Text.OR_LIKE:
                    return Rule.MORE_OR_LIKE;
                case '>':
                    return Rule.MORE;
                default:
                    return NONE;
            }
        }
    }
}
