import java.util.Arrays;
import java.util.NoSuchElementException;

/** Pages of memory that are mapped on, granted away and flushed along a tree of deeds. */
public final class FrameHeirs {
    public static final int NONE = -1;

    private static final int MOST_SPACES = 6;
    private static final int MOST_PLACES = 32;
    private static final int LINE_PLACES = 8;
    private static final int TOP_ORDER = 3;
    private static final int ALL_RIGHTS = 7;
    /** No two deeds of a space share a place, so there are never more deeds than places. */
    private static final int SLOTS = 192;
    private static final int MOST_STEPS = 24;
    private static final int STEP_ROW = 7;
    private static final int MOST_JOBS = 6;
    private static final int JOB_ROW = 4;
    private static final int MOST_WORK = 99;
    private static final int ROUNDS = 12;
    private static final int MOST_COOLING = 99;
    private static final int MOST_CHURN = 20;
    private static final int MOST_PAST = 20;
    private static final int TAPE_BYTES = 700;
    private static final int FEED_BYTES = 20;

    private static final int WORD_SPACE = 0;
    private static final int WORD_PAGER = 1;
    private static final int WORD_QUOTA = 2;
    private static final int WORD_SIZE = 3;
    private static final int WORD_BUDGET = 4;
    private static final int WORD_DECAY = 5;
    private static final int WORD_SEED = 6;
    private static final int WORD_MAP = 7;
    private static final int WORD_GRANT = 8;
    private static final int WORD_FLUSH = 9;
    private static final int WORD_TOUCH = 10;
    private static final int WORD_SERVE = 11;

    private final int[] tape = new int[TAPE_BYTES];
    private int taped = 0;
    private Script spareScript = new Script();
    private final Reader reader = new Reader(tape, spareScript);
    private World now = new World(new Script());
    /** The world as it was ahead of the call that goes on. */
    private World before = new World(now.script);
    /** A copy in which things are tried out. */
    private final World trial = new World(now.script);
    /** A ring: what can be undone ends ahead of pastNext. */
    private final World[] past = new World[MOST_PAST];
    private int pastNext = 0;
    private int pastKept = 0;

    public FrameHeirs() {
    }

    public int feed(int a, int b, int c, int d, int e) {
        if (taped + FEED_BYTES > TAPE_BYTES) {
            return NONE;
        }
        tapeNumber(a);
        tapeNumber(b);
        tapeNumber(c);
        tapeNumber(d);
        tapeNumber(e);
        return taped;
    }

    public int text(int n) {
        if (n < 0 || n > taped) {
            return -2;
        }
        taped = 0;
        reader.begin(n, spareScript);
        for (int i = 0; i < n && reader.hasMore(); i++) {
            if (!reader.readLine()) {
                return NONE;
            }
        }
        Script told = spareScript;
        spareScript = now.script;
        now.begin(told);
        pastKept = 0;
        return told.lines;
    }

    public int fault(int what) {
        if (what == 0) {
            return reader.faultKind;
        }
        return what == 1 ? reader.faultPlace : NONE;
    }

    public int named(int letters) {
        return now.script.spaceNamed(letters);
    }

    public int map(int from, int region, int to, int at, int rights) {
        remember();
        return keep(now.handOn(from, region, to, at, rights));
    }

    public int grant(int from, int region, int to, int at) {
        remember();
        return keep(now.giveAway(from, region, to, at));
    }

    public int flush(int space, int region, int rights, boolean itself) {
        remember();
        return keep(now.startFlush(space, region, rights, itself));
    }

    public int work(int n) {
        if (n < 0 || n > MOST_WORK) {
            return NONE;
        }
        remember();
        return keep(now.workOn(n));
    }

    public int touch(int space, int place, int right) {
        remember();
        return keep(now.touchPage(space, place, right));
    }

    public int serve(int space) {
        remember();
        return keep(now.serveFirst(space));
    }

    public int settle() {
        remember();
        return keep(now.settleAll());
    }

    public int tick() {
        remember();
        now.deeds.coolDown(now.script.decay);
        return keep(now.deeds.used);
    }

    public int tidy(int space) {
        remember();
        return keep(now.joinAll(space));
    }

    public int run(int n) {
        if (n < 0 || n > MOST_STEPS) {
            return NONE;
        }
        remember();
        int ran = 0;
        while (ran < n && now.done < now.script.stepCount) {
            now.performNext();
            now.workOn(now.script.budget);
            ran++;
        }
        return keep(ran);
    }

    public int answer(int step) {
        if (step < 0 || step >= now.script.stepCount || step >= MOST_STEPS) {
            return -10;
        }
        return step < now.done ? now.answers[step] : -9;
    }

    public int deed(int space, int place, int what) throws IndexOutOfBoundsException, NoSuchElementException {
        if (!now.isPlace(space, place)) {
            throw new IndexOutOfBoundsException("no such space or place");
        }
        if (what < 0 || what > 7) {
            throw new NoSuchElementException("no such what");
        }
        int at = now.deeds.find(space, place);
        return at < 0 ? -2 : Questions.tell(now.deeds, at, place, what);
    }

    public int above(int space, int place, int k) {
        if (!now.isPlace(space, place) || k < 1) {
            return NONE;
        }
        return Questions.placeAbove(now.deeds, space, place, k);
    }

    public int heir(int space, int place, int k) {
        if (!now.isPlace(space, place) || k < 0) {
            return NONE;
        }
        return Questions.placeOfHeir(now.deeds, space, place, k);
    }

    public int holds(int frame, int rights) {
        if (!now.isFrame(frame) || !areRights(rights)) {
            return NONE;
        }
        return Questions.holders(now.deeds, frame, rights);
    }

    public int aliases(int space, int frame) {
        if (!now.isSpace(space) || !now.isFrame(frame)) {
            return NONE;
        }
        return Questions.placesOf(now.deeds, space, frame);
    }

    public int reach(int one, int other) {
        if (!now.isSpace(one) || !now.isSpace(other)) {
            return NONE;
        }
        return Questions.pagesBeneath(now.deeds, one, other);
    }

    public int shared(int one, int other) {
        if (!now.isSpace(one) || !now.isSpace(other)) {
            return NONE;
        }
        return Integer.bitCount(Questions.framesOf(now.deeds, one) & Questions.framesOf(now.deeds, other));
    }

    public int gates(int one, int other) {
        if (!now.areTwo(one, other)) {
            return NONE;
        }
        return Questions.partings(now.deeds, one, other);
    }

    public int gap(int space, int order) {
        if (!now.isSpace(space) || order < 0 || order > TOP_ORDER) {
            return NONE;
        }
        return now.firstGap(space, order);
    }

    public int free(int space) {
        return now.isSpace(space) ? now.roomOf(space) : NONE;
    }

    public int coldest(int space) {
        if (!now.isSpace(space)) {
            return NONE;
        }
        int found = now.deeds.coldestOf(space, false);
        return found < 0 ? -2 : now.deeds.place[found];
    }

    public int age(int space, int place) {
        if (!now.isPlace(space, place)) {
            return NONE;
        }
        int found = now.deeds.find(space, place);
        return found < 0 ? -2 : bitsOf(now.deeds.ages[found]);
    }

    public int warmth(int space) {
        return now.isSpace(space) ? bitsOf(now.deeds.warmthOf(space)) : NONE;
    }

    public int ratio(int one, int other) {
        if (!now.isSpace(one) || !now.isSpace(other)) {
            return NONE;
        }
        float divisor = now.deeds.warmthOf(other);
        if (!(divisor > 0f)) {
            return -2;
        }
        float hundredfold = now.deeds.warmthOf(one) * 100f;
        float quotient = hundredfold / divisor;
        return quotient >= 2147483647f ? 2147483647 : (int) quotient;
    }

    public int cool(int space) {
        if (!now.isSpace(space)) {
            return NONE;
        }
        trial.copyFrom(now);
        for (int ticks = 0; ticks <= MOST_COOLING; ticks++) {
            if (trial.deeds.warmthOf(space) < 1f) {
                return ticks;
            }
            trial.deeds.coolDown(trial.script.decay);
        }
        return -2;
    }

    public int kept(int space) {
        return now.isSpace(space) ? now.keptFor(space) : NONE;
    }

    public int job(int k, int what) {
        if (k < 0 || k >= now.jobCount || what < 0 || what > 3) {
            return NONE;
        }
        return now.tellJob(k, what);
    }

    public int waits(int space, int what) {
        if (!now.isSpace(space) || what < 0 || what > 3) {
            return NONE;
        }
        return now.tellWait(space, what);
    }

    public int lost(int space, int region, int what) {
        if (!now.isRegionOf(space, region) || what < 0 || what > 1) {
            return NONE;
        }
        return Questions.loss(now.deeds, space, region, what);
    }

    public int steps(int space, int region) {
        trial.copyFrom(now);
        return trial.startFlush(space, region, ALL_RIGHTS, false);
    }

    public int tried(int what) {
        switch (what) {
            case 0:
                trial.copyFrom(now);
                trial.settleAll();
                return trial.deeds.pagesOfAll();
            case 1:
                trial.copyFrom(now);
                trial.settleAll();
                return trial.refused - now.refused;
            case 2:
                return now.deeds.allToDo();
            case 3:
                trial.copyFrom(now);
                trial.workOn(now.deeds.allToDo());
                return trial.deeds.pagesOfAll();
            case 4:
                trial.copyFrom(now);
                for (int space = 0; space < trial.script.spaces; space++) {
                    trial.joinAll(space);
                }
                return trial.deeds.used;
            default:
                return NONE;
        }
    }

    public int churn(int seed, int n) {
        if (seed < -1 || n < 1 || n > MOST_CHURN) {
            return NONE;
        }
        int spaces = now.script.spaces;
        int size = now.script.size;
        if (spaces < 1 || size < 1) {
            return -2;
        }
        trial.copyFrom(now);
        int last = seed < 0 ? now.script.seed : seed;
        int hits = 0;
        for (int i = 0; i < n; i++) {
            last = drawnAfter(last);
            int space = (last >> 16) % spaces;
            last = drawnAfter(last);
            int place = (last >> 16) % size;
            last = drawnAfter(last);
            if (trial.touchPage(space, place, 1 << (last >> 16) % 3) >= 0) {
                hits++;
            }
            trial.settleAll();
        }
        return hits;
    }

    public int undo() {
        if (pastKept < 1) {
            return NONE;
        }
        int latest = (pastNext + MOST_PAST - 1) % MOST_PAST;
        World back = past[latest];
        if (back == null) {
            return NONE;
        }
        past[latest] = now;
        now = back;
        pastNext = latest;
        pastKept--;
        return pastKept;
    }

    public int count(int what) {
        switch (what) {
            case 0:
                return now.script.spaces;
            case 1:
                return now.script.size;
            case 2:
                return now.deeds.used;
            case 3:
                return now.deeds.pagesOfAll();
            case 4:
                return now.jobCount;
            case 5:
                return now.script.stepCount;
            case 6:
                return now.done;
            case 7:
                return now.deeds.splits;
            case 8:
                return now.faults;
            case 9:
                return now.refused;
            case 10:
                return now.worked;
            case 11:
                return Questions.mostAbove(now.deeds);
            case 12:
                return pastKept;
            default:
                return NONE;
        }
    }

    private void tapeNumber(int number) {
        for (int shift = 24; shift >= 0 && taped < TAPE_BYTES; shift -= 8) {
            tape[taped] = number >> shift & 255;
            taped++;
        }
    }

    private void remember() {
        before.copyFrom(now);
    }

    /** What fell out of the past is written over by the next remembering, so that no more worlds are made. */
    private int keep(int given) {
        if (given != NONE) {
            World oldest = past[pastNext];
            past[pastNext] = before;
            before = oldest == null ? new World(now.script) : oldest;
            pastNext = (pastNext + 1) % MOST_PAST;
            pastKept = Math.min(pastKept + 1, MOST_PAST);
        }
        return given;
    }

    private static int drawnAfter(int last) {
        return last * 1103515245 + 12345 & 2147483647;
    }

    private static boolean areRights(int rights) {
        return rights >= 1 && rights <= ALL_RIGHTS;
    }

    /** A double holds each float, also the smallest ones, with a full exponent: so halving and doubling are exact. */
    private static int bitsOf(float value) {
        if (!(value > 0f)) {
            return 0;
        }
        if (value > 3.4028235E38f) {
            return 255 << 23;
        }
        double part = value;
        int exponent = 0;
        while (part >= 2.0 && exponent < 127) {
            part = part / 2.0;
            exponent++;
        }
        while (part < 1.0 && exponent > -126) {
            part = part * 2.0;
            exponent--;
        }
        int digits = (int) (part * 8388608.0);
        return part < 1.0 ? digits : (exponent + 126 << 23) + digits;
    }

    /** What a TEXT tells. */
    private static final class Script {
        final int[] names = new int[MOST_SPACES];
        final int[] pagers = new int[MOST_SPACES];
        final int[] ways = new int[MOST_SPACES];
        final int[] quotas = new int[MOST_SPACES];
        final int[] stepRows = new int[MOST_STEPS * STEP_ROW];
        int spaces = 0;
        int size = 16;
        int budget = 2;
        int decay = 5;
        int seed = 0;
        int stepCount = 0;
        int lines = 0;

        void clear() {
            spaces = 0;
            size = 16;
            budget = 2;
            decay = 5;
            seed = 0;
            stepCount = 0;
            lines = 0;
        }

        void addSpace(int name) {
            if (spaces < MOST_SPACES) {
                names[spaces] = name;
                pagers[spaces] = NONE;
                ways[spaces] = 0;
                quotas[spaces] = MOST_PLACES;
                spaces++;
            }
        }

        int spaceNamed(int name) {
            for (int space = 0; space < spaces; space++) {
                if (names[space] == name) {
                    return space;
                }
            }
            return NONE;
        }
    }

    /** Reads a TEXT into a Script, up to its first FAULT. */
    private static final class Reader {
        private static final int END = 0;
        private static final int NAME = 1;
        private static final int LANGUAGE = 2;
        private static final int NUMBER = 3;
        private static final int SEMICOLON = 4;
        private static final int WRONG = 5;

        /** The words of the language in their numbers' order, packed as a name is: five bits a letter. */
        private static final int[] WORDS = {
            's' - 96 << 25 | 'p' - 96 << 20 | 'a' - 96 << 15 | 'c' - 96 << 10 | 'e' - 96 << 5,
            'p' - 96 << 25 | 'a' - 96 << 20 | 'g' - 96 << 15 | 'e' - 96 << 10 | 'r' - 96 << 5,
            'q' - 96 << 25 | 'u' - 96 << 20 | 'o' - 96 << 15 | 't' - 96 << 10 | 'a' - 96 << 5,
            's' - 96 << 25 | 'i' - 96 << 20 | 'z' - 96 << 15 | 'e' - 96 << 10,
            'b' - 96 << 25 | 'u' - 96 << 20 | 'd' - 96 << 15 | 'g' - 96 << 10 | 'e' - 96 << 5 | 't' - 96,
            'd' - 96 << 25 | 'e' - 96 << 20 | 'c' - 96 << 15 | 'a' - 96 << 10 | 'y' - 96 << 5,
            's' - 96 << 25 | 'e' - 96 << 20 | 'e' - 96 << 15 | 'd' - 96 << 10,
            'm' - 96 << 25 | 'a' - 96 << 20 | 'p' - 96 << 15,
            'g' - 96 << 25 | 'r' - 96 << 20 | 'a' - 96 << 15 | 'n' - 96 << 10 | 't' - 96 << 5,
            'f' - 96 << 25 | 'l' - 96 << 20 | 'u' - 96 << 15 | 's' - 96 << 10 | 'h' - 96 << 5,
            't' - 96 << 25 | 'o' - 96 << 20 | 'u' - 96 << 15 | 'c' - 96 << 10 | 'h' - 96 << 5,
            's' - 96 << 25 | 'e' - 96 << 20 | 'r' - 96 << 15 | 'v' - 96 << 10 | 'e' - 96 << 5
        };

        private static final int ARG_SPACE = 0;
        private static final int ARG_PLACE = 1;
        private static final int ARG_ORDER = 2;
        private static final int ARG_RIGHTS = 3;
        private static final int ARG_ITSELF = 4;
        private static final int ARG_RIGHT = 5;
        private static final int[] LOWEST = {0, 0, 0, 1, 0, 1};
        private static final int[] HIGHEST = {5, 31, 3, 7, 1, 4};
        private static final int[] MAP_FORM = {ARG_SPACE, ARG_PLACE, ARG_SPACE, ARG_PLACE, ARG_ORDER, ARG_RIGHTS};
        private static final int[] GRANT_FORM = {ARG_SPACE, ARG_PLACE, ARG_SPACE, ARG_PLACE, ARG_ORDER};
        private static final int[] FLUSH_FORM = {ARG_SPACE, ARG_PLACE, ARG_ORDER, ARG_RIGHTS, ARG_ITSELF};
        private static final int[] TOUCH_FORM = {ARG_SPACE, ARG_PLACE, ARG_RIGHT};
        private static final int[] SERVE_FORM = {ARG_SPACE};

        private static final int NUMBER_CAP = 1000000;
        private static final int LETTERS = 6;

        int faultKind = 0;
        int faultPlace = NONE;
        private final int[] bytes;
        private int length = 0;
        private int position = 0;
        private int kind = END;
        private int start = 0;
        private int value = 0;
        /** The words of the language that may come once and came, as bits; of quotas those of the spaces. */
        private int toldWords = 0;
        private int toldQuotas = 0;
        private Script into;

        Reader(int[] tape, Script script) {
            bytes = tape;
            into = script;
        }

        void begin(int n, Script script) {
            length = Math.min(n, bytes.length);
            position = 0;
            into = script;
            into.clear();
            toldWords = 0;
            toldQuotas = 0;
            faultKind = 0;
            faultPlace = NONE;
        }

        /** Moves to the word of the next line; false: there is no line more. */
        boolean hasMore() {
            take();
            return kind != END;
        }

        /** Reads a line from its word on; false: a FAULT is in it. */
        boolean readLine() {
            if (kind != LANGUAGE) {
                return fail(1);
            }
            boolean fine;
            switch (value) {
                case WORD_SPACE:
                    fine = readSpace();
                    break;
                case WORD_PAGER:
                    fine = readPager();
                    break;
                case WORD_QUOTA:
                    fine = readQuota();
                    break;
                case WORD_SIZE:
                case WORD_BUDGET:
                case WORD_DECAY:
                case WORD_SEED:
                    fine = readSetting(value);
                    break;
                default:
                    fine = readStep(value);
                    break;
            }
            if (!fine) {
                return false;
            }
            take();
            if (kind != SEMICOLON) {
                return fail(1);
            }
            into.lines++;
            return true;
        }

        private boolean readSpace() {
            if (into.spaces >= MOST_SPACES) {
                return fail(2);
            }
            take();
            if (kind != NAME) {
                return fail(1);
            }
            if (into.spaceNamed(value) >= 0) {
                return fail(3);
            }
            into.addSpace(value);
            return true;
        }

        private boolean readPager() {
            int space = takeSpace();
            if (space < 0) {
                return false;
            }
            if (into.pagers[space] >= 0) {
                return fail(3);
            }
            if (space == 0) {
                return fail(5);
            }
            int pager = takeSpace();
            if (pager < 0) {
                return false;
            }
            if (pager == space) {
                return fail(5);
            }
            int way = takeNumber(0, 3);
            if (way < 0) {
                return false;
            }
            into.pagers[space] = pager;
            into.ways[space] = way;
            return true;
        }

        private boolean readQuota() {
            int space = takeSpace();
            if (space < 0) {
                return false;
            }
            if ((toldQuotas >> space & 1) != 0) {
                return fail(3);
            }
            int quota = takeNumber(1, MOST_PLACES);
            if (quota < 0) {
                return false;
            }
            into.quotas[space] = quota;
            toldQuotas |= 1 << space;
            return true;
        }

        private boolean readSetting(int word) {
            if (word == WORD_SIZE && into.stepCount > 0) {
                return fail(1);
            }
            if ((toldWords >> word & 1) != 0) {
                return fail(3);
            }
            toldWords |= 1 << word;
            switch (word) {
                case WORD_SIZE:
                    int size = takeNumber(8, 32);
                    if (size == NONE) {
                        return false;
                    }
                    into.size = size;
                    return size == 8 || size == 16 || size == 32 || fail(2);
                case WORD_BUDGET:
                    into.budget = takeNumber(0, 9);
                    return into.budget >= 0;
                case WORD_DECAY:
                    into.decay = takeNumber(1, 9);
                    return into.decay >= 0;
                default:
                    into.seed = takeNumber(0, 99999);
                    return into.seed >= 0;
            }
        }

        private boolean readStep(int word) {
            if (into.stepCount >= MOST_STEPS) {
                return fail(2);
            }
            int[] form = formOf(word);
            int row = into.stepCount * STEP_ROW;
            into.stepRows[row] = word;
            for (int i = 0; i < form.length && i + 1 < STEP_ROW; i++) {
                int argument = form[i];
                int given = argument == ARG_SPACE ? takeSpace() : takeNumber(LOWEST[argument], HIGHEST[argument]);
                if (given < 0) {
                    return false;
                }
                into.stepRows[row + 1 + i] = given;
            }
            into.stepCount++;
            return true;
        }

        private static int[] formOf(int word) {
            switch (word) {
                case WORD_MAP:
                    return MAP_FORM;
                case WORD_GRANT:
                    return GRANT_FORM;
                case WORD_FLUSH:
                    return FLUSH_FORM;
                case WORD_TOUCH:
                    return TOUCH_FORM;
                default:
                    return SERVE_FORM;
            }
        }

        /** The number of a space told ahead; NONE behind a FAULT. */
        private int takeSpace() {
            take();
            if (kind != NAME) {
                fail(1);
                return NONE;
            }
            int space = into.spaceNamed(value);
            if (space < 0) {
                fail(4);
            }
            return space;
        }

        /** A number within bounds; NONE behind a FAULT. */
        private int takeNumber(int lowest, int highest) {
            take();
            if (kind != NUMBER) {
                fail(1);
                return NONE;
            }
            if (value < lowest || value > highest) {
                fail(2);
                return NONE;
            }
            return value;
        }

        private boolean fail(int fault) {
            faultKind = fault;
            faultPlace = start;
            return false;
        }

        private void take() {
            while (position < length && isBlank(bytes[position])) {
                position++;
            }
            start = position;
            if (position >= length) {
                kind = END;
            } else if (isLetter(bytes[position])) {
                takeWord();
            } else if (isDigit(bytes[position])) {
                takeDigits();
            } else {
                kind = bytes[position] == ';' ? SEMICOLON : WRONG;
                position++;
            }
        }

        private void takeWord() {
            int packed = 0;
            int letters = 0;
            while (position < length && isLetter(bytes[position])) {
                if (letters < LETTERS) {
                    packed |= bytes[position] - 'a' + 1 << 25 - 5 * letters;
                }
                letters++;
                position++;
            }
            kind = letters > LETTERS ? WRONG : NAME;
            value = packed;
            for (int word = 0; word < WORDS.length && kind == NAME; word++) {
                if (WORDS[word] == packed) {
                    kind = LANGUAGE;
                    value = word;
                }
            }
        }

        /** A number beyond the cap stays at it: it is beyond all that a text may say. */
        private void takeDigits() {
            int number = 0;
            while (position < length && isDigit(bytes[position])) {
                number = Math.min(number * 10 + bytes[position] - '0', NUMBER_CAP);
                position++;
            }
            kind = NUMBER;
            value = number;
        }

        private static boolean isBlank(int sign) {
            return sign == 10 || sign == 32;
        }

        private static boolean isLetter(int sign) {
            return sign >= 'a' && sign <= 'z';
        }

        private static boolean isDigit(int sign) {
            return sign >= '0' && sign <= '9';
        }
    }

    /** The deeds of all spaces: a row of each by its slot, and which slot stands at each place. */
    private static final class Deeds {
        final int[] space = new int[SLOTS];
        final int[] place = new int[SLOTS];
        final int[] frame = new int[SLOTS];
        /** NONE: the slot is empty. */
        final int[] order = new int[SLOTS];
        final int[] rights = new int[SLOTS];
        final int[] giver = new int[SLOTS];
        final int[] first = new int[SLOTS];
        final int[] last = new int[SLOTS];
        final int[] next = new int[SLOTS];
        final int[] previous = new int[SLOTS];
        /** The number of the job that the deed is a top of; 0: of none. */
        final int[] topOf = new int[SLOTS];
        /** The number of the job that has yet to do the deed, and its turn there; 0: none. */
        final int[] toDo = new int[SLOTS];
        final int[] turn = new int[SLOTS];
        final float[] ages = new float[SLOTS];
        final int[] slotAt = new int[SLOTS];
        /** Slots for the time of one call; nothing in it lasts. */
        final int[] list = new int[SLOTS];
        /** No slot from here on was ever used, so that a look at all deeds ends here. */
        int bound = 0;
        int used = 0;
        /** How many deeds are tops of jobs. */
        private int tops = 0;
        int splits = 0;

        Deeds() {
            Arrays.fill(slotAt, NONE);
        }

        void clear() {
            Arrays.fill(slotAt, NONE);
            bound = 0;
            used = 0;
            tops = 0;
            splits = 0;
        }

        void copyFrom(Deeds other) {
            System.arraycopy(other.space, 0, space, 0, other.bound);
            System.arraycopy(other.place, 0, place, 0, other.bound);
            System.arraycopy(other.frame, 0, frame, 0, other.bound);
            System.arraycopy(other.order, 0, order, 0, other.bound);
            System.arraycopy(other.rights, 0, rights, 0, other.bound);
            System.arraycopy(other.giver, 0, giver, 0, other.bound);
            System.arraycopy(other.first, 0, first, 0, other.bound);
            System.arraycopy(other.last, 0, last, 0, other.bound);
            System.arraycopy(other.next, 0, next, 0, other.bound);
            System.arraycopy(other.previous, 0, previous, 0, other.bound);
            System.arraycopy(other.topOf, 0, topOf, 0, other.bound);
            System.arraycopy(other.toDo, 0, toDo, 0, other.bound);
            System.arraycopy(other.turn, 0, turn, 0, other.bound);
            System.arraycopy(other.ages, 0, ages, 0, other.bound);
            System.arraycopy(other.slotAt, 0, slotAt, 0, SLOTS);
            bound = other.bound;
            used = other.used;
            tops = other.tops;
            splits = other.splits;
        }

        /** The slot of the deed at a place; NONE: there is none, or no such place. */
        int find(int ofSpace, int atPlace) {
            if (ofSpace < 0 || ofSpace >= MOST_SPACES || atPlace < 0 || atPlace >= MOST_PLACES) {
                return NONE;
            }
            return slotAt[ofSpace * MOST_PLACES + atPlace];
        }

        int pagesIn(int ofSpace, int from, int pages) {
            if (ofSpace < 0 || ofSpace >= MOST_SPACES || from < 0 || from + pages > MOST_PLACES) {
                return 0;
            }
            int found = 0;
            for (int i = from; i < from + pages; i++) {
                if (slotAt[ofSpace * MOST_PLACES + i] >= 0) {
                    found++;
                }
            }
            return found;
        }

        int pagesOf(int ofSpace) {
            return pagesIn(ofSpace, 0, MOST_PLACES);
        }

        int pagesOfAll() {
            int pages = 0;
            for (int slot = 0; slot < bound; slot++) {
                if (order[slot] >= 0) {
                    pages += 1 << order[slot];
                }
            }
            return pages;
        }

        /** A deed without giver and heirs; NONE: there is no empty slot, which more places than slots would need. */
        int make(int ofSpace, int atPlace, int ofFrame, int ofOrder, int withRights) {
            int slot = 0;
            while (slot < bound && order[slot] >= 0) {
                slot++;
            }
            if (slot >= SLOTS) {
                return NONE;
            }
            bound = Math.max(bound, slot + 1);
            space[slot] = ofSpace;
            place[slot] = atPlace;
            frame[slot] = ofFrame;
            order[slot] = ofOrder;
            rights[slot] = withRights;
            giver[slot] = NONE;
            first[slot] = NONE;
            last[slot] = NONE;
            next[slot] = NONE;
            previous[slot] = NONE;
            topOf[slot] = 0;
            toDo[slot] = 0;
            turn[slot] = 0;
            ages[slot] = 0f;
            used++;
            settleAt(slot, slot);
            return slot;
        }

        /** Writes at all places of a deed which slot stands there. */
        private void settleAt(int slot, int standing) {
            int from = space[slot] * MOST_PLACES + place[slot];
            int pages = 1 << order[slot];
            for (int i = 0; i < pages; i++) {
                if (from + i >= 0 && from + i < SLOTS) {
                    slotAt[from + i] = standing;
                }
            }
        }

        private void release(int slot) {
            settleAt(slot, NONE);
            order[slot] = NONE;
            tops -= topOf[slot] == 0 ? 0 : 1;
            used--;
        }

        void moveTo(int slot, int toSpace, int toPlace) {
            settleAt(slot, NONE);
            space[slot] = toSpace;
            place[slot] = toPlace;
            settleAt(slot, slot);
        }

        /** Makes a deed without giver the last heir of another one. */
        void append(int slot, int toGiver) {
            int ahead = last[toGiver];
            giver[slot] = toGiver;
            previous[slot] = ahead;
            next[slot] = NONE;
            last[toGiver] = slot;
            if (ahead >= 0) {
                next[ahead] = slot;
            } else {
                first[toGiver] = slot;
            }
        }

        /** Puts a deed without giver next to another one among that one's giver's heirs. */
        private void putBehind(int slot, int ahead) {
            int parent = giver[ahead];
            if (parent < 0) {
                return;
            }
            int behind = next[ahead];
            giver[slot] = parent;
            previous[slot] = ahead;
            next[slot] = behind;
            next[ahead] = slot;
            if (behind >= 0) {
                previous[behind] = slot;
            } else {
                last[parent] = slot;
            }
        }

        private void takeFromGiver(int slot) {
            int parent = giver[slot];
            if (parent < 0) {
                return;
            }
            int ahead = previous[slot];
            int behind = next[slot];
            if (ahead >= 0) {
                next[ahead] = behind;
            } else {
                first[parent] = behind;
            }
            if (behind >= 0) {
                previous[behind] = ahead;
            } else {
                last[parent] = ahead;
            }
            giver[slot] = NONE;
            previous[slot] = NONE;
            next[slot] = NONE;
        }

        /** The deed and all beneath it are gone. */
        void remove(int slot) {
            if (slot < 0 || giver[slot] < 0) {
                return;
            }
            takeFromGiver(slot);
            int current = deepest(slot);
            for (int i = 0; i < SLOTS && current >= 0; i++) {
                int following = current == slot ? NONE : afterwards(current);
                release(current);
                current = following;
            }
        }

        /** The first of a deed and all beneath it in the order in which each deed comes behind its heirs. */
        int deepest(int slot) {
            int current = slot;
            for (int i = 0; i < SLOTS && first[current] >= 0; i++) {
                current = first[current];
            }
            return current;
        }

        /** The next one in that order; NONE behind one without giver. */
        int afterwards(int slot) {
            return next[slot] >= 0 ? deepest(next[slot]) : giver[slot];
        }

        /** Splits the deed that reaches over a region till one has just the region. */
        void cut(int ofSpace, int atPlace, int toOrder) {
            for (int i = 0; i < TOP_ORDER; i++) {
                int slot = find(ofSpace, atPlace);
                if (slot < 0 || order[slot] <= toOrder) {
                    return;
                }
                for (int j = listAlike(slot) - 1; j >= 0; j--) {
                    halve(list[j]);
                }
            }
        }

        /** Lists a deed and those that must be split with it, each ahead of its heirs; how many they are. */
        private int listAlike(int slot) {
            int whole = order[slot];
            list[0] = slot;
            int listed = 1;
            for (int i = 0; i < listed; i++) {
                int child = first[list[i]];
                for (int j = 0; j < SLOTS && child >= 0; j++) {
                    if (order[child] == whole && listed < SLOTS) {
                        list[listed] = child;
                        listed++;
                    }
                    child = next[child];
                }
            }
            return listed;
        }

        /** The slot stays the lower half's; each heir fits into one half, as those of the same order are split ahead. */
        private void halve(int lower) {
            int half = 1 << order[lower] - 1;
            order[lower]--;
            int upper = make(space[lower], place[lower] + half, frame[lower] + half, order[lower], rights[lower]);
            if (upper < 0) {
                return;
            }
            ages[upper] = ages[lower];
            putBehind(upper, lower);
            int child = first[lower];
            for (int i = 0; i < SLOTS && child >= 0; i++) {
                int following = next[child];
                if (frame[child] >= frame[upper]) {
                    takeFromGiver(child);
                    append(child, upper);
                }
                child = following;
            }
            splits++;
        }

        /** Joins the first two deeds of a space that can be joined; false: there are none. */
        boolean joinTwo(int ofSpace) {
            for (int ofOrder = 0; ofOrder < TOP_ORDER; ofOrder++) {
                int pages = 1 << ofOrder;
                for (int from = 0; from < MOST_PLACES; from += 2 * pages) {
                    int lower = find(ofSpace, from);
                    int upper = find(ofSpace, from + pages);
                    if (lower >= 0 && upper >= 0 && areHalves(lower, upper, ofOrder)) {
                        join(lower, upper);
                        return true;
                    }
                }
            }
            return false;
        }

        private boolean areHalves(int lower, int upper, int ofOrder) {
            int pages = 1 << ofOrder;
            return order[lower] == ofOrder && order[upper] == ofOrder
                && (frame[lower] & 2 * pages - 1) == 0 && frame[upper] == frame[lower] + pages
                && rights[lower] == rights[upper] && giver[lower] == giver[upper]
                && !isBusy(lower) && !isBusy(upper);
        }

        private void join(int lower, int upper) {
            takeFromGiver(upper);
            int child = first[upper];
            for (int i = 0; i < SLOTS && child >= 0; i++) {
                int following = next[child];
                takeFromGiver(child);
                append(child, lower);
                child = following;
            }
            ages[lower] = (ages[lower] + ages[upper]) / 2f;
            release(upper);
            order[lower]++;
            settleAt(lower, lower);
        }

        boolean isBeneath(int slot, int other) {
            int current = giver[slot];
            for (int i = 0; i < SLOTS && current >= 0; i++) {
                if (current == other) {
                    return true;
                }
                current = giver[current];
            }
            return false;
        }

        boolean isBusy(int slot) {
            int current = slot;
            for (int i = 0; i < SLOTS && current >= 0 && tops > 0; i++) {
                if (topOf[current] != 0) {
                    return true;
                }
                current = giver[current];
            }
            return false;
        }

        /** Whether a deed is busy or has a busy one beneath. */
        boolean isTied(int slot) {
            if (isBusy(slot)) {
                return true;
            }
            for (int top = 0; top < bound && tops > 0; top++) {
                if (order[top] >= 0 && topOf[top] != 0 && isBeneath(top, slot)) {
                    return true;
                }
            }
            return false;
        }

        /** The coldest deed of a space, if asked only of those that may go; NONE: there is none. */
        int coldestOf(int ofSpace, boolean thatMayGo) {
            int found = NONE;
            for (int from = 0; from < MOST_PLACES; from++) {
                int slot = find(ofSpace, from);
                if (slot < 0 || place[slot] != from || found >= 0 && ages[slot] >= ages[found]) {
                    continue;
                }
                if (!thatMayGo || giver[slot] >= 0 && !isTied(slot)) {
                    found = slot;
                }
            }
            return found;
        }

        float warmthOf(int ofSpace) {
            float sum = 0f;
            for (int from = 0; from < MOST_PLACES; from++) {
                int slot = find(ofSpace, from);
                if (slot >= 0 && place[slot] == from) {
                    float pages = (float) (1 << order[slot]);
                    float part = ages[slot] * pages;
                    sum = sum + part;
                }
            }
            return sum;
        }

        void coolDown(int decay) {
            float factor = (float) decay / 10f;
            for (int slot = 0; slot < bound; slot++) {
                if (order[slot] >= 0) {
                    ages[slot] = ages[slot] * factor;
                }
            }
        }

        int leftToDo(int jobNumber) {
            int left = 0;
            for (int slot = 0; slot < bound; slot++) {
                if (order[slot] >= 0 && toDo[slot] == jobNumber) {
                    left++;
                }
            }
            return left;
        }

        /** The deed of a job whose turn it is; NONE: all are done. */
        int firstToDo(int jobNumber) {
            int found = NONE;
            for (int slot = 0; slot < bound; slot++) {
                if (order[slot] >= 0 && toDo[slot] == jobNumber && (found < 0 || turn[slot] < turn[found])) {
                    found = slot;
                }
            }
            return found;
        }

        int allToDo() {
            int left = 0;
            for (int slot = 0; slot < bound; slot++) {
                if (order[slot] >= 0 && toDo[slot] != 0) {
                    left++;
                }
            }
            return left;
        }

        /** Queues all beneath a top, and the top if asked, behind the turns given already; how many turns there are then. */
        int queueBeneath(int top, boolean itself, int jobNumber, int turns) {
            int given = turns;
            int current = deepest(top);
            for (int i = 0; i < SLOTS && current >= 0; i++) {
                if (toDo[current] == 0 && (itself || current != top)) {
                    toDo[current] = jobNumber;
                    turn[current] = given;
                    given++;
                }
                current = current == top ? NONE : afterwards(current);
            }
            return given;
        }

        void markTop(int slot, int jobNumber) {
            topOf[slot] = jobNumber;
            tops++;
        }

        void endJob(int jobNumber) {
            for (int slot = 0; slot < bound; slot++) {
                if (order[slot] >= 0 && topOf[slot] == jobNumber) {
                    topOf[slot] = 0;
                    tops--;
                }
            }
        }
    }

    /** What the deeds tell when they are asked; nothing here changes them but their list. */
    private static final class Questions {
        private Questions() {
        }

        static int tell(Deeds deeds, int slot, int place, int what) {
            switch (what) {
                case 0:
                    return frameAt(deeds, slot, place);
                case 1:
                    return deeds.rights[slot];
                case 2:
                    return deeds.order[slot];
                case 3:
                    return deeds.place[slot];
                case 4:
                    return aboveOf(deeds, slot);
                case 5:
                    return heirsOf(deeds, slot);
                case 6:
                    return beneathOf(deeds, slot);
                default:
                    return deeds.isBusy(slot) ? 1 : 0;
            }
        }

        static int frameAt(Deeds deeds, int slot, int place) {
            return deeds.frame[slot] + place - deeds.place[slot];
        }

        private static int aboveOf(Deeds deeds, int slot) {
            int found = 0;
            int current = deeds.giver[slot];
            while (found < SLOTS && current >= 0) {
                found++;
                current = deeds.giver[current];
            }
            return found;
        }

        private static int heirsOf(Deeds deeds, int slot) {
            int found = 0;
            int child = deeds.first[slot];
            while (found < SLOTS && child >= 0) {
                found++;
                child = deeds.next[child];
            }
            return found;
        }

        private static int beneathOf(Deeds deeds, int slot) {
            int found = 0;
            int current = deeds.deepest(slot);
            while (found < SLOTS && current != slot && current >= 0) {
                found++;
                current = deeds.afterwards(current);
            }
            return found;
        }

        static int mostAbove(Deeds deeds) {
            int most = 0;
            for (int slot = 0; slot < deeds.bound; slot++) {
                if (deeds.order[slot] >= 0) {
                    most = Math.max(most, aboveOf(deeds, slot));
                }
            }
            return most;
        }

        static int placeAbove(Deeds deeds, int space, int place, int k) {
            int slot = deeds.find(space, place);
            if (slot < 0) {
                return -2;
            }
            int frame = frameAt(deeds, slot, place);
            for (int i = 0; i < k && i < SLOTS && slot >= 0; i++) {
                slot = deeds.giver[slot];
            }
            if (slot < 0) {
                return -2;
            }
            return 32 * deeds.space[slot] + deeds.place[slot] + frame - deeds.frame[slot];
        }

        static int placeOfHeir(Deeds deeds, int space, int place, int k) {
            int slot = deeds.find(space, place);
            if (slot < 0) {
                return -2;
            }
            int child = deeds.first[slot];
            for (int i = 0; i < k && i < SLOTS && child >= 0; i++) {
                child = deeds.next[child];
            }
            return child < 0 ? -2 : 32 * deeds.space[child] + deeds.place[child];
        }

        /** The frames of a deed, as bits. */
        private static int framesIn(Deeds deeds, int slot) {
            return (1 << (1 << deeds.order[slot])) - 1 << deeds.frame[slot];
        }

        static int framesOf(Deeds deeds, int space) {
            int frames = 0;
            for (int place = 0; place < MOST_PLACES; place++) {
                int slot = deeds.find(space, place);
                if (slot >= 0) {
                    frames |= 1 << frameAt(deeds, slot, place);
                }
            }
            return frames;
        }

        static int holders(Deeds deeds, int frame, int rights) {
            int spaces = 0;
            for (int slot = 0; slot < deeds.bound; slot++) {
                if (deeds.order[slot] >= 0 && (deeds.rights[slot] & rights) == rights
                    && (framesIn(deeds, slot) >> frame & 1) != 0) {
                    spaces |= 1 << deeds.space[slot];
                }
            }
            return spaces;
        }

        static int placesOf(Deeds deeds, int space, int frame) {
            int places = 0;
            for (int slot = 0; slot < deeds.bound; slot++) {
                if (deeds.order[slot] >= 0 && deeds.space[slot] == space
                    && (framesIn(deeds, slot) >> frame & 1) != 0) {
                    places++;
                }
            }
            return places;
        }

        static int pagesBeneath(Deeds deeds, int one, int other) {
            int pages = 0;
            for (int slot = 0; slot < deeds.bound; slot++) {
                if (deeds.order[slot] >= 0 && deeds.space[slot] == other && hasAbove(deeds, slot, one)) {
                    pages += 1 << deeds.order[slot];
                }
            }
            return pages;
        }

        private static boolean hasAbove(Deeds deeds, int slot, int space) {
            int current = deeds.giver[slot];
            for (int i = 0; i < SLOTS && current >= 0; i++) {
                if (deeds.space[current] == space) {
                    return true;
                }
                current = deeds.giver[current];
            }
            return false;
        }

        /** The highest gates of the second space's deeds: no two lie beneath one another, so each must go. */
        static int partings(Deeds deeds, int one, int other) {
            Arrays.fill(deeds.list, 0);
            int found = 0;
            for (int slot = 0; slot < deeds.bound; slot++) {
                if (deeds.order[slot] < 0 || deeds.space[slot] != other) {
                    continue;
                }
                int gate = highestGate(deeds, slot, one);
                if (gate >= 0 && deeds.list[gate] == 0) {
                    deeds.list[gate] = 1;
                    found++;
                }
            }
            return found;
        }

        private static int highestGate(Deeds deeds, int slot, int one) {
            int gate = NONE;
            int highest = NONE;
            int current = slot;
            for (int i = 0; i < SLOTS && current >= 0; i++) {
                if (deeds.space[current] == one) {
                    gate = highest;
                } else {
                    highest = current;
                }
                current = deeds.giver[current];
            }
            return gate;
        }

        /** Of deeds beneath those in a region what 0 their pages with the region's frames, 1 how many spaces have such. */
        static int loss(Deeds deeds, int space, int region, int what) {
            int from = region >> 2;
            int end = from + (1 << (region & 3));
            int frames = 0;
            for (int place = from; place < end; place++) {
                int slot = deeds.find(space, place);
                if (slot >= 0) {
                    frames |= 1 << frameAt(deeds, slot, place);
                }
            }
            if (frames == 0) {
                return -2;
            }
            int pages = 0;
            int spaces = 0;
            for (int slot = 0; slot < deeds.bound; slot++) {
                if (deeds.order[slot] >= 0 && isBeneathRegion(deeds, slot, space, from, end)) {
                    int both = framesIn(deeds, slot) & frames;
                    pages += Integer.bitCount(both);
                    spaces |= both == 0 ? 0 : 1 << deeds.space[slot];
                }
            }
            return what == 0 ? pages : Integer.bitCount(spaces);
        }

        private static boolean isBeneathRegion(Deeds deeds, int slot, int space, int from, int end) {
            int current = deeds.giver[slot];
            for (int i = 0; i < SLOTS && current >= 0; i++) {
                int first = deeds.place[current];
                if (deeds.space[current] == space && first < end && first + (1 << deeds.order[current]) > from) {
                    return true;
                }
                current = deeds.giver[current];
            }
            return false;
        }
    }

    /** All that an undo brings back: the deeds, the jobs, who waits, the lines, what is counted. */
    private static final class World {
        private static final int SEEN = 1;
        private static final int SEEN_BUSY = 2;
        private static final int SEEN_TIED = 4;
        private static final int SEEN_UNGIVEN = 8;

        Script script;
        final Deeds deeds = new Deeds();
        /** Of each job its number, space, place and rights. */
        private final int[] jobs = new int[MOST_JOBS * JOB_ROW];
        int jobCount = 0;
        private int jobsMade = 0;
        private final int[] waitPlace = new int[MOST_SPACES];
        private final int[] waitRight = new int[MOST_SPACES];
        /** Who came earlier has a smaller one; 0: the space doesn't wait. */
        private final int[] waitSince = new int[MOST_SPACES];
        private int waitsMade = 0;
        /** The wide lines of each space, as bits. */
        private final int[] wide = new int[MOST_SPACES];
        final int[] answers = new int[MOST_STEPS];
        int done = 0;
        int faults = 0;
        int refused = 0;
        int worked = 0;

        World(Script told) {
            script = told;
        }

        void begin(Script told) {
            script = told;
            deeds.clear();
            jobCount = 0;
            jobsMade = 0;
            Arrays.fill(waitSince, 0);
            waitsMade = 0;
            Arrays.fill(wide, 0);
            done = 0;
            faults = 0;
            refused = 0;
            worked = 0;
            for (int place = 0; place < told.size && told.spaces > 0; place += LINE_PLACES) {
                deeds.make(0, place, place, TOP_ORDER, ALL_RIGHTS);
                widen(0, place, TOP_ORDER);
            }
        }

        void copyFrom(World other) {
            script = other.script;
            deeds.copyFrom(other.deeds);
            System.arraycopy(other.jobs, 0, jobs, 0, MOST_JOBS * JOB_ROW);
            jobCount = other.jobCount;
            jobsMade = other.jobsMade;
            System.arraycopy(other.waitPlace, 0, waitPlace, 0, MOST_SPACES);
            System.arraycopy(other.waitRight, 0, waitRight, 0, MOST_SPACES);
            System.arraycopy(other.waitSince, 0, waitSince, 0, MOST_SPACES);
            waitsMade = other.waitsMade;
            System.arraycopy(other.wide, 0, wide, 0, MOST_SPACES);
            System.arraycopy(other.answers, 0, answers, 0, MOST_STEPS);
            done = other.done;
            faults = other.faults;
            refused = other.refused;
            worked = other.worked;
        }

        boolean isSpace(int space) {
            return space >= 0 && space < script.spaces && space < MOST_SPACES;
        }

        boolean areTwo(int one, int other) {
            return isSpace(one) && isSpace(other) && one != other;
        }

        boolean isFrame(int frame) {
            return frame >= 0 && frame < script.size;
        }

        boolean isPlace(int space, int place) {
            return isSpace(space) && place >= 0 && place < script.size;
        }

        private boolean isRegion(int place, int order) {
            int pages = 1 << order;
            return place >= 0 && place < script.size && place % pages == 0 && place + pages <= script.size;
        }

        boolean isRegionOf(int space, int region) {
            return isSpace(space) && region >= 0 && isRegion(region >> 2, region & 3);
        }

        /** What is seen in a region, as bits; a deed that reaches over it is asked whole. */
        private int seenIn(int space, int from, int order) {
            int seen = 0;
            int end = from + (1 << order);
            for (int place = from; place < end; place++) {
                int slot = deeds.find(space, place);
                if (slot < 0 || place != from && place != deeds.place[slot]) {
                    continue;
                }
                seen |= SEEN;
                if (deeds.isBusy(slot)) {
                    seen |= SEEN_BUSY | SEEN_TIED;
                } else if (deeds.isTied(slot)) {
                    seen |= SEEN_TIED;
                }
                if (deeds.giver[slot] < 0) {
                    seen |= SEEN_UNGIVEN;
                }
            }
            return seen;
        }

        /** The root may have as many pages as there are places. */
        private boolean exceedsQuota(int space, int more) {
            return space != 0 && deeds.pagesOf(space) + more > script.quotas[space];
        }

        int handOn(int from, int region, int to, int at, int rights) {
            int order = region & 3;
            if (!areTwo(from, to) || !isRegionOf(from, region) || !isRegion(at, order) || !areRights(rights)) {
                return NONE;
            }
            int start = region >> 2;
            int seen = seenIn(from, start, order);
            if ((seen & SEEN) == 0) {
                return -2;
            }
            if ((seen & SEEN_BUSY) != 0) {
                return -3;
            }
            if (deeds.pagesIn(to, at, 1 << order) > 0) {
                return -4;
            }
            int pages = pagesWith(from, start, order, rights);
            if (pages == 0) {
                return -5;
            }
            if (exceedsQuota(to, pages)) {
                return -6;
            }
            return makeHeirs(from, region, to, at, rights);
        }

        private int pagesWith(int space, int from, int order, int rights) {
            int pages = 0;
            int end = from + (1 << order);
            for (int place = from; place < end; place++) {
                int slot = deeds.find(space, place);
                if (slot >= 0 && (deeds.rights[slot] & rights) != 0) {
                    pages++;
                }
            }
            return pages;
        }

        private int makeHeirs(int from, int region, int to, int at, int rights) {
            int made = 0;
            int start = region >> 2;
            int end = start + (1 << (region & 3));
            int place = start;
            while (place < end) {
                int slot = deeds.find(from, place);
                if (slot < 0) {
                    place++;
                    continue;
                }
                int order = Math.min(deeds.order[slot], region & 3);
                int both = deeds.rights[slot] & rights;
                if (both != 0) {
                    addHeir(slot, place, to, at + place - start, order, both);
                    made++;
                }
                place += 1 << order;
            }
            return made;
        }

        /** One heir more of a deed, with its pages from a place on; the heir's slot. */
        private int addHeir(int giver, int fromPlace, int space, int place, int order, int rights) {
            int frame = Questions.frameAt(deeds, giver, fromPlace);
            int slot = deeds.make(space, place, frame, order, rights);
            if (slot >= 0) {
                deeds.append(slot, giver);
                widen(space, place, order);
            }
            return slot;
        }

        private void widen(int space, int place, int order) {
            if (order > 0 && space >= 0 && space < MOST_SPACES) {
                wide[space] |= 1 << place / LINE_PLACES;
            }
        }

        int giveAway(int from, int region, int to, int at) {
            int order = region & 3;
            if (!areTwo(from, to) || !isRegionOf(from, region) || !isRegion(at, order)) {
                return NONE;
            }
            int start = region >> 2;
            int pages = 1 << order;
            int seen = seenIn(from, start, order);
            if ((seen & SEEN) == 0) {
                return -2;
            }
            if ((seen & SEEN_TIED) != 0) {
                return -3;
            }
            if (deeds.pagesIn(to, at, pages) > 0) {
                return -4;
            }
            if (exceedsQuota(to, deeds.pagesIn(from, start, pages))) {
                return -5;
            }
            deeds.cut(from, start, order);
            int moved = 0;
            for (int i = 0; i < pages; i++) {
                int slot = deeds.find(from, start + i);
                if (slot >= 0) {
                    deeds.moveTo(slot, to, at + i);
                    widen(to, at + i, deeds.order[slot]);
                    moved++;
                }
            }
            return moved;
        }

        int startFlush(int space, int region, int rights, boolean itself) {
            if (!isRegionOf(space, region) || !areRights(rights)) {
                return NONE;
            }
            int start = region >> 2;
            int order = region & 3;
            int seen = seenIn(space, start, order);
            if ((seen & SEEN) == 0) {
                return -2;
            }
            if ((seen & SEEN_TIED) != 0) {
                return -3;
            }
            if (itself && (seen & SEEN_UNGIVEN) != 0) {
                return -4;
            }
            if (jobCount >= MOST_JOBS) {
                return -5;
            }
            deeds.cut(space, start, order);
            return queueJob(space, region, rights, itself);
        }

        private int queueJob(int space, int region, int rights, boolean itself) {
            int number = jobsMade + 1;
            int start = region >> 2;
            int end = start + (1 << (region & 3));
            int turns = 0;
            for (int place = start; place < end; place++) {
                int slot = deeds.find(space, place);
                if (slot >= 0 && deeds.place[slot] == place) {
                    deeds.markTop(slot, number);
                    turns = deeds.queueBeneath(slot, itself, number, turns);
                }
            }
            if (turns == 0 || jobCount >= MOST_JOBS) {
                deeds.endJob(number);
                return 0;
            }
            int row = jobCount * JOB_ROW;
            jobs[row] = number;
            jobs[row + 1] = space;
            jobs[row + 2] = start;
            jobs[row + 3] = rights;
            jobCount++;
            jobsMade++;
            return turns;
        }

        int workOn(int n) {
            int steps = 0;
            while (steps < n && jobCount > 0) {
                workOnce();
                steps++;
            }
            worked += steps;
            return steps;
        }

        private void workOnce() {
            int number = jobs[0];
            int slot = deeds.firstToDo(number);
            if (slot >= 0) {
                deeds.toDo[slot] = 0;
                deeds.rights[slot] &= ~jobs[3];
                if (deeds.rights[slot] == 0) {
                    deeds.remove(slot);
                }
            }
            if (deeds.firstToDo(number) < 0) {
                deeds.endJob(number);
                jobCount--;
                System.arraycopy(jobs, JOB_ROW, jobs, 0, (MOST_JOBS - 1) * JOB_ROW);
            }
        }

        int tellJob(int k, int what) {
            if (k < 0 || k >= MOST_JOBS) {
                return NONE;
            }
            int row = k * JOB_ROW;
            switch (what) {
                case 0:
                    return jobs[row + 1];
                case 1:
                    return jobs[row + 2];
                case 2:
                    return deeds.leftToDo(jobs[row]);
                default:
                    return jobs[row + 3];
            }
        }

        int touchPage(int space, int place, int right) {
            if (!isPlace(space, place) || right != 1 && right != 2 && right != 4 || waitSince[space] != 0) {
                return NONE;
            }
            int slot = deeds.find(space, place);
            if (slot >= 0 && (deeds.rights[slot] & right) != 0) {
                deeds.ages[slot] = deeds.ages[slot] + 1f;
                return Questions.frameAt(deeds, slot, place);
            }
            if (script.pagers[space] < 0) {
                return -3;
            }
            startWait(space, place, right);
            return -2;
        }

        private void startWait(int space, int place, int right) {
            waitPlace[space] = place;
            waitRight[space] = right;
            waitsMade++;
            waitSince[space] = waitsMade;
            faults++;
        }

        /** The first space that waits for a pager; NONE: nobody waits for it. */
        private int firstWaiting(int pager) {
            int found = NONE;
            for (int space = 0; space < script.spaces; space++) {
                if (waitSince[space] != 0 && script.pagers[space] == pager
                    && (found < 0 || waitSince[space] < waitSince[found])) {
                    found = space;
                }
            }
            return found;
        }

        int tellWait(int space, int what) {
            boolean waiting = waitSince[space] != 0;
            if (what == 0) {
                return waiting ? 1 : 0;
            }
            if (!waiting) {
                return -2;
            }
            if (what == 1) {
                return waitPlace[space];
            }
            return what == 2 ? waitRight[space] : waitingAhead(space);
        }

        private int waitingAhead(int space) {
            int ahead = 0;
            for (int other = 0; other < script.spaces; other++) {
                if (waitSince[other] != 0 && waitSince[other] < waitSince[space]
                    && script.pagers[other] == script.pagers[space]) {
                    ahead++;
                }
            }
            return ahead;
        }

        int serveFirst(int pager) {
            if (!isSpace(pager)) {
                return NONE;
            }
            int space = firstWaiting(pager);
            if (space < 0) {
                return -2;
            }
            int place = waitPlace[space];
            int right = waitRight[space];
            int source = sourceFor(space, pager);
            int giver = withRight(pager, source, right);
            if (giver < 0) {
                return passOn(space, pager, source, right);
            }
            int own = deeds.find(space, place);
            if (deeds.isBusy(giver) || own >= 0 && deeds.isTied(own)) {
                return -3;
            }
            if (own >= 0) {
                if (deeds.giver[own] < 0) {
                    return refuse(space);
                }
                deeds.cut(space, place, 0);
                deeds.remove(deeds.find(space, place));
            }
            if (!makeRoom(space)) {
                return refuse(space);
            }
            giver = withRight(pager, source, right);
            if (giver < 0) {
                return refuse(space);
            }
            int page = addHeir(giver, source, space, place, 0, deeds.rights[giver] & (right | 1));
            if (page < 0) {
                return refuse(space);
            }
            deeds.ages[page] = 1f;
            waitSince[space] = 0;
            return deeds.frame[page];
        }

        /** The pager's place from which a waiting space is served, by its way. */
        private int sourceFor(int space, int pager) {
            int place = waitPlace[space];
            int size = script.size;
            switch (script.ways[space]) {
                case 1:
                    return place + size / 2 < size ? place + size / 2 : place - size / 2;
                case 2:
                    return size - 1 - place;
                case 3:
                    return firstFresh(space, pager, place);
                default:
                    return place;
            }
        }

        private int firstFresh(int space, int pager, int otherwise) {
            int had = Questions.framesOf(deeds, space);
            for (int place = 0; place < script.size; place++) {
                int slot = withRight(pager, place, waitRight[space]);
                if (slot >= 0 && (had >> Questions.frameAt(deeds, slot, place) & 1) == 0) {
                    return place;
                }
            }
            return otherwise;
        }

        /** The deed of a space at a place, if it has a right; else NONE. */
        private int withRight(int space, int place, int right) {
            int slot = deeds.find(space, place);
            return slot >= 0 && (deeds.rights[slot] & right) != 0 ? slot : NONE;
        }

        /** The pager lacks the page itself. */
        private int passOn(int space, int pager, int source, int right) {
            if (waitSince[pager] != 0) {
                return -4;
            }
            if (script.pagers[pager] < 0) {
                return refuse(space);
            }
            startWait(pager, source, right);
            return -6;
        }

        private int refuse(int space) {
            waitSince[space] = 0;
            refused++;
            return -5;
        }

        private boolean makeRoom(int space) {
            for (int i = 0; i < MOST_PLACES && exceedsQuota(space, 1); i++) {
                int slot = deeds.coldestOf(space, true);
                if (slot < 0) {
                    return false;
                }
                deeds.remove(slot);
            }
            return true;
        }

        /** Ends ahead of the last round, if one moved nothing: the rounds behind it would be alike. */
        int settleAll() {
            int served = 0;
            boolean moved = true;
            for (int round = 0; round < ROUNDS && moved; round++) {
                moved = false;
                for (int pager = 0; pager < script.spaces; pager++) {
                    int given = serveFirst(pager);
                    if (given >= 0) {
                        served++;
                    }
                    if (given >= 0 || given < -4) {
                        moved = true;
                    }
                }
            }
            return served;
        }

        int joinAll(int space) {
            if (!isSpace(space)) {
                return NONE;
            }
            int joined = 0;
            while (joined < SLOTS && deeds.joinTwo(space)) {
                joined++;
            }
            wide[space] = 0;
            for (int place = 0; place < script.size; place++) {
                int slot = deeds.find(space, place);
                if (slot >= 0) {
                    widen(space, place, deeds.order[slot]);
                }
            }
            return joined;
        }

        int keptFor(int space) {
            int cells = 0;
            for (int place = 0; place < script.size; place += LINE_PLACES) {
                if ((wide[space] >> place / LINE_PLACES & 1) != 0) {
                    cells += 2 * LINE_PLACES;
                } else if (deeds.pagesIn(space, place, LINE_PLACES) > 0) {
                    cells += LINE_PLACES;
                }
            }
            return cells;
        }

        int firstGap(int space, int order) {
            int pages = 1 << order;
            for (int place = 0; place < script.size; place += pages) {
                if (deeds.pagesIn(space, place, pages) == 0) {
                    return place;
                }
            }
            return -2;
        }

        int roomOf(int space) {
            int most = space == 0 ? script.size : Math.min(script.size, script.quotas[space]);
            return Math.max(0, most - deeds.pagesOf(space));
        }

        /** Does the next step of the text and notes its answer. */
        void performNext() {
            if (done < 0 || done >= MOST_STEPS || done >= script.stepCount) {
                return;
            }
            int[] rows = script.stepRows;
            int row = done * STEP_ROW;
            int one = rows[row + 1];
            int place = rows[row + 2];
            int given;
            switch (rows[row]) {
                case WORD_MAP:
                    given = handOn(one, 4 * place + rows[row + 5], rows[row + 3], rows[row + 4], rows[row + 6]);
                    break;
                case WORD_GRANT:
                    given = giveAway(one, 4 * place + rows[row + 5], rows[row + 3], rows[row + 4]);
                    break;
                case WORD_FLUSH:
                    given = startFlush(one, 4 * place + rows[row + 3], rows[row + 4], rows[row + 5] == 1);
                    break;
                case WORD_TOUCH:
                    given = touchPage(one, place, rows[row + 3]);
                    break;
                default:
                    given = serveFirst(one);
                    break;
            }
            answers[done] = given;
            done++;
        }
    }
}
