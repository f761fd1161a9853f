import java.util.Arrays;

/** A play that goes on for who stays; the document's promises tell what each call answers. */
public final class StayPlay {
    public static final int NONE = -1;

    private static final int NUMBER_REFUSED = -1;
    private static final int NOTHING_THERE = -2;
    private static final int CANNOT_BE = -3;
    private static final int NO_ROOM = -5;
    private static final int TEXT_REFUSED = -6;

    private static final int MOST_SCENES = 5;
    private static final int MOST_SETS = 1 << MOST_SCENES;
    private static final int MOST_PEOPLE = 5;
    private static final int CROWDS = 36;
    private static final int MOST_LAWS = 6;
    private static final int MOST_BYTES = 400;
    private static final int MOST_SEED = 1000000;

    private static final int HEAD = 0;
    private static final int ENDS = 1;
    private static final int LONG = 2;

    private static final int BOOK = 0;
    private static final int MOST = 1;
    private static final int AHEAD = 2;
    private static final int FIXED = 3;
    /** Not a chooser of the document: every scene is tried, and the best one is kept. */
    private static final int BEST = 4;

    private static final int END_SEEN = 5;
    private static final int ALL_GONE = 6;
    private static final int VIEWERS = 7;
    private static final int WORTH = 8;
    private static final int ONE_OF_ZERO = 9;
    private static final int ONE_OF_ONE = 10;

    private static final int STAYS = 0;
    private static final int PRICE = 1;

    /** Decimal places of the long numbers at which hundredths and millionths begin. */
    private static final int HUNDREDTHS = 98;
    private static final int MILLIONTHS = 94;

    private final House now = new House();
    private final House[] images = new House[2];
    private final int[] tape = new int[MOST_BYTES];
    private int taped = 0;
    private int cutRows = 0;
    private int faultPlace = NONE;
    private final int[] refusals = new int[5];
    private int latestRefusal = 0;
    private final Reader reader = new Reader();
    private final Asker asker;
    private final Steps steps;
    private final Guide guide;
    private final Plan plan;
    private final Counted counted;
    private final World latestWorld;
    private final World town;

    public StayPlay() {
        asker = new Asker(now);
        steps = new Steps(now, asker);
        guide = new Guide(now, steps);
        plan = new Plan(now, steps, guide);
        counted = new Counted(now, asker);
        latestWorld = new World(now, steps, guide);
        town = new World(now, steps, guide);
    }

    public int scene(int minutes, int needs, int end) {
        if (!now.couldBe(minutes, needs, end)) {
            return refuse(NUMBER_REFUSED);
        }
        if (now.scenes == MOST_SCENES) {
            return refuse(NO_ROOM);
        }
        now.addScene(minutes, needs, end);
        plan.lawsChanged();
        return accept(now.scenes - 1);
    }

    public int put(int scene, int what, int value) {
        if (!House.fitsScene(what, value) || what == 1 && House.holds(value, scene)) {
            return refuse(NUMBER_REFUSED);
        }
        if (!now.hasScene(scene)) {
            return refuse(NOTHING_THERE);
        }
        int[] row = what == 0 ? now.minutes : what == 1 ? now.needs : now.ends;
        int was = row[scene];
        row[scene] = value;
        plan.lawsChanged();
        return accept(was);
    }

    public int sort(int sort, int what, int value) {
        int top = what == 1 ? 9 : 5;
        if (!isSort(sort) || what < 0 || what > 2 || value < 0 || value > top) {
            return refuse(NUMBER_REFUSED);
        }
        int[] row = what == 0 ? now.people : what == 1 ? now.weight : now.fresh;
        int was = row[sort];
        row[sort] = value;
        plan.valuesChanged();
        return accept(was);
    }

    public int terms(int what, int value) {
        int top = what == HEAD ? 9 : what == ENDS ? 99 : 300;
        if (what < HEAD || what > LONG || value < 0 || value > top) {
            return refuse(NUMBER_REFUSED);
        }
        int was = now.terms[what];
        now.terms[what] = value;
        plan.valuesChanged();
        return accept(was);
    }

    public int feed(int a, int b, int c, int d, int e) {
        if (taped + 20 > MOST_BYTES) {
            return NONE;
        }
        takeBytes(a);
        takeBytes(b);
        takeBytes(c);
        takeBytes(d);
        takeBytes(e);
        return taped;
    }

    public int end(int n) {
        if (n < 0 || n > taped) {
            return NONE;
        }
        taped = n;
        return n;
    }

    public int row() {
        if (taped == 0) {
            return refuse(TEXT_REFUSED);
        }
        int before = now.scenes;
        int pieces = 0;
        for (int at = 0; at < taped; at += 3) {
            pieces++;
            boolean whole = at + 2 < taped && now.scenes < MOST_SCENES;
            if (whole && now.couldBe(tape[at], tape[at + 1], tape[at + 2])) {
                now.addScene(tape[at], tape[at + 1], tape[at + 2]);
            }
        }
        taped = 0;
        int came = now.scenes - before;
        cutRows = pieces - came;
        plan.lawsChanged();
        return accept(came);
    }

    public int cut() {
        return cutRows;
    }

    public int law() {
        int length = taped;
        taped = 0;
        if (now.lawCount == MOST_LAWS) {
            return refuse(NO_ROOM);
        }
        faultPlace = reader.reads(tape, length);
        if (faultPlace != NONE) {
            return refuse(TEXT_REFUSED);
        }
        now.laws[now.lawCount] = new Law(reader);
        now.lawCount++;
        return accept(now.lawCount - 1);
    }

    public int fault() {
        return faultPlace;
    }

    public int force(int law) {
        if (law < NONE || law >= now.lawCount) {
            return refuse(NOTHING_THERE);
        }
        int was = now.inForce;
        now.inForce = law;
        plan.lawsChanged();
        return accept(was);
    }

    public int asks(int what, int sort, int scene, int before, int zero, int one, int minute, int played) {
        if (what < STAYS || what > PRICE || !isSort(sort) || !now.hasScene(scene)) {
            return NONE;
        }
        if (before != NONE && !now.hasScene(before) || !isCrowd(zero, one)) {
            return NONE;
        }
        if (minute < 0 || minute > 300 || played < 0 || played > 4) {
            return NONE;
        }
        asker.about(sort, scene, before, zero, one, minute, played);
        return asker.tells(what);
    }

    public int can(int played) {
        return now.isSet(played) ? now.open(played) : NONE;
    }

    public int book(int scene) {
        if (!now.hasScene(scene)) {
            return refuse(NOTHING_THERE);
        }
        if (now.booked(scene) || now.bookSize == MOST_SCENES) {
            return refuse(CANNOT_BE);
        }
        now.book[now.bookSize] = scene;
        now.bookSize++;
        plan.bookChanged();
        return accept(now.bookSize);
    }

    public int tear() {
        int had = now.bookSize;
        now.bookSize = 0;
        plan.bookChanged();
        return had;
    }

    public int worth(int chooser) {
        if (!isChooser(chooser)) {
            return NONE;
        }
        if (chooser == FIXED) {
            plan.fix();
        }
        return Digits.above(plan.tells(chooser, WORTH), HUNDREDTHS);
    }

    public int figures(int chooser, int k) {
        if (!isChooser(chooser) || k < 0 || k > 12) {
            return NONE;
        }
        if (chooser == FIXED) {
            plan.fix();
        }
        return Digits.nine(plan.tells(chooser, WORTH), 9 * k);
    }

    public int next(int chooser, int played, int latest, int zero, int one) {
        if (!isChooser(chooser) || !now.isSet(played) || !isLatest(played, latest)) {
            return NONE;
        }
        if (zero < 0 || zero > now.people[0] || one < 0 || one > now.people[1]) {
            return NONE;
        }
        if (zero + one == 0) {
            return NONE;
        }
        if (chooser == FIXED) {
            plan.fix();
        }
        if (chooser == AHEAD) {
            guide.ahead.settle(played, latest, zero, one, Integer.bitCount(played));
        }
        return guide.choose(chooser, played, latest, zero, one);
    }

    public int fixed(int i) {
        plan.fix();
        return i >= 0 && i < guide.fixedSize ? guide.fixedRow[i] : NONE;
    }

    public int rows() {
        return plan.listed();
    }

    public int seeing() {
        plan.fix();
        return plan.seeingGap();
    }

    public int loss(int sort) {
        if (!isSort(sort) || now.people[sort] == 0) {
            return NONE;
        }
        return plan.lossGap(sort);
    }

    public int evening(int sort) {
        if (!isSort(sort)) {
            return NONE;
        }
        return Digits.above(plan.tells(BEST, ONE_OF_ZERO + sort), HUNDREDTHS);
    }

    public int odds(int chooser, int what) {
        if (!isChooser(chooser) || what < 0 || what > VIEWERS) {
            return NONE;
        }
        if (what < END_SEEN && !now.hasScene(what)) {
            return NONE;
        }
        if (chooser == FIXED) {
            plan.fix();
        }
        return Digits.above(plan.tells(chooser, what), what == VIEWERS ? HUNDREDTHS : MILLIONTHS);
    }

    public int heads(int heads) {
        if (heads < 0 || heads > 10) {
            return refuse(NUMBER_REFUSED);
        }
        now.headsTold = true;
        now.counts[0] = heads;
        now.headRow = 0;
        return accept(0);
    }

    public int stayed(int scene, int heads) {
        if (heads < 0 || heads > 10) {
            return refuse(NUMBER_REFUSED);
        }
        if (!now.hasScene(scene)) {
            return refuse(NOTHING_THERE);
        }
        if (!now.headsCould(scene, heads)) {
            return refuse(CANNOT_BE);
        }
        now.headScenes[now.headRow] = scene;
        now.headRow++;
        now.counts[now.headRow] = heads;
        return accept(now.headRow);
    }

    public int were(int many) {
        if (many < 0 || many > MOST_PEOPLE || !now.headsTold) {
            return NONE;
        }
        return counted.likely(many);
    }

    public int run(int chooser, int seed) {
        if (!isChooser(chooser) || seed < 0 || seed > MOST_SEED) {
            return refuse(NUMBER_REFUSED);
        }
        if (chooser == FIXED) {
            plan.fix();
        }
        if (chooser == AHEAD) {
            guide.ahead.settle(0, NONE, now.people[0], now.people[1], 0);
        }
        latestWorld.seed = seed;
        latestWorld.plays(chooser, now.people[0], now.people[1]);
        return accept(latestWorld.size);
    }

    public int ran(int i, int what) {
        if (i < 0 || i >= latestWorld.size || what < 0 || what > 2) {
            return NONE;
        }
        int[] row = what == 0 ? latestWorld.scenes : what == 1 ? latestWorld.zeros : latestWorld.ones;
        return row[i];
    }

    public int nights(int n, int chooser, int seed, int what) {
        if (n < 1 || n > 60 || !isChooser(chooser) || seed < 0 || seed > MOST_SEED || what < 0 || what > 2) {
            return NONE;
        }
        if (chooser == FIXED) {
            plan.fix();
        }
        town.seed = seed;
        town.playsNights(n, chooser);
        return what == 0 ? town.came : what == 1 ? town.saw : town.sat;
    }

    public int image(int k) {
        if (k < 0 || k > 1) {
            return refuse(NUMBER_REFUSED);
        }
        if (images[k] == null) {
            images[k] = new House();
        }
        images[k].becomes(now);
        return accept(0);
    }

    public int back(int k) {
        if (k < 0 || k > 1) {
            return refuse(NUMBER_REFUSED);
        }
        if (images[k] == null) {
            return refuse(NOTHING_THERE);
        }
        now.becomes(images[k]);
        plan.lawsChanged();
        return accept(0);
    }

    public int count(int what) {
        switch (what) {
            case 0: return now.scenes;
            case 1: return now.lawCount;
            case 2: return now.bookSize;
            case 3: return now.headRow;
            case 4: return taped;
            case 10: return now.inForce;
            default: return what >= 5 && what <= 9 ? refusals[what - 5] : NONE;
        }
    }

    public int status() {
        return latestRefusal;
    }

    private int accept(int answer) {
        latestRefusal = 0;
        return answer;
    }

    private int refuse(int code) {
        // There is no -4, so the two codes behind it stand one place nearer.
        int place = code > -4 ? -1 - code : -2 - code;
        refusals[place]++;
        latestRefusal = code;
        return code;
    }

    private void takeBytes(int number) {
        for (int shift = 24; shift >= 0; shift -= 8) {
            tape[taped] = (number >>> shift) & 255;
            taped++;
        }
    }

    private static boolean isSort(int sort) {
        return sort == 0 || sort == 1;
    }

    private static boolean isChooser(int chooser) {
        return chooser >= BOOK && chooser <= FIXED;
    }

    private static boolean isCrowd(int zero, int one) {
        return zero >= 0 && zero <= MOST_PEOPLE && one >= 0 && one <= MOST_PEOPLE;
    }

    private static boolean isLatest(int played, int latest) {
        return played == 0 ? latest == NONE : House.holds(played, latest);
    }

    /** All that an image keeps. */
    private static final class House {
        int scenes = 0;
        final int[] minutes = new int[MOST_SCENES];
        final int[] needs = new int[MOST_SCENES];
        final int[] ends = new int[MOST_SCENES];
        final int[] people = new int[2];
        final int[] weight = {1, 1};
        final int[] fresh = new int[2];
        final int[] terms = {1, 0, 120};
        final Law[] laws = new Law[MOST_LAWS];
        int lawCount = 0;
        int inForce = NONE;
        final int[] book = new int[MOST_SCENES];
        int bookSize = 0;
        boolean headsTold = false;
        final int[] counts = new int[MOST_SCENES + 1];
        final int[] headScenes = new int[MOST_SCENES];
        int headRow = 0;

        void becomes(House other) {
            scenes = other.scenes;
            lawCount = other.lawCount;
            inForce = other.inForce;
            bookSize = other.bookSize;
            headsTold = other.headsTold;
            headRow = other.headRow;
            System.arraycopy(other.minutes, 0, minutes, 0, MOST_SCENES);
            System.arraycopy(other.needs, 0, needs, 0, MOST_SCENES);
            System.arraycopy(other.ends, 0, ends, 0, MOST_SCENES);
            System.arraycopy(other.people, 0, people, 0, 2);
            System.arraycopy(other.weight, 0, weight, 0, 2);
            System.arraycopy(other.fresh, 0, fresh, 0, 2);
            System.arraycopy(other.terms, 0, terms, 0, 3);
            System.arraycopy(other.laws, 0, laws, 0, MOST_LAWS);
            System.arraycopy(other.book, 0, book, 0, MOST_SCENES);
            System.arraycopy(other.counts, 0, counts, 0, MOST_SCENES + 1);
            System.arraycopy(other.headScenes, 0, headScenes, 0, MOST_SCENES);
        }

        static boolean holds(int set, int scene) {
            return scene >= 0 && scene < MOST_SCENES && (set >> scene & 1) == 1;
        }

        static boolean fitsScene(int what, int value) {
            switch (what) {
                case 0: return value >= 1 && value <= 60;
                case 1: return value >= 0 && value < MOST_SETS;
                case 2: return value == 0 || value == 1;
                default: return false;
            }
        }

        /** Whether these numbers could be the next scene, room aside. */
        boolean couldBe(int minute, int need, int end) {
            return fitsScene(0, minute) && fitsScene(1, need) && fitsScene(2, end) && !holds(need, scenes);
        }

        void addScene(int minute, int need, int end) {
            minutes[scenes] = minute;
            needs[scenes] = need;
            ends[scenes] = end;
            scenes++;
        }

        boolean hasScene(int scene) {
            return scene >= 0 && scene < scenes;
        }

        boolean isEnd(int scene) {
            return ends[scene] == 1;
        }

        boolean isSet(int set) {
            return set >= 0 && set < 1 << scenes;
        }

        boolean endWithin(int set) {
            for (int scene = 0; scene < scenes; scene++) {
                if ((set >> scene & 1) == 1 && isEnd(scene)) {
                    return true;
                }
            }
            return false;
        }

        int minutesOf(int set) {
            int sum = 0;
            for (int scene = 0; scene < scenes; scene++) {
                if ((set >> scene & 1) == 1) {
                    sum += minutes[scene];
                }
            }
            return sum;
        }

        /** The scenes that can be played behind these, as bits; behind an end there are none. */
        int open(int set) {
            if (endWithin(set)) {
                return 0;
            }
            int left = terms[LONG] - minutesOf(set);
            int bits = 0;
            for (int scene = 0; scene < scenes; scene++) {
                boolean ready = (set >> scene & 1) == 0 && (needs[scene] & ~set) == 0;
                if (ready && minutes[scene] <= left) {
                    bits |= 1 << scene;
                }
            }
            return bits;
        }

        boolean booked(int scene) {
            for (int i = 0; i < bookSize; i++) {
                if (book[i] == scene) {
                    return true;
                }
            }
            return false;
        }

        boolean headsCould(int scene, int heads) {
            if (!headsTold || headRow == MOST_SCENES || heads > counts[headRow]) {
                return false;
            }
            for (int i = 0; i < headRow; i++) {
                if (headScenes[i] == scene) {
                    return false;
                }
            }
            return true;
        }

        /** The law in force, or null. */
        Law lawInForce() {
            return inForce >= 0 && inForce < lawCount ? laws[inForce] : null;
        }
    }

    /** A law that was read: for each clause its head and its code, the sum's first, then the test's. */
    private static final class Law {
        static final int PUSH_NUMBER = 0;
        static final int PUSH_FACT = 1;
        static final int ADD = 2;
        static final int SUBTRACT = 3;
        static final int MULTIPLY = 4;
        static final int DIVIDE = 5;
        static final int LESS = 6;
        static final int MORE = 7;
        static final int SAME = 8;
        static final int NOT = 9;
        static final int OR_SKIP = 10;
        static final int AND_SKIP = 11;

        final int clauses;
        final int[] heads;
        final int[] starts;
        final int[] code;

        Law(Reader reader) {
            clauses = reader.clauses;
            heads = Arrays.copyOf(reader.heads, reader.clauses);
            starts = Arrays.copyOf(reader.starts, reader.clauses + 1);
            code = Arrays.copyOf(reader.code, reader.size);
        }
    }

    /** Reads the text of a law into code in which what is worked on stands ahead of what works on it. */
    private static final class Reader {
        static final int MOST_CLAUSES = 12;
        static final int MOST_PARTS = 50;
        static final int MOST_BRACKETS = 8;

        static final String WORDS = "stays price if or and not sort scene before heads own minute played ";
        /** Kinds of tokens: single bytes are their own kinds, the rest stand above them. */
        static final int TEXT_END = 256;
        static final int STRANGE = 257;
        static final int FIRST_WORD = 300;
        static final int WORD_IF = 302;
        static final int WORD_OR = 303;
        static final int WORD_AND = 304;
        static final int WORD_NOT = 305;
        static final int FIRST_FACT = 306;
        static final int LAST_FACT = 312;
        static final int FIRST_NUMBER = 1000;
        static final int LAST_NUMBER = 2000;

        final int[] kinds = new int[MOST_BYTES + 1];
        final int[] places = new int[MOST_BYTES + 1];
        int at;
        int parts;
        int clauses;
        final int[] heads = new int[MOST_CLAUSES];
        final int[] starts = new int[MOST_CLAUSES + 1];
        final int[] code = new int[MOST_BYTES];
        int size;

        /** NONE if the text is a law, else the place of its fault. */
        int reads(int[] text, int length) {
            split(text, length);
            at = 0;
            parts = 0;
            clauses = 0;
            size = 0;
            for (int i = 0; i < MOST_CLAUSES; i++) {
                if (!clause()) {
                    return places[at];
                }
                if (kinds[at] == TEXT_END) {
                    return NONE;
                }
                if (kinds[at] != ';') {
                    return places[at];
                }
                at++;
            }
            return places[at];
        }

        private void split(int[] text, int length) {
            int tokens = 0;
            int end = 0;
            for (int from = 0; from < length; from++) {
                if (from < end || text[from] == ' ') {
                    continue;
                }
                end = tokenEnd(text, length, from);
                kinds[tokens] = kindOf(text, from, end);
                places[tokens] = from;
                tokens++;
            }
            kinds[tokens] = TEXT_END;
            places[tokens] = length;
        }

        private static int tokenEnd(int[] text, int length, int from) {
            boolean letters = text[from] >= 'a' && text[from] <= 'z';
            boolean digits = text[from] >= '0' && text[from] <= '9';
            int lowest = letters ? 'a' : '0';
            int highest = letters ? 'z' : '9';
            int end = from + 1;
            for (int i = end; i < length && (letters || digits) && text[i] >= lowest && text[i] <= highest; i++) {
                end = i + 1;
            }
            return end;
        }

        private static int kindOf(int[] text, int from, int end) {
            if (text[from] >= 'a' && text[from] <= 'z') {
                return wordOf(text, from, end);
            }
            if (text[from] < '0' || text[from] > '9') {
                return text[from];
            }
            int number = 0;
            for (int i = from; i < end; i++) {
                // Stopped one above the greatest, so that long rows of digits do not wrap round.
                number = Math.min(number * 10 + text[i] - '0', LAST_NUMBER - FIRST_NUMBER + 1);
            }
            return FIRST_NUMBER + number;
        }

        private static int wordOf(int[] text, int from, int end) {
            int word = FIRST_WORD;
            int place = from;
            boolean same = true;
            for (int i = 0; i < WORDS.length(); i++) {
                char sign = WORDS.charAt(i);
                if (sign != ' ') {
                    same = same && place < end && text[place] == sign;
                    place++;
                } else if (same && place == end) {
                    return word;
                } else {
                    word++;
                    place = from;
                    same = true;
                }
            }
            return STRANGE;
        }

        private boolean clause() {
            int head = kinds[at] - FIRST_WORD;
            if (head != STAYS && head != PRICE) {
                return false;
            }
            heads[clauses] = head;
            at++;
            if (!sums(0, 0)) {
                return false;
            }
            if (kinds[at] == WORD_IF) {
                at++;
                if (!tests(0, 0)) {
                    return false;
                }
            }
            clauses++;
            starts[clauses] = size;
            return true;
        }

        /** Level 0 joins by "or", level 1 by "and", level 2 is a plain test. */
        private boolean tests(int level, int brackets) {
            if (level == 2) {
                return plain(brackets);
            }
            if (!tests(level + 1, brackets)) {
                return false;
            }
            int joint = level == 0 ? WORD_OR : WORD_AND;
            for (int i = 0; i < MOST_BYTES && kinds[at] == joint; i++) {
                at++;
                int skip = size;
                emit(level == 0 ? Law.OR_SKIP : Law.AND_SKIP, 0);
                if (!tests(level + 1, brackets)) {
                    return false;
                }
                if (skip < code.length) {
                    code[skip] |= size << 4;
                }
            }
            return true;
        }

        private boolean plain(int brackets) {
            boolean denied = false;
            for (int i = 0; i < MOST_BYTES && kinds[at] == WORD_NOT; i++) {
                denied = !denied;
                at++;
            }
            if (kinds[at] == '(') {
                if (brackets == MOST_BRACKETS) {
                    return false;
                }
                at++;
                if (!tests(0, brackets + 1) || kinds[at] != ')') {
                    return false;
                }
                at++;
            } else {
                if (!sums(0, brackets)) {
                    return false;
                }
                int sign = kinds[at];
                if (sign != '<' && sign != '>' && sign != '=') {
                    return false;
                }
                at++;
                if (!sums(0, brackets)) {
                    return false;
                }
                emit(sign == '<' ? Law.LESS : sign == '>' ? Law.MORE : Law.SAME, 0);
            }
            if (denied) {
                emit(Law.NOT, 0);
            }
            return true;
        }

        /** Level 0 joins by + and -, level 1 by * and /, level 2 is a part. */
        private boolean sums(int level, int brackets) {
            if (level == 2) {
                return part(brackets);
            }
            if (!sums(level + 1, brackets)) {
                return false;
            }
            int one = level == 0 ? '+' : '*';
            int other = level == 0 ? '-' : '/';
            for (int i = 0; i < MOST_BYTES && (kinds[at] == one || kinds[at] == other); i++) {
                int order = (level == 0 ? Law.ADD : Law.MULTIPLY) + (kinds[at] == other ? 1 : 0);
                at++;
                if (!sums(level + 1, brackets)) {
                    return false;
                }
                emit(order, 0);
            }
            return true;
        }

        private boolean part(int brackets) {
            int kind = kinds[at];
            if (kind == '[') {
                if (brackets == MOST_BRACKETS) {
                    return false;
                }
                at++;
                if (!sums(0, brackets + 1) || kinds[at] != ']') {
                    return false;
                }
                at++;
                return true;
            }
            boolean number = kind >= FIRST_NUMBER && kind <= LAST_NUMBER;
            boolean fact = kind >= FIRST_FACT && kind <= LAST_FACT;
            if (!number && !fact || parts == MOST_PARTS) {
                return false;
            }
            parts++;
            at++;
            if (number) {
                emit(Law.PUSH_NUMBER, kind - FIRST_NUMBER);
            } else {
                emit(Law.PUSH_FACT, kind - FIRST_FACT);
            }
            return true;
        }

        private void emit(int order, int detail) {
            // Each order comes from a byte of its own at least, so there is always room.
            if (size < code.length) {
                code[size] = order | detail << 4;
                size++;
            }
        }
    }

    /** Asks the law in force. */
    private static final class Asker {
        static final long MOST_SUM = 1000000000L;

        final House house;
        /** sort, scene, before, heads, own, minute, played. */
        final int[] facts = new int[7];
        final long[] stack = new long[64];

        Asker(House house) {
            this.house = house;
        }

        void about(int sort, int scene, int before, int zero, int one, int minute, int played) {
            facts[0] = sort;
            facts[1] = scene;
            facts[2] = before;
            facts[3] = zero + one;
            facts[4] = sort == 0 ? zero : one;
            facts[5] = minute;
            facts[6] = played;
        }

        /** What the last clause with this head that holds tells, or what stands without one. */
        int tells(int head) {
            Law law = house.lawInForce();
            int top = head == STAYS ? 100 : 99;
            if (law != null) {
                for (int i = law.clauses - 1; i >= 0; i--) {
                    if (law.heads[i] == head && holds(law.code, law.starts[i], law.starts[i + 1])) {
                        return (int) Math.max(0, Math.min(top, stack[0]));
                    }
                }
            }
            return head == STAYS ? 100 : 0;
        }

        /** Whether a clause holds; its sum is then at the bottom of the stack. */
        private boolean holds(int[] code, int from, int to) {
            int top = 0;
            int skipped = from;
            for (int at = from; at < to; at++) {
                if (at < skipped) {
                    continue;
                }
                int order = code[at] & 15;
                int detail = code[at] >> 4;
                if (order <= Law.PUSH_FACT) {
                    if (top == stack.length) {
                        return false;
                    }
                    stack[top] = order == Law.PUSH_NUMBER ? detail : facts[detail];
                    top++;
                    continue;
                }
                if (order >= Law.NOT) {
                    if (top < 1) {
                        return false;
                    }
                    boolean so = stack[top - 1] != 0;
                    if (order == Law.NOT) {
                        stack[top - 1] = so ? 0 : 1;
                    } else if (so == (order == Law.OR_SKIP)) {
                        skipped = detail;
                    } else {
                        top--;
                    }
                    continue;
                }
                if (top < 2 || order == Law.DIVIDE && stack[top - 1] == 0) {
                    return false;
                }
                top--;
                stack[top - 1] = joined(order, stack[top - 1], stack[top]);
                if (stack[top - 1] > MOST_SUM || stack[top - 1] < -MOST_SUM) {
                    return false;
                }
            }
            return top == 1 || top == 2 && stack[1] != 0;
        }

        private static long joined(int order, long a, long b) {
            switch (order) {
                case Law.ADD: return a + b;
                case Law.SUBTRACT: return a - b;
                case Law.MULTIPLY: return a * b;
                case Law.DIVIDE: return b == 0 ? 0 : a / b;
                case Law.LESS: return a < b ? 1 : 0;
                case Law.MORE: return a > b ? 1 : 0;
                default: return a == b ? 1 : 0;
            }
        }
    }

    /** Long numbers: rows of eight decimal figures each, the lowest first. */
    private static final class Digits {
        static final int WIDTH = 14;
        static final long BASE = 100000000L;
        static final long[] TENS = {1L, 10L, 100L, 1000L, 10000L, 100000L, 1000000L, 10000000L};

        static void addTimes(long[] to, long[] from, int at, int limbs, long times) {
            for (int i = 0; i < limbs; i++) {
                to[i] += from[at + i] * times;
            }
        }

        /** Adds a number times ten to the power of the place; carry() is due behind it. */
        static void addAt(long[] to, int place, long number) {
            to[place / 8] += number * TENS[place % 8];
        }

        static void carry(long[] row) {
            long over = 0;
            for (int i = 0; i < WIDTH; i++) {
                long limb = row[i] + over;
                over = limb / BASE;
                row[i] = limb - over * BASE;
            }
        }

        static int compare(long[] row, long[] other, int at, int limbs) {
            for (int i = limbs - 1; i >= 0; i--) {
                if (row[i] != other[at + i]) {
                    return row[i] < other[at + i] ? -1 : 1;
                }
            }
            return 0;
        }

        /** Takes the other number, which is not greater, from the row. */
        static void subtract(long[] row, long[] other) {
            long owed = 0;
            for (int i = 0; i < WIDTH; i++) {
                long limb = row[i] - other[i] - owed;
                owed = limb < 0 ? 1 : 0;
                row[i] = limb + owed * BASE;
            }
        }

        static int figure(long[] row, int place) {
            int limb = place / 8;
            long rest = limb < WIDTH ? row[limb] : 0;
            for (int i = place % 8; i > 0; i--) {
                rest /= 10;
            }
            return (int) (rest % 10);
        }

        static int nine(long[] row, int place) {
            int number = 0;
            for (int i = 8; i >= 0; i--) {
                number = number * 10 + figure(row, place + i);
            }
            return number;
        }

        /** What stands from the place on; the numbers here leave it well within an int. */
        static int above(long[] row, int place) {
            int number = 0;
            for (int i = WIDTH * 8 - 1; i >= place; i--) {
                number = number * 10 + figure(row, i);
            }
            return number;
        }

        /** How likely it is that so many of the people stay, each as a number of 100 multiplied five times. */
        static void spread(long[] row, int people, int chance) {
            row[0] = 1;
            for (int i = people; i < MOST_PEOPLE; i++) {
                row[0] *= 100;
            }
            for (int person = 1; person <= people; person++) {
                row[person] = 0;
                for (int stay = person; stay >= 0; stay--) {
                    long lower = stay > 0 ? row[stay - 1] * chance : 0;
                    row[stay] = row[stay] * (100 - chance) + lower;
                }
            }
        }
    }

    /** Where an evening can be, and what the law tells there, asked once as long as it stands. */
    private static final class Steps {
        /** A node is a set of scenes that were played with the latest of them; most numbers are no node. */
        static final int NODE_NUMBERS = 161;
        static final int NODES = 81;
        static final int STEPS = 165;
        static final int KNOWN = 1 << 30;
        /** How many limbs a value needs when so many scenes were played. */
        static final int[] LIMBS = {14, 11, 9, 6, 4, 1};
        static final int ALL_LIMBS = 514;

        final House house;
        final Asker asker;
        final int[] firstStep = new int[NODE_NUMBERS];
        final int[] firstLimb = new int[NODE_NUMBERS];
        final int[] firstSlot = new int[NODE_NUMBERS];
        final int[] kept = new int[STEPS * CROWDS];
        boolean stale = false;

        Steps(House house, Asker asker) {
            this.house = house;
            this.asker = asker;
            int step = 0;
            int limb = 0;
            int slot = 0;
            for (int set = 0; set < MOST_SETS; set++) {
                int played = Integer.bitCount(set);
                for (int latest = NONE; latest < MOST_SCENES; latest++) {
                    boolean there = latest == NONE ? set == 0 : (set >> latest & 1) == 1;
                    if (there) {
                        firstStep[nodeOf(set, latest)] = step;
                        firstLimb[nodeOf(set, latest)] = limb;
                        firstSlot[nodeOf(set, latest)] = slot;
                        step += MOST_SCENES - played;
                        limb += LIMBS[played] * CROWDS;
                        slot += CROWDS;
                    }
                }
            }
        }

        static int nodeOf(int set, int latest) {
            return set * MOST_SCENES + latest + 1;
        }

        static int crowdOf(int zero, int one) {
            return zero * (MOST_PEOPLE + 1) + one;
        }

        /** Chances and all prices of a scene that is played here, in one number. */
        int told(int set, int latest, int scene, int zero, int one) {
            if (stale) {
                Arrays.fill(kept, 0);
                stale = false;
            }
            int lower = Integer.bitCount(~set & (1 << scene) - 1);
            int slot = (firstStep[nodeOf(set, latest)] + lower) * CROWDS + crowdOf(zero, one);
            if (kept[slot] == 0) {
                int minute = house.minutesOf(set);
                int played = Integer.bitCount(set);
                int chances = 0;
                int prices = 0;
                if (zero > 0) {
                    asker.about(0, scene, latest, zero, one, minute, played);
                    chances = asker.tells(STAYS);
                    prices = zero * asker.tells(PRICE);
                }
                if (one > 0) {
                    asker.about(1, scene, latest, zero, one, minute, played);
                    chances |= asker.tells(STAYS) << 8;
                    prices += one * asker.tells(PRICE);
                }
                kept[slot] = KNOWN | prices << 16 | chances;
            }
            return kept[slot];
        }

        static int chanceOf(int told, int sort) {
            return (sort == 0 ? told : told >> 8) & 127;
        }

        static int pricesOf(int told) {
            return told >> 16 & 1023;
        }
    }

    /** Chooses the next scene. */
    private static final class Guide {
        final House house;
        final Steps steps;
        /** Knows the best scene of each place that it has settled. */
        final Table ahead;
        final int[] fixedRow = new int[MOST_SCENES];
        int fixedSize = 0;

        Guide(House house, Steps steps) {
            this.house = house;
            this.steps = steps;
            this.ahead = new Table(house, steps, null);
        }

        int choose(int chooser, int set, int latest, int zero, int one) {
            if (chooser == BOOK) {
                return ofRow(house.book, house.bookSize, set);
            }
            if (chooser == FIXED) {
                return ofRow(fixedRow, fixedSize, set);
            }
            if (chooser == AHEAD) {
                return ahead.bestAt(set, latest, zero, one);
            }
            int open = chooser == MOST ? house.open(set) : 0;
            int best = NONE;
            int most = -1;
            for (int scene = 0; scene < house.scenes; scene++) {
                if ((open >> scene & 1) == 0) {
                    continue;
                }
                int mean = 100 * (zero + one);
                if (!house.isEnd(scene)) {
                    int told = steps.told(set, latest, scene, zero, one);
                    mean = zero * Steps.chanceOf(told, 0) + one * Steps.chanceOf(told, 1);
                }
                if (mean > most) {
                    most = mean;
                    best = scene;
                }
            }
            return best;
        }

        /** Takes FIXED's row out of the one number in which it is listed. */
        void takeRow(int packed) {
            fixedSize = Math.min(packed >> 3 * MOST_SCENES, MOST_SCENES);
            for (int i = 0; i < fixedSize; i++) {
                fixedRow[i] = packed >> 3 * i & 7;
            }
        }

        /** The next scene of a row, if just those ahead of it were played and it can be. */
        private int ofRow(int[] row, int size, int set) {
            int played = Integer.bitCount(set);
            if (played >= size) {
                return NONE;
            }
            int before = 0;
            for (int i = 0; i < played; i++) {
                before |= 1 << row[i];
            }
            return before == set && House.holds(house.open(set), row[played]) ? row[played] : NONE;
        }
    }

    /** What an evening comes to from each place on, settled where it is asked for. */
    private static final class Table {
        final House house;
        final Steps steps;
        final Guide guide;
        final long[] values = new long[Steps.ALL_LIMBS * CROWDS];
        /** The turn in which a place was settled, and below it in three bits the best scene and 1. */
        final int[] settled = new int[Steps.NODES * CROWDS];
        final long[] sum = new long[Digits.WIDTH];
        final long[] part = new long[Digits.WIDTH];
        final long[] spreadZero = new long[MOST_PEOPLE + 1];
        final long[] spreadOne = new long[MOST_PEOPLE + 1];
        int turn = 1;
        int chooser = BEST;
        int kind = WORTH;

        /** A table without a guide tries every scene and keeps the best one. */
        Table(House house, Steps steps, Guide guide) {
            this.house = house;
            this.steps = steps;
            this.guide = guide;
        }

        /** Forgets what was settled. */
        void begins(int newChooser, int newKind) {
            chooser = newChooser;
            kind = newKind;
            turn++;
        }

        /** The best scene of a place that was settled. */
        int bestAt(int set, int latest, int zero, int one) {
            int mark = settled[steps.firstSlot[Steps.nodeOf(set, latest)] + Steps.crowdOf(zero, one)];
            return mark >> 3 == turn ? (mark & 7) - 1 : NONE;
        }

        void copyRoot(int zero, int one, long[] to) {
            System.arraycopy(values, limbAt(0, NONE, zero, one), to, 0, Digits.WIDTH);
        }

        private int limbAt(int set, int latest, int zero, int one) {
            int limbs = Steps.LIMBS[Integer.bitCount(set)];
            return steps.firstLimb[Steps.nodeOf(set, latest)] + Steps.crowdOf(zero, one) * limbs;
        }

        /** Sees to it that the value at this place is known. */
        private void settle(int set, int latest, int zero, int one, int played) {
            int slot = steps.firstSlot[Steps.nodeOf(set, latest)] + Steps.crowdOf(zero, one);
            if (settled[slot] >> 3 == turn || played > MOST_SCENES) {
                return;
            }
            int at = limbAt(set, latest, zero, one);
            int limbs = Steps.LIMBS[played];
            int best = NONE;
            Arrays.fill(values, at, at + limbs, 0L);
            if (zero + one == 0) {
                if (kind == ALL_GONE && played > 0) {
                    startSum(played, 1);
                    System.arraycopy(sum, 0, values, at, limbs);
                }
            } else {
                boolean all = guide == null || chooser == BEST;
                int only = all ? NONE : guide.choose(chooser, set, latest, zero, one);
                int tried = all ? house.open(set) : only == NONE ? 0 : 1 << only;
                for (int scene = 0; scene < house.scenes; scene++) {
                    if ((tried >> scene & 1) == 0) {
                        continue;
                    }
                    bring(set, latest, scene, zero, one);
                    if (best == NONE || Digits.compare(sum, values, at, limbs) > 0) {
                        System.arraycopy(sum, 0, values, at, limbs);
                        best = scene;
                    }
                }
            }
            settled[slot] = turn << 3 | best + 1;
        }

        /** Into the sum comes what the evening is worth from here on, if this scene is played. */
        private void bring(int set, int latest, int scene, int zero, int one) {
            int told = steps.told(set, latest, scene, zero, one);
            int after = set | 1 << scene;
            boolean over = house.isEnd(scene) || kind != ALL_GONE && house.open(after) == 0;
            if (!over) {
                visit(after, scene, zero, one, told);
            }
            startSum(Integer.bitCount(set), gain(scene, zero, one, told));
            if (!over) {
                expect(after, scene, zero, one, told);
            }
        }

        private void visit(int set, int latest, int zero, int one, int told) {
            int played = Integer.bitCount(set);
            int chanceZero = Steps.chanceOf(told, 0);
            int chanceOne = Steps.chanceOf(told, 1);
            for (int a = chanceZero == 100 ? zero : 0; a <= (chanceZero == 0 ? 0 : zero); a++) {
                for (int b = chanceOne == 100 ? one : 0; b <= (chanceOne == 0 ? 0 : one); b++) {
                    settle(set, latest, a, b, played);
                }
            }
        }

        private void startSum(int played, long number) {
            Arrays.fill(sum, 0L);
            Digits.addAt(sum, 20 * (MOST_SCENES - played), number);
            Digits.carry(sum);
        }

        /** Adds what comes behind a scene, meant by who stays. */
        private void expect(int set, int latest, int zero, int one, int told) {
            int limbs = Steps.LIMBS[Integer.bitCount(set)];
            int wider = Math.min(limbs + 2, Digits.WIDTH);
            int first = steps.firstLimb[Steps.nodeOf(set, latest)];
            Digits.spread(spreadZero, zero, Steps.chanceOf(told, 0));
            Digits.spread(spreadOne, one, Steps.chanceOf(told, 1));
            for (int a = 0; a <= zero; a++) {
                if (spreadZero[a] == 0) {
                    continue;
                }
                Arrays.fill(part, 0L);
                for (int b = 0; b <= one; b++) {
                    if (spreadOne[b] != 0) {
                        Digits.addTimes(part, values, first + Steps.crowdOf(a, b) * limbs, limbs, spreadOne[b]);
                    }
                }
                Digits.carry(part);
                Digits.addTimes(sum, part, 0, wider, spreadZero[a]);
            }
            Digits.carry(sum);
        }

        private int gain(int scene, int zero, int one, int told) {
            boolean end = house.isEnd(scene);
            switch (kind) {
                case END_SEEN: return end ? 1 : 0;
                case ALL_GONE: return 0;
                case VIEWERS: return end ? zero + one : 0;
                case WORTH: case ONE_OF_ZERO: case ONE_OF_ONE: break;
                default: return scene == kind ? 1 : 0;
            }
            int crowd = kind == ONE_OF_ONE ? 0 : zero * house.weight[0];
            crowd += kind == ONE_OF_ZERO ? 0 : one * house.weight[1];
            int each = house.terms[HEAD] * house.minutes[scene] + (end ? house.terms[ENDS] : 0);
            return crowd * each + (kind == WORTH ? Steps.pricesOf(told) : 0);
        }
    }

    /** What evenings are worth by each chooser, and the row of FIXED. */
    private static final class Plan {
        static final int MOST_ROWS = 120;

        final House house;
        final Steps steps;
        final Guide guide;
        final Table other;
        boolean otherKnown = false;
        final int[] rowList = new int[MOST_ROWS];
        int rowCount = 0;
        boolean rowsKnown = false;
        boolean fixKnown = false;
        final long[] fixedWorth = new long[Digits.WIDTH];
        final long[] answer = new long[Digits.WIDTH];
        final long[] lesser = new long[Digits.WIDTH];

        Plan(House house, Steps steps, Guide guide) {
            this.house = house;
            this.steps = steps;
            this.guide = guide;
            this.other = new Table(house, steps, guide);
        }

        void lawsChanged() {
            steps.stale = true;
            valuesChanged();
        }

        void valuesChanged() {
            guide.ahead.begins(BEST, WORTH);
            otherKnown = false;
            rowsKnown = false;
            fixKnown = false;
        }

        void bookChanged() {
            otherKnown = false;
        }

        /** What an evening with the people told comes to, exactly; for FIXED fix() comes ahead of it. */
        long[] tells(int chooser, int kind) {
            if (chooser == FIXED && kind == WORTH) {
                return fixedWorth;
            }
            int zero = house.people[0];
            int one = house.people[1];
            if (chooser == AHEAD) {
                guide.ahead.settle(0, NONE, zero, one, 0);
            }
            Table table = chooser == AHEAD && kind == WORTH ? guide.ahead : other;
            if (table == other) {
                if (!otherKnown || other.chooser != chooser || other.kind != kind) {
                    other.begins(chooser, kind);
                    otherKnown = true;
                }
                other.settle(0, NONE, zero, one, 0);
            }
            table.copyRoot(zero, one, answer);
            return answer;
        }

        /** Finds the row of FIXED and what it is worth. */
        void fix() {
            if (fixKnown) {
                return;
            }
            int best = 0;
            int many = listed();
            for (int i = 0; i < many; i++) {
                guide.takeRow(rowList[i]);
                other.begins(FIXED, WORTH);
                other.settle(0, NONE, house.people[0], house.people[1], 0);
                other.copyRoot(house.people[0], house.people[1], answer);
                if (i == 0 || Digits.compare(answer, fixedWorth, 0, Digits.WIDTH) > 0) {
                    System.arraycopy(answer, 0, fixedWorth, 0, Digits.WIDTH);
                    best = i;
                }
            }
            guide.takeRow(rowList[best]);
            otherKnown = false;
            fixKnown = true;
        }

        /** Lists the rows that FIXED is chosen from, the first ones first: how many there are. */
        int listed() {
            if (!rowsKnown) {
                rowCount = 0;
                list(0, 0, 0);
                rowsKnown = true;
            }
            return rowCount;
        }

        /** A row in one number: three bits a scene, its size above them. */
        private void list(int set, int row, int played) {
            int open = played >= MOST_SCENES ? 0 : house.open(set);
            if (open == 0) {
                if (rowCount < MOST_ROWS) {
                    rowList[rowCount] = row | played << 3 * MOST_SCENES;
                    rowCount++;
                }
                return;
            }
            for (int scene = 0; scene < house.scenes; scene++) {
                if ((open >> scene & 1) == 1) {
                    list(set | 1 << scene, row | scene << 3 * played, played + 1);
                }
            }
        }

        /** AHEAD's worth less that of FIXED; fix() comes ahead of it. */
        int seeingGap() {
            guide.ahead.settle(0, NONE, house.people[0], house.people[1], 0);
            guide.ahead.copyRoot(house.people[0], house.people[1], answer);
            System.arraycopy(fixedWorth, 0, lesser, 0, Digits.WIDTH);
            return gap();
        }

        /** AHEAD's worth less that with one of a sort fewer, of which there is one at least. */
        int lossGap(int sort) {
            int zero = house.people[0];
            int one = house.people[1];
            int fewerZero = sort == 0 ? zero - 1 : zero;
            int fewerOne = sort == 1 ? one - 1 : one;
            guide.ahead.settle(0, NONE, zero, one, 0);
            guide.ahead.copyRoot(zero, one, answer);
            guide.ahead.settle(0, NONE, fewerZero, fewerOne, 0);
            guide.ahead.copyRoot(fewerZero, fewerOne, lesser);
            return gap();
        }

        private int gap() {
            if (Digits.compare(answer, lesser, 0, Digits.WIDTH) >= 0) {
                Digits.subtract(answer, lesser);
                return Digits.above(answer, HUNDREDTHS);
            }
            Digits.subtract(lesser, answer);
            return -Digits.above(lesser, HUNDREDTHS);
        }
    }

    /** Which sorts there must have been, by heads that were counted. */
    private static final class Counted {
        static final int WAYS = MOST_PEOPLE + 1;

        final House house;
        final Asker asker;
        /** For each number of sort 0 how likely all that was counted behind is. */
        final long[] here = new long[WAYS * Digits.WIDTH];
        final long[] behind = new long[WAYS * Digits.WIDTH];
        final long[] sum = new long[Digits.WIDTH];
        final long[] part = new long[Digits.WIDTH];
        final long[] total = new long[Digits.WIDTH];
        final long[] spreadZero = new long[MOST_PEOPLE + 1];
        final long[] spreadOne = new long[MOST_PEOPLE + 1];

        Counted(House house, Asker asker) {
            this.house = house;
            this.asker = asker;
        }

        /** The odds in millionths that so many of sort 0 were there, or NONE. */
        int likely(int many) {
            begin(house.counts[house.headRow]);
            for (int i = house.headRow - 1; i >= 0; i--) {
                System.arraycopy(here, 0, behind, 0, here.length);
                stepBack(i);
            }
            Arrays.fill(total, 0L);
            for (int way = 0; way < WAYS; way++) {
                Digits.addTimes(total, here, way * Digits.WIDTH, Digits.WIDTH, 1);
            }
            Digits.carry(total);
            System.arraycopy(here, many * Digits.WIDTH, part, 0, Digits.WIDTH);
            Arrays.fill(sum, 0L);
            return Digits.compare(total, sum, 0, Digits.WIDTH) == 0 ? NONE : millionths();
        }

        private static boolean isWay(int zero, int all) {
            return zero <= all && all - zero <= MOST_PEOPLE;
        }

        private void begin(int all) {
            Arrays.fill(here, 0L);
            for (int zero = 0; zero < WAYS; zero++) {
                if (isWay(zero, all)) {
                    here[zero * Digits.WIDTH] = 1;
                }
            }
        }

        private void stepBack(int i) {
            int before = i == 0 ? NONE : house.headScenes[i - 1];
            int minute = 0;
            for (int j = 0; j < i; j++) {
                minute += house.minutes[house.headScenes[j]];
            }
            Arrays.fill(here, 0L);
            for (int zero = 0; zero < WAYS; zero++) {
                if (!isWay(zero, house.counts[i])) {
                    continue;
                }
                int one = house.counts[i] - zero;
                asker.about(0, house.headScenes[i], before, zero, one, minute, i);
                Digits.spread(spreadZero, zero, asker.tells(STAYS));
                asker.about(1, house.headScenes[i], before, zero, one, minute, i);
                Digits.spread(spreadOne, one, asker.tells(STAYS));
                addWays(zero, one, house.counts[i + 1]);
                System.arraycopy(sum, 0, here, zero * Digits.WIDTH, Digits.WIDTH);
            }
        }

        /** Into the sum comes how likely it is that so many in all stayed, and all that was counted then. */
        private void addWays(int zero, int one, int all) {
            Arrays.fill(sum, 0L);
            for (int a = 0; a <= zero; a++) {
                int b = all - a;
                if (b < 0 || b > one) {
                    continue;
                }
                Arrays.fill(part, 0L);
                Digits.addTimes(part, behind, a * Digits.WIDTH, Digits.WIDTH, spreadOne[b]);
                Digits.carry(part);
                Digits.addTimes(sum, part, 0, Digits.WIDTH, spreadZero[a]);
            }
            Digits.carry(sum);
        }

        /** The part, which is not greater, divided by the total. */
        private int millionths() {
            int number = 0;
            for (int figure = 0; figure <= 6; figure++) {
                int times = 0;
                for (int i = 0; i < 9 && Digits.compare(part, total, 0, Digits.WIDTH) >= 0; i++) {
                    Digits.subtract(part, total);
                    times++;
                }
                number = number * 10 + times;
                for (int i = 0; i < Digits.WIDTH; i++) {
                    part[i] *= 10;
                }
                Digits.carry(part);
            }
            return number;
        }
    }

    /** Evenings by draws. */
    private static final class World {
        final House house;
        final Steps steps;
        final Guide guide;
        int seed = 0;
        final int[] scenes = new int[MOST_SCENES];
        final int[] zeros = new int[MOST_SCENES];
        final int[] ones = new int[MOST_SCENES];
        int size = 0;
        int sawZero = 0;
        int sawOne = 0;
        int came = 0;
        int saw = 0;
        int sat = 0;

        World(House house, Steps steps, Guide guide) {
            this.house = house;
            this.steps = steps;
            this.guide = guide;
        }

        /** An evening; for FIXED its row is found, for AHEAD the first place is settled ahead of it. */
        void plays(int chooser, int zero, int one) {
            size = 0;
            sawZero = 0;
            sawOne = 0;
            int set = 0;
            int latest = NONE;
            int a = zero;
            int b = one;
            for (int i = 0; i < MOST_SCENES && a + b > 0; i++) {
                int scene = guide.choose(chooser, set, latest, a, b);
                if (scene == NONE) {
                    return;
                }
                scenes[i] = scene;
                zeros[i] = a;
                ones[i] = b;
                size++;
                if (house.isEnd(scene)) {
                    sawZero = a;
                    sawOne = b;
                    return;
                }
                int told = steps.told(set, latest, scene, a, b);
                a = staying(a, Steps.chanceOf(told, 0));
                b = staying(b, Steps.chanceOf(told, 1));
                set |= 1 << scene;
                latest = scene;
            }
        }

        void playsNights(int nights, int chooser) {
            int zero = house.people[0];
            int one = house.people[1];
            came = 0;
            saw = 0;
            sat = 0;
            for (int night = 0; night < nights; night++) {
                if (night > 0) {
                    zero = Math.min(MOST_PEOPLE, sawZero + draw(house.fresh[0] + 1));
                    one = Math.min(MOST_PEOPLE, sawOne + draw(house.fresh[1] + 1));
                }
                if (chooser == AHEAD) {
                    guide.ahead.settle(0, NONE, zero, one, 0);
                }
                plays(chooser, zero, one);
                came += zero + one;
                saw += sawZero + sawOne;
                for (int i = 0; i < size; i++) {
                    sat += house.minutes[scenes[i]] * (zeros[i] + ones[i]);
                }
            }
        }

        private int staying(int people, int chance) {
            int left = 0;
            for (int i = 0; i < people; i++) {
                if (draw(100) < chance) {
                    left++;
                }
            }
            return left;
        }

        private int draw(int n) {
            seed = (seed * 1103 + 12345) % 1000003;
            return n > 0 ? seed % n : 0;
        }
    }
}
