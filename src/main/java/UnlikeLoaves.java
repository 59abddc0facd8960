/**
 * Loaves in unlike parts: an office that knows every due only as parts of one, no two alike.
 * The document ../shared/DOC.md says what each call answers.
 */
public final class UnlikeLoaves {
    public static final int NONE = -1;
    public static final long NOTHING = -1000000000000000L;

    private static final int TAPE_ROOM = 1600;
    private static final int MOST_SIZES = 24;
    private static final int MOST_PEOPLE = 6;
    private static final int MOST_SHARE = 99;
    // No share has more than 30 writings of up to 6 sizes up to 24 (all 190,050 sets were counted).
    private static final int WAYS_ROOM = 32;
    private static final int LAST_DAY = 999;
    private static final int MOST_PIECES = 999;
    private static final int MOST_TIMES = 999;
    private static final int MOST_HUNGER = 99;
    private static final int MOST_ACT_DAYS = 100;
    private static final int MOST_AHEAD = 40;
    private static final int NUMBERS_OF_MICE = 100;

    private final int[] refused = new int[6];
    private final Tape tape = new Tape();
    private final Scanner scanner = new Scanner(tape);
    private final Phrases phrases = new Phrases(scanner);
    private final OfficeReader reader = new OfficeReader(scanner, phrases);
    private final Rules rules = new Rules();
    private final Finder finder = new Finder(rules);
    private final State now = new State();
    private final History history = new History();
    private final Course course = new Course(rules);
    private final Outlook outlook = new Outlook(rules, course, now);
    private final Formula question = new Formula();
    private final int[] facts = new int[Formula.FACTS];
    private final int[] picture = new int[3 + 2 * MOST_SIZES + 3 * MOST_PEOPLE];
    private int pictureLength = 0;
    private int seed = 1;
    private int faultKind = 0;
    private int faultPlace = NONE;

    public UnlikeLoaves() {
    }

    // ---- the tape and the office

    public int feed(int a, int b, int c, int d, int e) {
        if (tape.count + 20 > TAPE_ROOM) {
            return refuse(0);
        }
        tape.add(a);
        tape.add(b);
        tape.add(c);
        tape.add(d);
        tape.add(e);
        return tape.count;
    }

    public boolean end(int n) {
        if (n < 0 || n > tape.count) {
            refuse(0);
            return false;
        }
        tape.count = n;
        return true;
    }

    public int office() {
        int statements = reader.read();
        tape.count = 0;
        keepFault();
        if (statements == NONE) {
            return refuse(1);
        }
        rules.take(reader.draft);
        finder.forget();
        for (int p = 0; p < rules.people; p++) {
            finder.find(finder.units(rules.top[p], rules.bottom[p]));
            rules.tellWays(p, finder.sets, finder.count);
        }
        now.begin(rules);
        history.forget();
        outlook.seenCount = 0;
        return statements;
    }

    public int fault(int what) {
        if (what == 0) {
            return faultKind;
        }
        return what == 1 ? faultPlace : NONE;
    }

    public int has(int what) {
        switch (what) {
            case 0: return rules.finest;
            case 1: return rules.most;
            case 2: return rules.people;
            case 3: return now.day;
            case 4: return now.allPieces();
            case 5: return now.hungry();
            case 6: return now.allTimes();
            case 7: return now.keptCount;
            case 8: return outlook.seenCount;
            case 9: return history.count;
            default: return NONE;
        }
    }

    public int letter(int person, int k) {
        if (!isPerson(person) || k < 0 || k >= Scanner.NAME_LETTERS) {
            return NONE;
        }
        int rest = rules.names[person];
        for (int i = Scanner.NAME_LETTERS - 1; i > k; i--) {
            rest = rest / Scanner.NAME_BASE;
        }
        return rest % Scanner.NAME_BASE;
    }

    public int person(int person, int what) {
        if (!isPerson(person)) {
            return NONE;
        }
        switch (what) {
            case 0: return rules.top[person];
            case 1: return rules.bottom[person];
            case 2: return now.hunger[person];
            case 3: return now.times[person];
            case 4: return rules.ways[person];
            case 5: return setOrNone(course.choose(now, person));
            default: return NONE;
        }
    }

    public int stock(int size) {
        return isSize(size) ? now.stock[size] : NONE;
    }

    public int kept(int k, int what) {
        if (k < 0 || k >= now.keptCount || what < 0 || what >= State.KEPT_ROW) {
            return NONE;
        }
        return now.keptAt(k, what);
    }

    // ---- writings

    public int writings(int a, int b) {
        return isShare(a, b) ? finder.find(finder.units(a, b)) : NONE;
    }

    public int writing(int a, int b, int k) {
        int count = writings(a, b);
        return k >= 0 && k < count ? finder.sets[k] : NONE;
    }

    public int greedy(int a, int b) {
        return isShare(a, b) ? setOrNone(finder.greedySet(finder.units(a, b))) : NONE;
    }

    public int shortest(int a, int b) {
        return isShare(a, b) ? setOrNone(finder.shortestSet(finder.units(a, b))) : NONE;
    }

    public long cheapest(int a, int b, int what) {
        int count = writings(a, b);
        if (count <= 0 || what < 0 || what > 1) {
            return NOTHING;
        }
        int best = 0;
        long least = priceOf(finder.sets[0]);
        for (int k = 1; k < count; k++) {
            long price = priceOf(finder.sets[k]);
            if (price < least) {
                least = price;
                best = k;
            }
        }
        return what == 0 ? finder.sets[best] : least;
    }

    public long makes(int set, int what) {
        if (!isSet(set) || what < 0 || what > 1) {
            return NOTHING;
        }
        long sum = finder.sumOf(set);
        long common = Finder.commonDivisor(sum, Finder.WHOLE);
        if (common <= 0) {
            return NOTHING;
        }
        return (what == 0 ? sum : Finder.WHOLE) / common;
    }

    public int anew(int set, int other, int how) {
        if (!isSet(set) || how < 0 || how > 2) {
            return NONE;
        }
        long sum = finder.sumOf(set);
        if (how == 0) {
            return setOrNone(finder.shortestSet(sum + sum));
        }
        if (!isSet(other)) {
            return NONE;
        }
        long more = finder.sumOf(other);
        return setOrNone(finder.shortestSet(how == 1 ? sum + more : sum - more));
    }

    public int mend(int a, int b, int set, int what) {
        if (!isShare(a, b) || !isSet(set) || what < 0 || what > 2) {
            return NONE;
        }
        long units = finder.units(a, b);
        if (finder.isWriting(set, units)) {
            return NONE;
        }
        int ways = finder.mendings(set, units);
        if (what == 0) {
            return ways;
        }
        if (ways == 0) {
            return NONE;
        }
        return what == 1 ? finder.firstGoing : finder.firstComing;
    }

    public int fills(int a, int b, int set, int k) {
        if (!isShare(a, b) || set != 0 && !isSet(set)) {
            return NONE;
        }
        int count = finder.find(finder.units(a, b));
        int found = 0;
        for (int i = 0; i < count; i++) {
            if ((finder.sets[i] & set) == set) {
                if (found == k) {
                    return finder.sets[i];
                }
                found++;
            }
        }
        return k == NONE ? found : NONE;
    }

    // ---- ahead

    public int later(int person, int n) {
        return isPerson(person) && outlook.goAhead(n) ? outlook.then.hunger[person] : NONE;
    }

    public int served(int person) {
        return isPerson(person) ? outlook.firstServed(person) : NONE;
    }

    public int left(int size, int n) {
        return isSize(size) && outlook.goAhead(n) ? outlook.then.stock[size] : NONE;
    }

    // ---- cuts, feasts

    public int cuts(int k) {
        if (!hasOffice() || now.day >= LAST_DAY) {
            return NONE;
        }
        if (k < NONE || k >= Outlook.MOST_CUTS) {
            return NONE;
        }
        int loaves = outlook.fewestCuts();
        if (k == NONE) {
            return loaves;
        }
        return k < loaves ? outlook.cutRow[k] : NONE;
    }

    public int feast(int person) {
        if (person != NONE && !isPerson(person)) {
            return NONE;
        }
        int seated = outlook.mostSeated();
        return person == NONE ? seated : outlook.feastRow[person];
    }

    public int odds(int person) {
        if (!hasOffice() || now.day >= LAST_DAY) {
            return NONE;
        }
        if (person == NONE) {
            return NUMBERS_OF_MICE * rules.finest;
        }
        return isPerson(person) ? outlook.oddsOf(person) : NONE;
    }

    // ---- how many pieces there were

    public int see() {
        int rows = outlook.seeTape(tape);
        tape.count = 0;
        return rows == NONE ? refuse(1) : rows;
    }

    public int stocks(int size) {
        return isSize(size) ? outlook.possibleStocks(size) : NONE;
    }

    public int tells(int size, int what) {
        if (!isSize(size) || what < 0 || what > 2 || !outlook.findTelling(size)) {
            return NONE;
        }
        if (what == 2) {
            return outlook.tellingLeft;
        }
        return what == 0 ? outlook.tellingDay : outlook.tellingPerson;
    }

    // ---- acts

    public int cut(int n) {
        if (n < 2 || !isSize(n) || now.stock[1] < 1 || now.stock[n] + n > MOST_PIECES) {
            return refuse(2);
        }
        history.keep(now);
        now.stock[1]--;
        now.stock[n] += n;
        return now.stock[n];
    }

    public int bake(int n) {
        if (!hasOffice() || n < 1 || n > 99 || now.stock[1] + n > MOST_PIECES) {
            return refuse(2);
        }
        history.keep(now);
        now.stock[1] += n;
        return now.stock[1];
    }

    public boolean serve(int person, int set) {
        if (!isPerson(person) || !rules.isWayOf(person, set) || !now.holds(set)) {
            refuse(2);
            return false;
        }
        history.keep(now);
        now.hand(person, set);
        return true;
    }

    public int days(int n) {
        if (!daysCanBe(n)) {
            return refuse(3);
        }
        history.keep(now);
        int sum = 0;
        for (int i = 0; i < n; i++) {
            sum += Integer.bitCount(course.passDay(now));
        }
        return sum;
    }

    public int chance(int n) {
        if (!daysCanBe(n)) {
            return refuse(3);
        }
        history.keep(now);
        int sum = 0;
        for (int i = 0; i < n; i++) {
            if (draw(NUMBERS_OF_MICE) < rules.mice && now.lose(draw(rules.finest) + 1)) {
                sum++;
            }
            course.passDay(now);
        }
        return sum;
    }

    public boolean undo() {
        if (!history.back(now)) {
            refuse(4);
            return false;
        }
        return true;
    }

    public boolean seed(int seed) {
        if (seed < 0) {
            refuse(5);
            return false;
        }
        this.seed = seed;
        return true;
    }

    // ---- questions

    public long ask() {
        if (!hasOffice()) {
            tape.count = 0;
            return NOTHING;
        }
        int kind = phrases.readQuestion(question);
        tape.count = 0;
        keepFault();
        switch (kind) {
            case Phrases.FIRST: return firstHolding();
            case Phrases.LAST: return lastHolding();
            case Phrases.OFTEN:
            case Phrases.TOTAL: return sumOfAll();
            case Phrases.MOST: return greatestOfAll();
            case Phrases.LEAST: return leastOfAll();
            default: return NOTHING;
        }
    }

    // ---- images, refusals

    public int image() {
        pictureLength = 0;
        addTwo(now.day);
        for (int n = 1; n <= rules.finest; n++) {
            addTwo(now.stock[n]);
        }
        for (int p = 0; p < rules.people; p++) {
            addByte(now.hunger[p]);
            addTwo(now.times[p]);
        }
        addByte(Tape.checkOf(picture, pictureLength));
        return pictureLength;
    }

    public int octet(int k) {
        return k >= 0 && k < pictureLength ? picture[k] : NONE;
    }

    public boolean on() {
        boolean taken = hasOffice() && tape.isImage(rules.finest, rules.people);
        if (taken) {
            now.read(tape, rules);
            history.forget();
        } else {
            refuse(5);
        }
        tape.count = 0;
        return taken;
    }

    public int status(int what) {
        return what >= 0 && what < refused.length ? refused[what] : NONE;
    }

    // ---- what the calls share

    private int refuse(int kind) {
        if (kind >= 0 && kind < refused.length) {
            refused[kind]++;
        }
        return NONE;
    }

    private void keepFault() {
        faultKind = scanner.fault;
        faultPlace = scanner.place;
    }

    private boolean hasOffice() {
        return rules.finest > 0;
    }

    private boolean isPerson(int person) {
        return person >= 0 && person < rules.people;
    }

    private boolean isSize(int size) {
        return size >= 1 && size <= rules.finest;
    }

    private boolean isSet(int set) {
        return set > 0 && set >> rules.finest == 0;
    }

    private boolean isShare(int a, int b) {
        return hasOffice() && a >= 1 && a <= MOST_SHARE && b >= 1 && b <= MOST_SHARE;
    }

    private boolean daysCanBe(int n) {
        return hasOffice() && n >= 1 && n <= MOST_ACT_DAYS && now.day + n <= LAST_DAY;
    }

    private static int setOrNone(int set) {
        return set > 0 ? set : NONE;
    }

    private int draw(int m) {
        seed = (int) (1103515245L * seed + 12345L & 0x7fffffffL);
        return m > 0 ? (seed / 64) % m : 0;
    }

    private long priceOf(int set) {
        facts[Formula.DAY] = now.day;
        int place = 0;
        long price = 0;
        for (int n = 1; n <= rules.finest; n++) {
            if ((set >> (n - 1) & 1) == 1) {
                facts[Formula.SIZE] = n;
                facts[Formula.STOCK] = now.stock[n];
                facts[Formula.PLACE] = place;
                price += rules.costs.reckon(facts);
                place++;
            }
        }
        return price;
    }

    private int answerOf(int person) {
        facts[Formula.DAY] = now.day;
        facts[Formula.NUMBER] = person;
        facts[Formula.HUNGER] = now.hunger[person];
        facts[Formula.TOP] = rules.top[person];
        facts[Formula.BOTTOM] = rules.bottom[person];
        facts[Formula.WAYS] = rules.ways[person];
        facts[Formula.HAD] = now.times[person];
        facts[Formula.FITTING] = rules.fitting[person];
        System.arraycopy(now.stock, 0, facts, Formula.PIECES, MOST_SIZES + 1);
        return question.reckon(facts);
    }

    private long firstHolding() {
        for (int p = 0; p < rules.people; p++) {
            if (answerOf(p) != 0) {
                return p;
            }
        }
        return NONE;
    }

    private long lastHolding() {
        for (int p = rules.people - 1; p >= 0; p--) {
            if (answerOf(p) != 0) {
                return p;
            }
        }
        return NONE;
    }

    private long sumOfAll() {
        long sum = 0;
        for (int p = 0; p < rules.people; p++) {
            sum += answerOf(p);
        }
        return sum;
    }

    private long greatestOfAll() {
        long best = 0;
        for (int p = 0; p < rules.people; p++) {
            long answer = answerOf(p);
            best = p == 0 ? answer : Math.max(best, answer);
        }
        return best;
    }

    private long leastOfAll() {
        long best = 0;
        for (int p = 0; p < rules.people; p++) {
            long answer = answerOf(p);
            best = p == 0 ? answer : Math.min(best, answer);
        }
        return best;
    }

    private void addTwo(int number) {
        addByte(number / 256);
        addByte(number % 256);
    }

    private void addByte(int number) {
        if (pictureLength < picture.length) {
            picture[pictureLength] = number;
            pictureLength++;
        }
    }

    /** The bytes fed, each 0 to 255. */
    private static final class Tape {
        final int[] bytes = new int[TAPE_ROOM];
        int count = 0;

        void add(int number) {
            if (count + 4 > bytes.length) {
                return;
            }
            for (int shift = 24; shift >= 0; shift -= 8) {
                bytes[count] = number >> shift & 255;
                count++;
            }
        }

        int two(int k) {
            return k >= 0 && k + 1 < count ? bytes[k] * 256 + bytes[k + 1] : 0;
        }

        static int checkOf(int[] row, int length) {
            int check = 229;
            for (int i = 0; i < length && i < row.length; i++) {
                check = (3 * check + row[i]) % 251;
            }
            return check;
        }

        boolean isImage(int finest, int people) {
            int last = 2 + 2 * finest + 3 * people;
            if (count != last + 1 || bytes[last] != checkOf(bytes, last) || two(0) > LAST_DAY) {
                return false;
            }
            for (int n = 1; n <= finest; n++) {
                if (two(2 * n) > MOST_PIECES) {
                    return false;
                }
            }
            for (int p = 0; p < people; p++) {
                int from = 2 + 2 * finest + 3 * p;
                if (bytes[from] > MOST_HUNGER || two(from + 1) > MOST_TIMES) {
                    return false;
                }
            }
            return true;
        }
    }

    /** Cuts the tape into words, numbers and signs, and holds the fault of the text read last. */
    private static final class Scanner {
        static final int END = 0;
        static final int WORD = 1;
        static final int NUMBER = 2;
        static final int SIGN = 3;
        // A word behind a number, or a number behind a word, without the blank they need.
        static final int STUCK = 4;
        static final int NAME_LETTERS = 6;
        static final int NAME_BASE = 27;
        static final int NUMBER_DIGITS = 4;
        static final String OWN_WORDS = "finest most person due of have by bakes costs likes mice size stock place day hunger number top bottom ways had fits or and not all min max";

        final Tape tape;
        int kind = END;
        int at = 0;
        int stop = 0;
        int fault = 0;
        int place = NONE;

        Scanner(Tape tape) {
            this.tape = tape;
        }

        void begin() {
            kind = END;
            stop = 0;
            fault = 0;
            place = NONE;
            advance();
        }

        void advance() {
            int before = stop;
            boolean needsBlank = kind == WORD || kind == NUMBER;
            while (stop < tape.count && (tape.bytes[stop] == ' ' || tape.bytes[stop] == 10)) {
                stop++;
            }
            at = stop;
            if (stop >= tape.count) {
                kind = END;
                return;
            }
            boolean word = tape.bytes[at] >= 'a' && tape.bytes[at] <= 'z';
            char least = word ? 'a' : '0';
            char most = word ? 'z' : '9';
            while (stop < tape.count && tape.bytes[stop] >= least && tape.bytes[stop] <= most) {
                stop++;
            }
            if (stop == at) {
                kind = SIGN;
                stop++;
            } else if (needsBlank && at == before) {
                kind = STUCK;
            } else {
                kind = word ? WORD : NUMBER;
            }
        }

        boolean fail(int what) {
            fault = what;
            place = at;
            return false;
        }

        void failAt(int what, int where) {
            fault = what;
            place = where;
        }

        boolean isSign(char sign) {
            return kind == SIGN && at < tape.count && tape.bytes[at] == sign;
        }

        boolean isWord(String word) {
            if (kind != WORD || stop - at != word.length()) {
                return false;
            }
            for (int i = 0; i < word.length(); i++) {
                if (tape.bytes[at + i] != word.charAt(i)) {
                    return false;
                }
            }
            return true;
        }

        private boolean isOwnWordFrom(int from) {
            for (int i = 0; at + i < stop; i++) {
                if (from + i >= OWN_WORDS.length() || tape.bytes[at + i] != OWN_WORDS.charAt(from + i)) {
                    return false;
                }
            }
            return true;
        }

        private boolean isOwnWord() {
            int from = 0;
            for (int i = 0; i <= OWN_WORDS.length(); i++) {
                if (i == OWN_WORDS.length() || OWN_WORDS.charAt(i) == ' ') {
                    if (i - from == stop - at && isOwnWordFrom(from)) {
                        return true;
                    }
                    from = i + 1;
                }
            }
            return false;
        }

        boolean takeSign(char sign) {
            if (!isSign(sign)) {
                return fail(1);
            }
            advance();
            return true;
        }

        boolean takeWord(String word) {
            if (!isWord(word)) {
                return fail(1);
            }
            advance();
            return true;
        }

        /** The number here, still to be passed; NONE with a fault. */
        int seeNumber() {
            if (kind != NUMBER) {
                fail(1);
                return NONE;
            }
            if (stop - at > NUMBER_DIGITS) {
                failAt(1, at + NUMBER_DIGITS);
                return NONE;
            }
            int number = 0;
            for (int i = at; i < stop; i++) {
                number = number * 10 + tape.bytes[i] - '0';
            }
            return number;
        }

        int takeNumber(int least, int most) {
            int number = seeNumber();
            if (number == NONE) {
                return NONE;
            }
            if (number < least || number > most) {
                fail(2);
                return NONE;
            }
            advance();
            return number;
        }

        /** The name here as a number of six letters, still to be passed; NONE with a fault. */
        int seeName() {
            if (kind != WORD) {
                fail(1);
                return NONE;
            }
            if (stop - at > NAME_LETTERS) {
                failAt(1, at + NAME_LETTERS);
                return NONE;
            }
            if (isOwnWord()) {
                fail(1);
                return NONE;
            }
            int name = 0;
            for (int i = at; i < at + NAME_LETTERS; i++) {
                name = name * NAME_BASE + (i < stop ? tape.bytes[i] - 'a' + 1 : 0);
            }
            return name;
        }
    }

    /** A TEST or a SUM as steps on a pile: what a step needs lies on top of it. */
    private static final class Formula {
        static final int PUSH = 0;
        static final int FACT = 1;
        static final int NOT = 2;
        static final int STOCK_OF = 3;
        static final int FITS = 4;
        static final int PLUS = 5;
        static final int MINUS = 6;
        static final int TIMES = 7;
        static final int OVER = 8;
        static final int MIN = 9;
        static final int MAX = 10;
        static final int LESS = 11;
        static final int MORE = 12;
        static final int SAME = 13;
        static final int AND = 14;
        static final int OR = 15;
        static final int CODES = 16;

        static final int SIZE = 0;
        static final int STOCK = 1;
        static final int DAY = 2;
        static final int PLACE = 3;
        static final int HUNGER = 4;
        static final int NUMBER = 5;
        static final int TOP = 6;
        static final int BOTTOM = 7;
        static final int WAYS = 8;
        static final int HAD = 9;
        static final int FITTING = 10;
        static final int PIECES = 11;
        static final int FACTS = PIECES + MOST_SIZES + 1;

        static final int HELD = 1000000;

        final int[] steps = new int[TAPE_ROOM];
        // With six open at once no more than some forty numbers wait.
        final int[] pile = new int[64];
        int count = 0;

        void clear() {
            count = 0;
        }

        void take(Formula other) {
            count = other.count;
            System.arraycopy(other.steps, 0, steps, 0, count);
        }

        void add(int code, int value) {
            if (count < steps.length) {
                steps[count] = value * CODES + code;
                count++;
            }
        }

        /** What it is by the facts; a TEST is 1 or 0. */
        int reckon(int[] facts) {
            int high = 0;
            for (int i = 0; i < count && i < steps.length; i++) {
                int code = steps[i] % CODES;
                if (code <= FACT) {
                    if (high < pile.length) {
                        int value = steps[i] / CODES;
                        pile[high] = code == PUSH ? value : factAt(facts, value);
                        high++;
                    }
                } else if (code <= FITS) {
                    if (high > 0) {
                        pile[high - 1] = turn(code, pile[high - 1], facts);
                    }
                } else if (high > 1) {
                    high--;
                    pile[high - 1] = join(code, pile[high - 1], pile[high]);
                }
            }
            return high > 0 ? pile[0] : 0;
        }

        private static int factAt(int[] facts, int k) {
            return k >= 0 && k < facts.length ? facts[k] : 0;
        }

        private static int turn(int code, int value, int[] facts) {
            if (code == NOT) {
                return 1 - value;
            }
            if (value < 1 || value > MOST_SIZES) {
                return 0;
            }
            return code == STOCK_OF ? factAt(facts, PIECES + value) : factAt(facts, FITTING) >> (value - 1) & 1;
        }

        private static int join(int code, int left, int right) {
            switch (code) {
                case PLUS: return hold((long) left + right);
                case MINUS: return hold((long) left - right);
                case TIMES: return hold((long) left * right);
                case OVER: return right == 0 ? 0 : Math.floorDiv(left, right);
                case MIN: return Math.min(left, right);
                case MAX: return Math.max(left, right);
                case LESS: return left < right ? 1 : 0;
                case MORE: return left > right ? 1 : 0;
                case SAME: return left == right ? 1 : 0;
                case AND: return left & right;
                default: return left | right;
            }
        }

        private static int hold(long number) {
            if (number > HELD) {
                return HELD;
            }
            return number < -HELD ? -HELD : (int) number;
        }
    }

    /** Reads TESTS, SUMS and QUESTIONS; each method answers false with a fault. */
    private static final class Phrases {
        static final int COSTS = 0;
        static final int LIKES = 1;
        static final int QUESTION = 2;

        static final int NO_QUESTION = 0;
        static final int FIRST = 1;
        static final int LAST = 2;
        static final int OFTEN = 3;
        static final int TOTAL = 4;
        static final int MOST = 5;
        static final int LEAST = 6;

        static final int MOST_OPEN = 6;

        final Scanner scanner;
        private Formula out = null;
        private int where = COSTS;

        Phrases(Scanner scanner) {
            this.scanner = scanner;
        }

        boolean readSum(Formula into, int place) {
            out = into;
            where = place;
            into.clear();
            return sum(0);
        }

        boolean readTest(Formula into, int place) {
            out = into;
            where = place;
            into.clear();
            return test(0);
        }

        int readQuestion(Formula into) {
            scanner.begin();
            int kind = questionHere();
            if (kind == NO_QUESTION) {
                scanner.fail(1);
                return NO_QUESTION;
            }
            scanner.advance();
            boolean read = kind <= OFTEN ? readTest(into, QUESTION) : readSum(into, QUESTION);
            if (!read) {
                return NO_QUESTION;
            }
            if (scanner.kind != Scanner.END) {
                scanner.fail(1);
                return NO_QUESTION;
            }
            return kind;
        }

        private int questionHere() {
            if (scanner.isWord("first")) {
                return FIRST;
            }
            if (scanner.isWord("last")) {
                return LAST;
            }
            if (scanner.isWord("often")) {
                return OFTEN;
            }
            if (scanner.isWord("total")) {
                return TOTAL;
            }
            if (scanner.isWord("most")) {
                return MOST;
            }
            return scanner.isWord("least") ? LEAST : NO_QUESTION;
        }

        private boolean put(int code) {
            if (out != null) {
                out.add(code, 0);
            }
            return true;
        }

        private boolean putWith(int code, int value) {
            if (out != null) {
                out.add(code, value);
            }
            return true;
        }

        private boolean test(int open) {
            if (!both(open)) {
                return false;
            }
            for (int i = 0; i < TAPE_ROOM && scanner.isWord("or"); i++) {
                scanner.advance();
                if (!both(open)) {
                    return false;
                }
                put(Formula.OR);
            }
            return true;
        }

        private boolean both(int open) {
            if (!fact(open)) {
                return false;
            }
            for (int i = 0; i < TAPE_ROOM && scanner.isWord("and"); i++) {
                scanner.advance();
                if (!fact(open)) {
                    return false;
                }
                put(Formula.AND);
            }
            return true;
        }

        private boolean fact(int open) {
            if (scanner.isWord("not")) {
                return opens(open) && fact(open + 1) && put(Formula.NOT);
            }
            if (scanner.isSign('[')) {
                return opens(open) && test(open + 1) && scanner.takeSign(']');
            }
            if (scanner.isWord("all")) {
                scanner.advance();
                return putWith(Formula.PUSH, 1);
            }
            if (!sum(open)) {
                return false;
            }
            int code = comparisonHere();
            if (code == NONE) {
                return scanner.fail(1);
            }
            scanner.advance();
            return sum(open) && put(code);
        }

        private int comparisonHere() {
            if (scanner.isSign('<')) {
                return Formula.LESS;
            }
            if (scanner.isSign('>')) {
                return Formula.MORE;
            }
            return scanner.isSign('=') ? Formula.SAME : NONE;
        }

        /** Passes what opens here, unless too many are open already. */
        private boolean opens(int open) {
            if (open >= MOST_OPEN) {
                return scanner.fail(4);
            }
            scanner.advance();
            return true;
        }

        private boolean sum(int open) {
            if (!product(open)) {
                return false;
            }
            for (int i = 0; i < TAPE_ROOM && (scanner.isSign('+') || scanner.isSign('-')); i++) {
                int code = scanner.isSign('+') ? Formula.PLUS : Formula.MINUS;
                scanner.advance();
                if (!product(open)) {
                    return false;
                }
                put(code);
            }
            return true;
        }

        private boolean product(int open) {
            if (!part(open)) {
                return false;
            }
            for (int i = 0; i < TAPE_ROOM && (scanner.isSign('*') || scanner.isSign('/')); i++) {
                int code = scanner.isSign('*') ? Formula.TIMES : Formula.OVER;
                scanner.advance();
                if (!part(open)) {
                    return false;
                }
                put(code);
            }
            return true;
        }

        private boolean part(int open) {
            if (scanner.kind == Scanner.NUMBER) {
                int number = scanner.seeNumber();
                scanner.advance();
                return number != NONE && putWith(Formula.PUSH, number);
            }
            if (scanner.isSign('(')) {
                return opens(open) && sum(open + 1) && scanner.takeSign(')');
            }
            if (scanner.isWord("min")) {
                return pair(open, Formula.MIN);
            }
            if (scanner.isWord("max")) {
                return pair(open, Formula.MAX);
            }
            if (where == QUESTION && scanner.isWord("stock")) {
                return opens(open) && part(open + 1) && put(Formula.STOCK_OF);
            }
            if (where == QUESTION && scanner.isWord("fits")) {
                return opens(open) && part(open + 1) && put(Formula.FITS);
            }
            int named = where == QUESTION ? factOfPerson() : factOfPart();
            if (named == NONE) {
                return scanner.fail(1);
            }
            scanner.advance();
            return putWith(Formula.FACT, named);
        }

        private boolean pair(int open, int code) {
            scanner.advance();
            if (!scanner.isSign('(')) {
                return scanner.fail(1);
            }
            return opens(open) && sum(open + 1) && scanner.takeSign(',')
                && sum(open + 1) && scanner.takeSign(')') && put(code);
        }

        private int factOfPart() {
            if (scanner.isWord("size")) {
                return Formula.SIZE;
            }
            if (scanner.isWord("stock")) {
                return Formula.STOCK;
            }
            if (scanner.isWord("day")) {
                return Formula.DAY;
            }
            if (where == COSTS) {
                return scanner.isWord("place") ? Formula.PLACE : NONE;
            }
            return scanner.isWord("hunger") ? Formula.HUNGER : NONE;
        }

        private int factOfPerson() {
            if (scanner.isWord("number")) {
                return Formula.NUMBER;
            }
            if (scanner.isWord("hunger")) {
                return Formula.HUNGER;
            }
            if (scanner.isWord("top")) {
                return Formula.TOP;
            }
            if (scanner.isWord("bottom")) {
                return Formula.BOTTOM;
            }
            if (scanner.isWord("ways")) {
                return Formula.WAYS;
            }
            if (scanner.isWord("had")) {
                return Formula.HAD;
            }
            return scanner.isWord("day") ? Formula.DAY : NONE;
        }
    }

    /** An office as its text tells it, with the writings of each due. */
    private static final class Rules {
        static final int MOST_UNTOLD = 4;

        int finest = 0;
        int most = MOST_UNTOLD;
        int people = 0;
        int bakes = 0;
        int mice = 0;
        boolean costsTold = false;
        boolean likesTold = false;
        final int[] names = new int[MOST_PEOPLE];
        final int[] top = new int[MOST_PEOPLE];
        final int[] bottom = new int[MOST_PEOPLE];
        final int[] told = new int[MOST_SIZES + 1];
        final Formula costs = new Formula();
        final Formula likes = new Formula();
        final int[] rows = new int[MOST_PEOPLE * WAYS_ROOM];
        final int[] ways = new int[MOST_PEOPLE];
        final int[] fitting = new int[MOST_PEOPLE];

        void clear() {
            finest = 0;
            most = MOST_UNTOLD;
            people = 0;
            bakes = 0;
            mice = 0;
            costsTold = false;
            likesTold = false;
            for (int n = 0; n < told.length; n++) {
                told[n] = 0;
            }
            costs.clear();
            costs.add(Formula.FACT, Formula.SIZE);
            likes.clear();
            likes.add(Formula.PUSH, 1);
        }

        void take(Rules other) {
            finest = other.finest;
            most = other.most;
            people = other.people;
            bakes = other.bakes;
            mice = other.mice;
            System.arraycopy(other.names, 0, names, 0, MOST_PEOPLE);
            System.arraycopy(other.top, 0, top, 0, MOST_PEOPLE);
            System.arraycopy(other.bottom, 0, bottom, 0, MOST_PEOPLE);
            System.arraycopy(other.told, 0, told, 0, MOST_SIZES + 1);
            costs.take(other.costs);
            likes.take(other.likes);
        }

        boolean hasName(int name) {
            for (int p = 0; p < people; p++) {
                if (names[p] == name) {
                    return true;
                }
            }
            return false;
        }

        void tellWays(int person, int[] sets, int count) {
            ways[person] = count;
            fitting[person] = 0;
            for (int k = 0; k < count && k < WAYS_ROOM; k++) {
                rows[person * WAYS_ROOM + k] = sets[k];
                fitting[person] |= sets[k];
            }
        }

        int wayOf(int person, int k) {
            return rows[person * WAYS_ROOM + k];
        }

        /** All sizes of the writings of his due that have none but these. */
        int sizesOfWaysWithin(int person, int sizes) {
            int all = 0;
            for (int k = 0; k < ways[person]; k++) {
                int set = wayOf(person, k);
                if ((set & ~sizes) == 0) {
                    all |= set;
                }
            }
            return all;
        }

        /** The first writing of his due that has none but these sizes; 0 without one. */
        int firstWayWithin(int person, int sizes) {
            for (int k = 0; k < ways[person]; k++) {
                int set = wayOf(person, k);
                if ((set & ~sizes) == 0) {
                    return set;
                }
            }
            return 0;
        }

        boolean isWayOf(int person, int set) {
            for (int k = 0; k < ways[person]; k++) {
                if (wayOf(person, k) == set) {
                    return true;
                }
            }
            return false;
        }
    }

    /** Reads the text of an office into a draft, so that a fault leaves the office as it is. */
    private static final class OfficeReader {
        static final int MOST_STATEMENTS = 60;
        static final int MOST_DUE = 24;

        final Scanner scanner;
        final Phrases phrases;
        final Rules draft = new Rules();

        OfficeReader(Scanner scanner, Phrases phrases) {
            this.scanner = scanner;
            this.phrases = phrases;
        }

        /** How many STATEMENTS; NONE with a fault. */
        int read() {
            draft.clear();
            scanner.begin();
            int statements = 0;
            for (int i = 0; i <= MOST_STATEMENTS && scanner.kind != Scanner.END; i++) {
                if (i == MOST_STATEMENTS) {
                    scanner.fail(5);
                    return NONE;
                }
                if (!statement(i == 0) || !scanner.takeSign(';')) {
                    return NONE;
                }
                statements++;
            }
            if (statements == 0) {
                scanner.fail(1);
                return NONE;
            }
            return statements;
        }

        private boolean statement(boolean first) {
            if (first) {
                draft.finest = scanner.isWord("finest") ? numberBehind(2, MOST_SIZES) : failed();
                return draft.finest != NONE;
            }
            if (scanner.isWord("most")) {
                draft.most = numberBehind(1, 6);
                return draft.most != NONE;
            }
            if (scanner.isWord("bakes")) {
                draft.bakes = numberBehind(0, 9);
                return draft.bakes != NONE;
            }
            if (scanner.isWord("mice")) {
                draft.mice = numberBehind(0, NUMBERS_OF_MICE);
                return draft.mice != NONE;
            }
            if (scanner.isWord("person")) {
                return addPerson();
            }
            if (scanner.isWord("have")) {
                return addPieces();
            }
            if (scanner.isWord("costs")) {
                boolean told = draft.costsTold;
                draft.costsTold = true;
                return beginsOnce(told) && phrases.readSum(draft.costs, Phrases.COSTS);
            }
            if (scanner.isWord("likes")) {
                boolean told = draft.likesTold;
                draft.likesTold = true;
                return beginsOnce(told) && phrases.readTest(draft.likes, Phrases.LIKES);
            }
            return scanner.fail(1);
        }

        private boolean beginsOnce(boolean told) {
            if (told) {
                return scanner.fail(5);
            }
            scanner.advance();
            return true;
        }

        private int failed() {
            scanner.fail(1);
            return NONE;
        }

        private int numberBehind(int least, int most) {
            scanner.advance();
            return scanner.takeNumber(least, most);
        }

        private boolean addPerson() {
            int p = draft.people;
            if (p >= MOST_PEOPLE) {
                return scanner.fail(5);
            }
            scanner.advance();
            int name = scanner.seeName();
            if (name == NONE) {
                return false;
            }
            if (draft.hasName(name)) {
                return scanner.fail(3);
            }
            scanner.advance();
            if (!scanner.isWord("due")) {
                return scanner.fail(1);
            }
            int top = numberBehind(1, MOST_DUE);
            if (top == NONE) {
                return false;
            }
            if (!scanner.isWord("of")) {
                return scanner.fail(1);
            }
            int bottom = numberBehind(1, MOST_DUE);
            draft.names[p] = name;
            draft.top[p] = top;
            draft.bottom[p] = bottom;
            draft.people = p + 1;
            return bottom != NONE;
        }

        private boolean addPieces() {
            int pieces = numberBehind(1, 99);
            if (pieces == NONE || !scanner.takeWord("by")) {
                return false;
            }
            int size = scanner.seeNumber();
            if (size == NONE) {
                return false;
            }
            if (size < 1 || size > draft.finest || size > MOST_SIZES || draft.told[size] > 0) {
                return scanner.fail(2);
            }
            draft.told[size] = pieces;
            scanner.advance();
            return true;
        }
    }

    /** Finds writings; shares are counted in units, WHOLE of which are a loaf. */
    private static final class Finder {
        // The least number that every size up to 24 divides: each part is a whole number of units.
        static final long WHOLE = 5354228880L;

        final Rules rules;
        final long[] parts = new long[MOST_SIZES + 1];
        final int[] sets = new int[WAYS_ROOM];
        int count = 0;
        int firstGoing = NONE;
        int firstComing = NONE;
        // The share whose writings stand in sets now; one of 0 units has none.
        private long known = 0;

        Finder(Rules rules) {
            this.rules = rules;
            for (int n = 1; n <= MOST_SIZES; n++) {
                parts[n] = WHOLE / n;
            }
        }

        void forget() {
            known = 0;
            count = 0;
        }

        /** The units of a share; 0 when no parts can make it together. */
        long units(int a, int b) {
            return b > 0 && a * WHOLE % b == 0 ? a * WHOLE / b : 0;
        }

        static long commonDivisor(long a, long b) {
            long high = a;
            long low = b;
            // Each second rest is below half of what it was, so that 200 steps suffice for any long.
            for (int i = 0; i < 200 && low > 0; i++) {
                long rest = high % low;
                high = low;
                low = rest;
            }
            return high;
        }

        long sumOf(int set) {
            long sum = 0;
            for (int n = 1; n <= MOST_SIZES; n++) {
                if ((set >> (n - 1) & 1) == 1) {
                    sum += parts[n];
                }
            }
            return sum;
        }

        boolean isWriting(int set, long units) {
            return Integer.bitCount(set) <= rules.most && sumOf(set) == units;
        }

        /** Puts all writings of a share into sets, in their order: how many. */
        int find(long units) {
            if (units != known) {
                count = 0;
                known = units;
                if (units > 0) {
                    search(units, 1, rules.most, 0);
                }
            }
            return count;
        }

        private void search(long rest, int least, int room, int set) {
            for (int n = least; n <= rules.finest && parts[n] * room >= rest; n++) {
                int with = set | 1 << (n - 1);
                if (parts[n] == rest) {
                    keepSet(with);
                } else if (parts[n] < rest && room > 1) {
                    search(rest - parts[n], n + 1, room - 1, with);
                }
            }
        }

        private void keepSet(int set) {
            if (count < sets.length) {
                sets[count] = set;
                count++;
            }
        }

        /** 0 without one. */
        int shortestSet(long units) {
            find(units);
            int best = 0;
            for (int k = 0; k < count; k++) {
                if (best == 0 || Integer.bitCount(sets[k]) < Integer.bitCount(best)) {
                    best = sets[k];
                }
            }
            return best;
        }

        /** 0 without one. */
        int greedySet(long units) {
            long rest = units;
            int set = 0;
            int room = rules.most;
            // A size passed over is too great for what is left later, too: one way through them is enough.
            for (int n = 1; n <= rules.finest && rest > 0 && room > 0; n++) {
                if (parts[n] <= rest) {
                    rest -= parts[n];
                    set |= 1 << (n - 1);
                    room--;
                }
            }
            return rest == 0 ? set : 0;
        }

        /** In how many ways a set can be mended; the first of them stands in firstGoing, firstComing. */
        int mendings(int set, long units) {
            int ways = 0;
            if (Integer.bitCount(set) > rules.most) {
                return ways;
            }
            long sum = sumOf(set);
            for (int going = 1; going <= rules.finest; going++) {
                for (int coming = 1; coming <= rules.finest; coming++) {
                    boolean swaps = (set >> (going - 1) & 1) == 1 && (set >> (coming - 1) & 1) == 0;
                    if (swaps && sum - parts[going] + parts[coming] == units) {
                        if (ways == 0) {
                            firstGoing = going;
                            firstComing = coming;
                        }
                        ways++;
                    }
                }
            }
            return ways;
        }
    }

    /** What is so at a time: DAY, stock, people, what is KEPT. */
    private static final class State {
        static final int KEPT_ROOM = 40;
        static final int KEPT_ROW = 3;

        int day = 0;
        final int[] stock = new int[MOST_SIZES + 1];
        final int[] hunger = new int[MOST_PEOPLE];
        final int[] times = new int[MOST_PEOPLE];
        final int[] keptRows = new int[KEPT_ROOM * KEPT_ROW];
        int keptFirst = 0;
        int keptCount = 0;

        void begin(Rules rules) {
            day = 0;
            System.arraycopy(rules.told, 0, stock, 0, MOST_SIZES + 1);
            for (int p = 0; p < MOST_PEOPLE; p++) {
                hunger[p] = 0;
                times[p] = 0;
            }
            forgetKept();
        }

        void forgetKept() {
            keptFirst = 0;
            keptCount = 0;
        }

        void takeCourse(State other) {
            day = other.day;
            System.arraycopy(other.stock, 0, stock, 0, MOST_SIZES + 1);
            System.arraycopy(other.hunger, 0, hunger, 0, MOST_PEOPLE);
            System.arraycopy(other.times, 0, times, 0, MOST_PEOPLE);
        }

        void takeAll(State other) {
            takeCourse(other);
            System.arraycopy(other.keptRows, 0, keptRows, 0, KEPT_ROOM * KEPT_ROW);
            keptFirst = other.keptFirst;
            keptCount = other.keptCount;
        }

        /** Only of a tape that isImage() has looked through. */
        void read(Tape tape, Rules rules) {
            day = tape.two(0);
            for (int n = 1; n <= rules.finest; n++) {
                stock[n] = tape.two(2 * n);
            }
            for (int p = 0; p < rules.people; p++) {
                int from = 2 + 2 * rules.finest + 3 * p;
                hunger[p] = tape.bytes[from];
                times[p] = tape.two(from + 1);
            }
            forgetKept();
        }

        int allPieces() {
            return sumOfRow(stock);
        }

        int allTimes() {
            return sumOfRow(times);
        }

        private static int sumOfRow(int[] row) {
            int sum = 0;
            for (int number : row) {
                sum += number;
            }
            return sum;
        }

        int hungry() {
            int sum = 0;
            for (int number : hunger) {
                sum += number > 0 ? 1 : 0;
            }
            return sum;
        }

        /** The sizes of which there is a piece. */
        int inStock() {
            int sizes = 0;
            for (int n = 1; n <= MOST_SIZES; n++) {
                if (stock[n] > 0) {
                    sizes |= 1 << (n - 1);
                }
            }
            return sizes;
        }

        boolean holds(int set) {
            return (set & ~inStock()) == 0;
        }

        /** A piece of each size comes (1) or goes (-1). */
        void move(int set, int pieces) {
            for (int n = 1; n <= MOST_SIZES; n++) {
                if ((set >> (n - 1) & 1) == 1) {
                    stock[n] += pieces;
                }
            }
        }

        void addPieces(int size, int pieces) {
            stock[size] = Math.min(MOST_PIECES, stock[size] + pieces);
        }

        boolean lose(int size) {
            if (size < 1 || size > MOST_SIZES || stock[size] < 1) {
                return false;
            }
            stock[size]--;
            return true;
        }

        void hand(int person, int set) {
            move(set, -1);
            hunger[person] = 0;
            times[person] = Math.min(MOST_TIMES, times[person] + 1);
            int row = (keptFirst + keptCount) % KEPT_ROOM * KEPT_ROW;
            keptRows[row] = day;
            keptRows[row + 1] = person;
            keptRows[row + 2] = set;
            if (keptCount < KEPT_ROOM) {
                keptCount++;
            } else {
                keptFirst = (keptFirst + 1) % KEPT_ROOM;
            }
        }

        void goHungry(int person) {
            hunger[person] = Math.min(MOST_HUNGER, hunger[person] + 1);
        }

        int keptAt(int k, int what) {
            return keptRows[(keptFirst + k) % KEPT_ROOM * KEPT_ROW + what];
        }
    }

    /** What was so ahead of the last acts, the oldest first. */
    private static final class History {
        static final int ROOM = 20;

        final State[] states = new State[ROOM];
        private int first = 0;
        int count = 0;

        History() {
            for (int i = 0; i < ROOM; i++) {
                states[i] = new State();
            }
        }

        void forget() {
            first = 0;
            count = 0;
        }

        void keep(State state) {
            states[(first + count) % ROOM].takeAll(state);
            if (count < ROOM) {
                count++;
            } else {
                first = (first + 1) % ROOM;
            }
        }

        boolean back(State state) {
            if (count == 0) {
                return false;
            }
            count--;
            state.takeAll(states[(first + count) % ROOM]);
            return true;
        }
    }

    /** How a day goes. */
    private static final class Course {
        final Rules rules;
        private final int[] facts = new int[Formula.FACTS];

        Course(Rules rules) {
            this.rules = rules;
        }

        /** The first writing of his due that the stock has and he likes; 0 without one. */
        int choose(State state, int person) {
            // The likes are reckoned only of sizes that matter: that is the dear part of a day.
            int wanted = rules.sizesOfWaysWithin(person, state.inStock());
            if (wanted == 0) {
                return 0;
            }
            facts[Formula.DAY] = state.day;
            facts[Formula.HUNGER] = state.hunger[person];
            int good = 0;
            for (int n = 1; n <= rules.finest; n++) {
                if ((wanted >> (n - 1) & 1) == 1) {
                    facts[Formula.SIZE] = n;
                    facts[Formula.STOCK] = state.stock[n];
                    if (rules.likes.reckon(facts) != 0) {
                        good |= 1 << (n - 1);
                    }
                }
            }
            return rules.firstWayWithin(person, good);
        }

        /** Who is served, as bits. */
        int passDay(State state) {
            state.addPieces(1, rules.bakes);
            int who = 0;
            for (int p = 0; p < rules.people; p++) {
                int set = choose(state, p);
                if (set == 0) {
                    state.goHungry(p);
                } else {
                    state.hand(p, set);
                    who |= 1 << p;
                }
            }
            state.day = Math.min(LAST_DAY, state.day + 1);
            return who;
        }

        /** The next day up to the first who is not served. */
        boolean servesAll(State state) {
            state.addPieces(1, rules.bakes);
            for (int p = 0; p < rules.people; p++) {
                int set = choose(state, p);
                if (set == 0) {
                    return false;
                }
                state.hand(p, set);
            }
            return true;
        }
    }

    /** What would be: days ahead, cuts, feasts, odds, and how many pieces there can be. */
    private static final class Outlook {
        static final int MOST_CUTS = 3;
        // Above the 2300 rows that three loaves have.
        static final int CUT_ROWS = 10000;
        static final int FEAST_WAYS = 8;
        static final int SEEN_DAYS = 31;
        static final int STOCKS = 31;
        static final int MOST_SEEN = 16;

        final Rules rules;
        final Course course;
        final State now;
        final State then = new State();
        final int[] cutRow = new int[MOST_CUTS];
        final int[] feastRow = new int[MOST_PEOPLE];
        private final int[] seen = new int[MOST_SEEN * 3];
        int seenCount = 0;
        // Who is served, by how many pieces there are, then by days ahead.
        private final int[] watched = new int[STOCKS * SEEN_DAYS];
        int tellingDay = NONE;
        int tellingPerson = NONE;
        int tellingLeft = NONE;

        Outlook(Rules rules, Course course, State now) {
            this.rules = rules;
            this.course = course;
            this.now = now;
        }

        /** Puts into then what is so behind n days ahead; false when n can't be. */
        boolean goAhead(int n) {
            if (n < 0 || n > MOST_AHEAD || now.day + n > LAST_DAY) {
                return false;
            }
            then.takeCourse(now);
            for (int i = 0; i < n; i++) {
                course.passDay(then);
            }
            return true;
        }

        int firstServed(int person) {
            then.takeCourse(now);
            for (int i = 0; i < MOST_AHEAD && now.day + i < LAST_DAY; i++) {
                if ((course.passDay(then) >> person & 1) == 1) {
                    return i;
                }
            }
            return NONE;
        }

        /** How many loaves; their sizes stand in cutRow. */
        int fewestCuts() {
            int most = Math.min(MOST_CUTS, now.stock[1]);
            for (int loaves = 0; loaves <= most; loaves++) {
                fillCutRow(0, 2);
                boolean more = true;
                for (int i = 0; i < CUT_ROWS && more; i++) {
                    if (cutsServe(loaves)) {
                        return loaves;
                    }
                    more = nextCutRow(loaves);
                }
            }
            return NONE;
        }

        private void fillCutRow(int from, int size) {
            for (int k = from; k < MOST_CUTS; k++) {
                cutRow[k] = size;
            }
        }

        /** The next row of sizes, none less than the one ahead of it; false behind the last. */
        private boolean nextCutRow(int loaves) {
            for (int k = loaves - 1; k >= 0; k--) {
                if (cutRow[k] < rules.finest) {
                    fillCutRow(k, cutRow[k] + 1);
                    return true;
                }
            }
            return false;
        }

        private boolean cutsServe(int loaves) {
            then.takeCourse(now);
            then.stock[1] -= loaves;
            for (int k = 0; k < loaves; k++) {
                then.addPieces(cutRow[k], cutRow[k]);
            }
            return course.servesAll(then);
        }

        /** How many have a writing; the numbers of these stand in feastRow. */
        int mostSeated() {
            then.takeCourse(now);
            for (int without = 0; without <= rules.people; without++) {
                if (seat(0, without)) {
                    return rules.people - without;
                }
            }
            return 0;
        }

        private boolean seat(int person, int without) {
            if (person >= rules.people) {
                return true;
            }
            feastRow[person] = NONE;
            if (without > 0 && seat(person + 1, without - 1)) {
                return true;
            }
            int sizes = then.inStock();
            int ways = Math.min(FEAST_WAYS, rules.ways[person]);
            for (int k = 0; k < ways; k++) {
                int set = rules.wayOf(person, k);
                if ((set & ~sizes) == 0) {
                    then.move(set, -1);
                    feastRow[person] = k;
                    if (seat(person + 1, without)) {
                        return true;
                    }
                    then.move(set, 1);
                }
            }
            return false;
        }

        int oddsOf(int person) {
            int untouched = servedWithout(0, person);
            int rows = untouched * (NUMBERS_OF_MICE - rules.mice) * rules.finest;
            for (int n = 1; n <= rules.finest && rules.mice > 0; n++) {
                rows += rules.mice * (now.stock[n] > 0 ? servedWithout(n, person) : untouched);
            }
            return rows;
        }

        /** 1 if he is served in the next day, a piece of the size being gone (0: of none), else 0. */
        private int servedWithout(int size, int person) {
            then.takeCourse(now);
            then.lose(size);
            return course.passDay(then) >> person & 1;
        }

        /** How many rows; NONE, all staying, when the tape tells none such. */
        int seeTape(Tape tape) {
            int rows = tape.count / 3;
            if (rows < 1 || rows > MOST_SEEN || tape.count != rows * 3) {
                return NONE;
            }
            for (int i = 0; i < tape.count; i += 3) {
                if (tape.bytes[i] >= SEEN_DAYS || tape.bytes[i + 1] >= rules.people || tape.bytes[i + 2] > 1) {
                    return NONE;
                }
            }
            System.arraycopy(tape.bytes, 0, seen, 0, tape.count);
            seenCount = rows;
            return rows;
        }

        private int comingDays() {
            return Math.min(SEEN_DAYS, LAST_DAY - now.day);
        }

        private int lastSeenDay() {
            int last = NONE;
            for (int row = 0; row < seenCount; row++) {
                last = Math.max(last, seen[row * 3]);
            }
            return last;
        }

        int possibleStocks(int size) {
            int days = lastSeenDay() + 1;
            if (days > comingDays()) {
                return 0;
            }
            watch(size, days);
            return stocksAsSeen();
        }

        private int stocksAsSeen() {
            int bits = 0;
            for (int pieces = 0; pieces < STOCKS; pieces++) {
                if (isAsSeen(pieces)) {
                    bits |= 1 << pieces;
                }
            }
            return bits;
        }

        private void watch(int size, int days) {
            for (int pieces = 0; pieces < STOCKS; pieces++) {
                then.takeCourse(now);
                then.stock[size] = pieces;
                for (int d = 0; d < days && d < SEEN_DAYS; d++) {
                    watched[pieces * SEEN_DAYS + d] = course.passDay(then);
                }
            }
        }

        private boolean isAsSeen(int pieces) {
            for (int row = 0; row < seenCount; row++) {
                int who = watched[pieces * SEEN_DAYS + seen[row * 3]];
                if ((who >> seen[row * 3 + 1] & 1) != seen[row * 3 + 2]) {
                    return false;
                }
            }
            return true;
        }

        boolean findTelling(int size) {
            int days = comingDays();
            if (days < 1 || days <= lastSeenDay() || rules.people < 1) {
                return false;
            }
            watch(size, days);
            int possible = stocksAsSeen();
            if (possible == 0) {
                return false;
            }
            int all = Integer.bitCount(possible);
            tellingLeft = all + 1;
            for (int d = 0; d < days; d++) {
                for (int p = 0; p < rules.people; p++) {
                    int served = servedBy(possible, d, p);
                    int left = Math.max(served, all - served);
                    if (left < tellingLeft) {
                        tellingDay = d;
                        tellingPerson = p;
                        tellingLeft = left;
                    }
                }
            }
            return true;
        }

        /** By how many of the stocks he is served in that day. */
        private int servedBy(int possible, int day, int person) {
            int sum = 0;
            for (int pieces = 0; pieces < STOCKS; pieces++) {
                sum += possible >> pieces & watched[pieces * SEEN_DAYS + day] >> person & 1;
            }
            return sum;
        }
    }
}
