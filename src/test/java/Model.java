import java.util.ArrayDeque;
import java.util.ArrayList;
import java.util.Arrays;
import java.util.Comparator;
import java.util.HashMap;
import java.util.HashSet;
import java.util.List;
import java.util.Map;
import java.util.Set;
import java.util.function.ToIntFunction;

/** The document once more, written without a care for speed or room, to hold the class against. */
final class Model {
    private static final int NONE = -1;
    private static final long NOTHING = -1000000000000000L;
    private static final Set<String> OWN = new HashSet<>(Arrays.asList(("finest most person due of have by bakes costs"
        + " likes mice size stock place day hunger number top bottom ways had fits or and not all min max").split(" ")));
    private static final Map<Integer, Map<Ratio, List<Integer>>> TABLES = new HashMap<>();

    record Ratio(long above, long below) {
        static long common(long a, long b) {
            return b == 0 ? Math.abs(a) : common(b, a % b);
        }

        static Ratio of(long above, long below) {
            long common = common(above, below);
            return new Ratio(above / common, below / common);
        }

        Ratio plus(Ratio other) {
            long both = below / common(below, other.below) * other.below;
            return of(both / below * above + both / other.below * other.above, both);
        }

        Ratio minus(Ratio other) {
            return plus(new Ratio(-other.above, other.below));
        }

        boolean isAbove(Ratio other) {
            return minus(other).above > 0;
        }
    }

    /** What a PART can name. */
    private static final class View {
        final Map<String, Integer> words = new HashMap<>();
        int[] pieces = new int[25];
        Set<Integer> fits = new HashSet<>();
    }

    private interface Phrase extends ToIntFunction<View> {
    }

    private static final class Fault extends RuntimeException {
        private static final long serialVersionUID = 1L;
        final int kind;
        final int place;

        Fault(int kind, int place) {
            this.kind = kind;
            this.place = place;
        }
    }

    private static final class Told {
        int statements;
        int finest;
        int most = 4;
        int bakes;
        int mice;
        final List<String> names = new ArrayList<>();
        final List<int[]> dues = new ArrayList<>();
        final int[] have = new int[25];
        Phrase costs = v -> v.words.get("size");
        Phrase likes = v -> 1;
        boolean costsTold;
        boolean likesTold;
        final List<List<Integer>> ways = new ArrayList<>();
    }

    private static final class Now {
        int day;
        int[] stock = new int[25];
        int[] hunger = new int[6];
        int[] times = new int[6];
        List<int[]> kept = new ArrayList<>();

        Now copy() {
            Now n = new Now();
            n.day = day;
            n.stock = stock.clone();
            n.hunger = hunger.clone();
            n.times = times.clone();
            n.kept = new ArrayList<>(kept);
            return n;
        }
    }

    private static final class Parser {
        final String text;
        final String place;
        int at = 0;

        Parser(String text, String place) {
            this.text = text;
            this.place = place;
        }

        String phrasePlace = "";

        void blanks() {
            while (at < text.length() && (text.charAt(at) == ' ' || text.charAt(at) == '\n')) {
                at++;
            }
        }

        static boolean low(char c) {
            return c >= 'a' && c <= 'z';
        }

        static boolean digit(char c) {
            return c >= '0' && c <= '9';
        }

        /** The word that begins here, "" without one, or when it touches the number ahead of it. */
        String word() {
            blanks();
            if (at > 0 && at < text.length() && low(text.charAt(at)) && digit(text.charAt(at - 1))) {
                return "";
            }
            int to = at;
            while (to < text.length() && low(text.charAt(to))) {
                to++;
            }
            return text.substring(at, to);
        }

        boolean take(String word) {
            if (word().equals(word)) {
                at += word.length();
                return true;
            }
            return false;
        }

        void need(String word) {
            if (!take(word)) {
                throw new Fault(1, at);
            }
        }

        boolean sees(char sign) {
            blanks();
            return at < text.length() && text.charAt(at) == sign;
        }

        boolean take(char sign) {
            if (sees(sign)) {
                at++;
                return true;
            }
            return false;
        }

        void need(char sign) {
            if (!take(sign)) {
                throw new Fault(1, at);
            }
        }

        boolean seesNumber() {
            blanks();
            return at < text.length() && digit(text.charAt(at)) && (at == 0 || !low(text.charAt(at - 1)));
        }

        int number(int low, int high, int[] taken) {
            if (!seesNumber()) {
                throw new Fault(1, at);
            }
            int from = at;
            while (at < text.length() && digit(text.charAt(at))) {
                if (at - from == 4) {
                    throw new Fault(1, at);
                }
                at++;
            }
            int n = Integer.parseInt(text.substring(from, at));
            if (n < low || n > high || taken != null && taken[n] != 0) {
                throw new Fault(2, from);
            }
            return n;
        }

        Told office() {
            Told told = new Told();
            blanks();
            if (at == text.length()) {
                throw new Fault(1, at);
            }
            need("finest");
            told.finest = number(2, 24, null);
            need(';');
            told.statements = 1;
            while (true) {
                blanks();
                if (at == text.length()) {
                    return told;
                }
                if (told.statements == 60) {
                    throw new Fault(5, at);
                }
                statement(told);
                need(';');
                told.statements++;
            }
        }

        void statement(Told told) {
            int from = at;
            switch (word()) {
                case "most" -> {
                    need("most");
                    told.most = number(1, 6, null);
                }
                case "bakes" -> {
                    need("bakes");
                    told.bakes = number(0, 9, null);
                }
                case "mice" -> {
                    need("mice");
                    told.mice = number(0, 100, null);
                }
                case "have" -> {
                    need("have");
                    int pieces = number(1, 99, null);
                    need("by");
                    told.have[number(1, told.finest, told.have)] = pieces;
                }
                case "person" -> person(told, from);
                case "costs" -> {
                    if (told.costsTold) {
                        throw new Fault(5, from);
                    }
                    need("costs");
                    told.costsTold = true;
                    phrasePlace = "costs";
                    told.costs = sum(0);
                }
                case "likes" -> {
                    if (told.likesTold) {
                        throw new Fault(5, from);
                    }
                    need("likes");
                    told.likesTold = true;
                    phrasePlace = "likes";
                    told.likes = test(0);
                }
                default -> throw new Fault(1, from);
            }
        }

        void person(Told told, int from) {
            if (told.names.size() == 6) {
                throw new Fault(5, from);
            }
            need("person");
            String name = word();
            if (name.isEmpty() || OWN.contains(name)) {
                throw new Fault(1, at);
            }
            if (name.length() > 6) {
                throw new Fault(1, at + 6);
            }
            if (told.names.contains(name)) {
                throw new Fault(3, at);
            }
            at += name.length();
            need("due");
            int top = number(1, 24, null);
            need("of");
            int bottom = number(1, 24, null);
            told.names.add(name);
            told.dues.add(new int[] {top, bottom});
        }

        void open(int depth) {
            if (depth == 6) {
                throw new Fault(4, at);
            }
        }

        Phrase test(int depth) {
            Phrase p = both(depth);
            while (take("or")) {
                Phrase a = p;
                Phrase b = both(depth);
                p = v -> a.applyAsInt(v) == 1 || b.applyAsInt(v) == 1 ? 1 : 0;
            }
            return p;
        }

        Phrase both(int depth) {
            Phrase p = fact(depth);
            while (take("and")) {
                Phrase a = p;
                Phrase b = fact(depth);
                p = v -> a.applyAsInt(v) == 1 && b.applyAsInt(v) == 1 ? 1 : 0;
            }
            return p;
        }

        Phrase fact(int depth) {
            if (word().equals("not")) {
                open(depth);
                need("not");
                Phrase a = fact(depth + 1);
                return v -> a.applyAsInt(v) == 1 ? 0 : 1;
            }
            if (sees('[')) {
                open(depth);
                need('[');
                Phrase a = test(depth + 1);
                need(']');
                return a;
            }
            if (take("all")) {
                return v -> 1;
            }
            Phrase a = sum(depth);
            if (take('<')) {
                Phrase b = sum(depth);
                return v -> a.applyAsInt(v) < b.applyAsInt(v) ? 1 : 0;
            }
            if (take('>')) {
                Phrase b = sum(depth);
                return v -> a.applyAsInt(v) > b.applyAsInt(v) ? 1 : 0;
            }
            need('=');
            Phrase b = sum(depth);
            return v -> a.applyAsInt(v) == b.applyAsInt(v) ? 1 : 0;
        }

        static int held(long n) {
            return (int) Math.min(1000000, Math.max(-1000000, n));
        }

        Phrase sum(int depth) {
            Phrase p = product(depth);
            while (sees('+') || sees('-')) {
                boolean plus = text.charAt(at++) == '+';
                Phrase a = p;
                Phrase b = product(depth);
                p = v -> held(a.applyAsInt(v) + (plus ? 1L : -1L) * b.applyAsInt(v));
            }
            return p;
        }

        Phrase product(int depth) {
            Phrase p = part(depth);
            while (sees('*') || sees('/')) {
                boolean times = text.charAt(at++) == '*';
                Phrase a = p;
                Phrase b = part(depth);
                p = times ? v -> held((long) a.applyAsInt(v) * b.applyAsInt(v))
                    : v -> b.applyAsInt(v) == 0 ? 0 : (int) Math.floor((double) a.applyAsInt(v) / b.applyAsInt(v));
            }
            return p;
        }

        Phrase part(int depth) {
            if (seesNumber()) {
                int n = number(0, 9999, null);
                return v -> n;
            }
            if (sees('(')) {
                open(depth);
                need('(');
                Phrase a = sum(depth + 1);
                need(')');
                return a;
            }
            String w = word();
            if (w.equals("min") || w.equals("max")) {
                need(w);
                if (sees('(')) {
                    open(depth);
                }
                need('(');
                Phrase a = sum(depth + 1);
                need(',');
                Phrase b = sum(depth + 1);
                need(')');
                return w.equals("min") ? v -> Math.min(a.applyAsInt(v), b.applyAsInt(v))
                    : v -> Math.max(a.applyAsInt(v), b.applyAsInt(v));
            }
            boolean asked = place.equals("question");
            if (asked && (w.equals("stock") || w.equals("fits"))) {
                open(depth);
                need(w);
                Phrase a = part(depth + 1);
                return v -> {
                    int n = a.applyAsInt(v);
                    if (n < 1 || n > 24) {
                        return 0;
                    }
                    return w.equals("stock") ? v.pieces[n] : v.fits.contains(n) ? 1 : 0;
                };
            }
            List<String> known = asked ? List.of("number", "hunger", "top", "bottom", "ways", "had", "day")
                : List.of("size", "stock", "day", phrasePlace.equals("costs") ? "place" : "hunger");
            if (!known.contains(w)) {
                throw new Fault(1, at);
            }
            need(w);
            return v -> v.words.get(w);
        }
    }

    private final StringBuilder tape = new StringBuilder();
    private Told told = null;
    private Now now = new Now();
    private final ArrayDeque<Now> past = new ArrayDeque<>();
    private List<int[]> seen = new ArrayList<>();
    private int faultKind = 0;
    private int faultPlace = NONE;
    private long x = 1;
    private final int[] refused = new int[6];
    private List<Integer> picture = new ArrayList<>();

    int feed(int a, int b, int c, int d, int e) {
        if (tape.length() + 20 > 1600) {
            return no(0);
        }
        for (int n : new int[] {a, b, c, d, e}) {
            tape.append((char) (n >>> 24)).append((char) (n >>> 16 & 255)).append((char) (n >>> 8 & 255))
                .append((char) (n & 255));
        }
        return tape.length();
    }

    private int no(int kind) {
        refused[kind]++;
        return NONE;
    }

    boolean end(int n) {
        if (n < 0 || n > tape.length()) {
            no(0);
            return false;
        }
        tape.setLength(n);
        return true;
    }

    private String goes() {
        String text = tape.toString();
        tape.setLength(0);
        return text;
    }

    int office() {
        try {
            Told t = new Parser(goes(), "office").office();
            faultKind = 0;
            faultPlace = NONE;
            told = t;
            for (int[] due : t.dues) {
                t.ways.add(all(Ratio.of(due[0], due[1])));
            }
            now = new Now();
            now.stock = t.have.clone();
            past.clear();
            seen = new ArrayList<>();
            return t.statements;
        } catch (Fault f) {
            faultKind = f.kind;
            faultPlace = f.place;
            return no(1);
        }
    }

    int fault(int what) {
        return what == 0 ? faultKind : what == 1 ? faultPlace : NONE;
    }

    private int people() {
        return told == null ? 0 : told.names.size();
    }

    private int finest() {
        return told == null ? 0 : told.finest;
    }

    int has(int what) {
        return switch (what) {
            case 0 -> finest();
            case 1 -> told == null ? 4 : told.most;
            case 2 -> people();
            case 3 -> now.day;
            case 4 -> Arrays.stream(now.stock).sum();
            case 5 -> (int) Arrays.stream(now.hunger).filter(h -> h > 0).count();
            case 6 -> Arrays.stream(now.times).sum();
            case 7 -> Math.min(40, now.kept.size());
            case 8 -> seen.size();
            case 9 -> past.size();
            default -> NONE;
        };
    }

    int letter(int person, int k) {
        if (person < 0 || person >= people() || k < 0 || k > 5) {
            return NONE;
        }
        String name = told.names.get(person);
        return k < name.length() ? name.charAt(k) - 'a' + 1 : 0;
    }

    int person(int person, int what) {
        if (person < 0 || person >= people()) {
            return NONE;
        }
        return switch (what) {
            case 0 -> told.dues.get(person)[0];
            case 1 -> told.dues.get(person)[1];
            case 2 -> now.hunger[person];
            case 3 -> now.times[person];
            case 4 -> told.ways.get(person).size();
            case 5 -> choice(now, person);
            default -> NONE;
        };
    }

    int stock(int size) {
        return size < 1 || size > finest() ? NONE : now.stock[size];
    }

    int kept(int k, int what) {
        int skip = Math.max(0, now.kept.size() - 40);
        if (k < 0 || k + skip >= now.kept.size() || what < 0 || what > 2) {
            return NONE;
        }
        return now.kept.get(k + skip)[what];
    }

    // ---- writings

    private static List<Integer> sizes(int set) {
        List<Integer> sizes = new ArrayList<>();
        for (int n = 1; n <= 31; n++) {
            if ((set >>> (n - 1) & 1) == 1) {
                sizes.add(n);
            }
        }
        return sizes;
    }

    private static Ratio sum(int set) {
        Ratio sum = new Ratio(0, 1);
        for (int n : sizes(set)) {
            sum = sum.plus(new Ratio(1, n));
        }
        return sum;
    }

    private static int rising(int one, int other) {
        List<Integer> a = sizes(one);
        List<Integer> b = sizes(other);
        for (int i = 0; i < a.size() && i < b.size(); i++) {
            if (!a.get(i).equals(b.get(i))) {
                return a.get(i) - b.get(i);
            }
        }
        return a.size() - b.size();
    }

    private static void fill(Map<Ratio, List<Integer>> table, int finest, int most, int set, Ratio sum) {
        if (set != 0) {
            table.computeIfAbsent(sum, r -> new ArrayList<>()).add(set);
        }
        if (Integer.bitCount(set) == most) {
            return;
        }
        for (int n = 32 - Integer.numberOfLeadingZeros(set) + 1; n <= finest; n++) {
            fill(table, finest, most, set | 1 << (n - 1), sum.plus(new Ratio(1, n)));
        }
    }

    private List<Integer> all(Ratio share) {
        Map<Ratio, List<Integer>> table = TABLES.computeIfAbsent(told.finest * 10 + told.most, key -> {
            Map<Ratio, List<Integer>> made = new HashMap<>();
            fill(made, told.finest, told.most, 0, new Ratio(0, 1));
            return made;
        });
        List<Integer> sets = new ArrayList<>(table.getOrDefault(share, List.of()));
        sets.sort(Model::rising);
        return sets;
    }

    private List<Integer> share(int a, int b) {
        return told == null || a < 1 || a > 99 || b < 1 || b > 99 ? null : all(Ratio.of(a, b));
    }

    int writings(int a, int b) {
        List<Integer> sets = share(a, b);
        return sets == null ? NONE : sets.size();
    }

    int writing(int a, int b, int k) {
        List<Integer> sets = share(a, b);
        return sets == null || k < 0 || k >= sets.size() ? NONE : sets.get(k);
    }

    int greedy(int a, int b) {
        if (share(a, b) == null) {
            return NONE;
        }
        Ratio left = Ratio.of(a, b);
        int set = 0;
        while (left.above > 0) {
            int n = 1;
            while (n <= told.finest && ((set >> (n - 1) & 1) == 1 || new Ratio(1, n).isAbove(left))) {
                n++;
            }
            if (n > told.finest || Integer.bitCount(set) == told.most) {
                return NONE;
            }
            set |= 1 << (n - 1);
            left = left.minus(new Ratio(1, n));
        }
        return set;
    }

    private int shortestOf(Ratio share) {
        return all(share).stream().min(Comparator.comparing(Integer::bitCount)).orElse(NONE);
    }

    int shortest(int a, int b) {
        return share(a, b) == null ? NONE : shortestOf(Ratio.of(a, b));
    }

    private long cost(int set) {
        long sum = 0;
        int place = 0;
        for (int n : sizes(set)) {
            View v = new View();
            v.words.putAll(Map.of("size", n, "stock", now.stock[n], "day", now.day, "place", place++));
            sum += told.costs.applyAsInt(v);
        }
        return sum;
    }

    long cheapest(int a, int b, int what) {
        List<Integer> sets = share(a, b);
        if (sets == null || sets.isEmpty() || what < 0 || what > 1) {
            return NOTHING;
        }
        int best = sets.stream().min(Comparator.comparing(this::cost)).get();
        return what == 0 ? best : cost(best);
    }

    private boolean isSet(int set) {
        return set > 0 && told != null && sizes(set).stream().allMatch(n -> n <= told.finest);
    }

    long makes(int set, int what) {
        if (!isSet(set) || what < 0 || what > 1) {
            return NOTHING;
        }
        return what == 0 ? sum(set).above : sum(set).below;
    }

    int anew(int set, int other, int how) {
        if (!isSet(set) || how < 0 || how > 2 || how > 0 && !isSet(other)) {
            return NONE;
        }
        Ratio one = sum(set);
        return shortestOf(how == 0 ? one.plus(one) : how == 1 ? one.plus(sum(other)) : one.minus(sum(other)));
    }

    int mend(int a, int b, int set, int what) {
        List<Integer> sets = share(a, b);
        if (sets == null || !isSet(set) || what < 0 || what > 2 || sets.contains(set)) {
            return NONE;
        }
        List<int[]> ways = new ArrayList<>();
        for (int going : sizes(set)) {
            for (int coming = 1; coming <= told.finest; coming++) {
                int mended = set & ~(1 << (going - 1)) | 1 << (coming - 1);
                if ((set >> (coming - 1) & 1) == 0 && sets.contains(mended)) {
                    ways.add(new int[] {ways.size(), going, coming});
                }
            }
        }
        return what == 0 ? ways.size() : ways.isEmpty() ? NONE : ways.get(0)[what];
    }

    int fills(int a, int b, int set, int k) {
        List<Integer> sets = share(a, b);
        if (sets == null || set != 0 && !isSet(set)) {
            return NONE;
        }
        List<Integer> found = sets.stream().filter(s -> sizes(s).containsAll(sizes(set))).toList();
        return k == NONE ? found.size() : k < 0 || k >= found.size() ? NONE : found.get(k);
    }

    // ---- days

    private int choice(Now n, int person) {
        for (int set : told.ways.get(person)) {
            boolean good = true;
            for (int size : sizes(set)) {
                View v = new View();
                v.words.putAll(Map.of("size", size, "stock", n.stock[size], "day", n.day, "hunger", n.hunger[person]));
                good &= n.stock[size] > 0 && told.likes.applyAsInt(v) == 1;
            }
            if (good) {
                return set;
            }
        }
        return NONE;
    }

    private static void hand(Now n, int person, int set) {
        for (int size : sizes(set)) {
            n.stock[size]--;
        }
        n.hunger[person] = 0;
        n.times[person] = Math.min(999, n.times[person] + 1);
        n.kept.add(new int[] {n.day, person, set});
    }

    private Set<Integer> day(Now n) {
        Set<Integer> who = new HashSet<>();
        n.stock[1] = Math.min(999, n.stock[1] + told.bakes);
        for (int p = 0; p < people(); p++) {
            int set = choice(n, p);
            if (set == NONE) {
                n.hunger[p] = Math.min(99, n.hunger[p] + 1);
            } else {
                hand(n, p, set);
                who.add(p);
            }
        }
        n.day++;
        return who;
    }

    private Now ahead(int n) {
        if (n < 0 || n > 40 || now.day + n > 999) {
            return null;
        }
        Now then = now.copy();
        for (int i = 0; i < n; i++) {
            day(then);
        }
        return then;
    }

    int later(int person, int n) {
        return person < 0 || person >= people() || ahead(n) == null ? NONE : ahead(n).hunger[person];
    }

    int served(int person) {
        Now then = now.copy();
        for (int i = 0; i < 40 && then.day < 999 && person >= 0 && person < people(); i++) {
            if (day(then).contains(person)) {
                return i;
            }
        }
        return NONE;
    }

    int left(int size, int n) {
        return size < 1 || size > finest() || ahead(n) == null ? NONE : ahead(n).stock[size];
    }

    private List<Integer> fewest() {
        for (int loaves = 0; loaves <= Math.min(3, now.stock[1]); loaves++) {
            List<Integer> found = fewest(new ArrayList<>(), loaves);
            if (found != null) {
                return found;
            }
        }
        return null;
    }

    private List<Integer> fewest(List<Integer> row, int loaves) {
        if (row.size() == loaves) {
            Now then = now.copy();
            for (int n : row) {
                then.stock[1]--;
                then.stock[n] = Math.min(999, then.stock[n] + n);
            }
            return day(then).size() == people() ? row : null;
        }
        for (int n = row.isEmpty() ? 2 : row.get(row.size() - 1); n <= told.finest; n++) {
            List<Integer> longer = new ArrayList<>(row);
            longer.add(n);
            List<Integer> found = fewest(longer, loaves);
            if (found != null) {
                return found;
            }
        }
        return null;
    }

    int cuts(int k) {
        if (told == null || now.day == 999) {
            return NONE;
        }
        List<Integer> row = fewest();
        return row == null ? NONE : k == NONE ? row.size() : k < 0 || k >= row.size() ? NONE : row.get(k);
    }

    private int[] bestFeast;

    private void feasts(int[] row, int p, int[] stock) {
        if (p == people()) {
            long count = Arrays.stream(row).filter(w -> w != NONE).count();
            if (bestFeast == null || count > Arrays.stream(bestFeast).filter(w -> w != NONE).count()) {
                bestFeast = row.clone();
            }
            return;
        }
        for (int k = NONE; k < Math.min(8, told.ways.get(p).size()); k++) {
            int[] rest = stock.clone();
            boolean enough = true;
            for (int n : k == NONE ? List.<Integer>of() : sizes(told.ways.get(p).get(k))) {
                enough &= rest[n]-- > 0;
            }
            if (enough) {
                row[p] = k;
                feasts(row, p + 1, rest);
            }
        }
    }

    int feast(int person) {
        if (person < NONE || person >= people()) {
            return NONE;
        }
        bestFeast = null;
        feasts(new int[people()], 0, now.stock.clone());
        return person == NONE ? (int) Arrays.stream(bestFeast).filter(w -> w != NONE).count() : bestFeast[person];
    }

    int odds(int person) {
        if (told == null || now.day == 999 || person < NONE || person >= people()) {
            return NONE;
        }
        int rows = 0;
        for (int size = 1; size <= told.finest; size++) {
            Now plain = now.copy();
            boolean without = day(plain).contains(person);
            Now bitten = now.copy();
            bitten.stock[size] = Math.max(0, bitten.stock[size] - 1);
            boolean with = day(bitten).contains(person);
            for (int number = 0; number < 100; number++) {
                rows += person == NONE || (number < told.mice ? with : without) ? 1 : 0;
            }
        }
        return rows;
    }

    int see() {
        String text = goes();
        List<int[]> rows = new ArrayList<>();
        for (int i = 0; i + 2 < text.length(); i += 3) {
            rows.add(new int[] {text.charAt(i), text.charAt(i + 1), text.charAt(i + 2)});
        }
        boolean good = text.length() % 3 == 0 && rows.size() >= 1 && rows.size() <= 16
            && rows.stream().allMatch(r -> r[0] <= 30 && r[1] < people() && r[2] <= 1);
        if (!good) {
            return no(1);
        }
        seen = rows;
        return rows.size();
    }

    private List<Set<Integer>> course(int size, int pieces) {
        Now then = now.copy();
        then.stock[size] = pieces;
        List<Set<Integer>> days = new ArrayList<>();
        while (days.size() < 31 && then.day < 999) {
            days.add(day(then));
        }
        return days;
    }

    int stocks(int size) {
        if (size < 1 || size > finest()) {
            return NONE;
        }
        int bits = 0;
        for (int pieces = 0; pieces <= 30; pieces++) {
            List<Set<Integer>> days = course(size, pieces);
            if (seen.stream().allMatch(r -> r[0] < days.size() && days.get(r[0]).contains(r[1]) == (r[2] == 1))) {
                bits |= 1 << pieces;
            }
        }
        return bits;
    }

    int tells(int size, int what) {
        int bits = stocks(size);
        if (bits == NONE || bits == 0 || what < 0 || what > 2) {
            return NONE;
        }
        List<List<Set<Integer>>> courses = new ArrayList<>();
        for (int pieces = 0; pieces <= 30; pieces++) {
            if ((bits >> pieces & 1) == 1) {
                courses.add(course(size, pieces));
            }
        }
        int[] best = null;
        for (int d = 0; d < courses.get(0).size(); d++) {
            for (int p = 0; p < people(); p++) {
                int yes = 0;
                for (List<Set<Integer>> days : courses) {
                    yes += days.get(d).contains(p) ? 1 : 0;
                }
                int left = Math.max(yes, courses.size() - yes);
                if (best == null || left < best[2]) {
                    best = new int[] {d, p, left};
                }
            }
        }
        return best == null ? NONE : best[what];
    }

    // ---- acts

    private void act() {
        past.addLast(now.copy());
        if (past.size() > 20) {
            past.removeFirst();
        }
    }

    int cut(int n) {
        if (n < 2 || n > finest() || now.stock[1] == 0 || now.stock[n] + n > 999) {
            return no(2);
        }
        act();
        now.stock[1]--;
        now.stock[n] += n;
        return now.stock[n];
    }

    int bake(int n) {
        if (told == null || n < 1 || n > 99 || now.stock[1] + n > 999) {
            return no(2);
        }
        act();
        now.stock[1] += n;
        return now.stock[1];
    }

    boolean serve(int person, int set) {
        if (person < 0 || person >= people() || !told.ways.get(person).contains(set)
            || !sizes(set).stream().allMatch(n -> now.stock[n] > 0)) {
            no(2);
            return false;
        }
        act();
        hand(now, person, set);
        return true;
    }

    private boolean daysGo(int n) {
        return told != null && n >= 1 && n <= 100 && now.day + n <= 999;
    }

    int days(int n) {
        if (!daysGo(n)) {
            return no(3);
        }
        act();
        int sum = 0;
        for (int i = 0; i < n; i++) {
            sum += day(now).size();
        }
        return sum;
    }

    private int draw(int m) {
        x = (1103515245L * x + 12345L) % (1L << 31);
        return (int) (x / 64 % m);
    }

    int chance(int n) {
        if (!daysGo(n)) {
            return no(3);
        }
        act();
        int sum = 0;
        for (int i = 0; i < n; i++) {
            if (draw(100) < told.mice) {
                int size = draw(told.finest) + 1;
                if (now.stock[size] > 0) {
                    now.stock[size]--;
                    sum++;
                }
            }
            day(now);
        }
        return sum;
    }

    boolean undo() {
        if (past.isEmpty()) {
            no(4);
            return false;
        }
        now = past.removeLast();
        return true;
    }

    boolean seed(int seed) {
        if (seed < 0) {
            no(5);
            return false;
        }
        x = seed;
        return true;
    }

    // ---- questions, images

    long ask() {
        String text = goes();
        if (told == null) {
            return NOTHING;
        }
        try {
            Parser p = new Parser(text, "question");
            String kind = p.word();
            boolean test = List.of("first", "last", "often").contains(kind);
            if (!test && !List.of("total", "most", "least").contains(kind)) {
                throw new Fault(1, p.at);
            }
            p.need(kind);
            Phrase phrase = test ? p.test(0) : p.sum(0);
            p.blanks();
            if (p.at < text.length()) {
                throw new Fault(1, p.at);
            }
            faultKind = 0;
            faultPlace = NONE;
            List<Integer> answers = new ArrayList<>();
            for (int i = 0; i < people(); i++) {
                View v = new View();
                v.words.putAll(Map.of("number", i, "hunger", now.hunger[i], "top", told.dues.get(i)[0], "bottom",
                    told.dues.get(i)[1], "ways", told.ways.get(i).size(), "had", now.times[i], "day", now.day));
                v.pieces = now.stock;
                told.ways.get(i).forEach(set -> v.fits.addAll(sizes(set)));
                answers.add(phrase.applyAsInt(v));
            }
            return switch (kind) {
                case "first" -> answers.indexOf(1);
                case "last" -> answers.lastIndexOf(1);
                case "most" -> answers.stream().mapToInt(a -> a).max().orElse(0);
                case "least" -> answers.stream().mapToInt(a -> a).min().orElse(0);
                default -> answers.stream().mapToLong(a -> a).sum();
            };
        } catch (Fault f) {
            faultKind = f.kind;
            faultPlace = f.place;
            return NOTHING;
        }
    }

    int image() {
        picture = new ArrayList<>(List.of(now.day >> 8, now.day & 255));
        for (int n = 1; n <= finest(); n++) {
            picture.addAll(List.of(now.stock[n] >> 8, now.stock[n] & 255));
        }
        for (int p = 0; p < people(); p++) {
            picture.addAll(List.of(now.hunger[p], now.times[p] >> 8, now.times[p] & 255));
        }
        picture.add(check(picture));
        return picture.size();
    }

    static int check(List<Integer> bytes) {
        int c = 229;
        for (int b : bytes) {
            c = (3 * c + b) % 251;
        }
        return c;
    }

    int octet(int k) {
        return k < 0 || k >= picture.size() ? NONE : picture.get(k);
    }

    boolean on() {
        String text = goes();
        Now read = told == null ? null : read(text);
        if (read == null) {
            no(5);
            return false;
        }
        now = read;
        past.clear();
        return true;
    }

    private Now read(String text) {
        if (text.length() != 3 + 2 * finest() + 3 * people()) {
            return null;
        }
        List<Integer> bytes = new ArrayList<>();
        text.chars().forEach(bytes::add);
        int last = bytes.remove(bytes.size() - 1);
        Now n = new Now();
        int at = 0;
        n.day = bytes.get(at++) * 256 + bytes.get(at++);
        boolean good = last == check(bytes) && n.day <= 999;
        for (int size = 1; size <= finest(); size++) {
            n.stock[size] = bytes.get(at++) * 256 + bytes.get(at++);
            good &= n.stock[size] <= 999;
        }
        for (int p = 0; p < people(); p++) {
            n.hunger[p] = bytes.get(at++);
            n.times[p] = bytes.get(at++) * 256 + bytes.get(at++);
            good &= n.hunger[p] <= 99 && n.times[p] <= 999;
        }
        return good ? n : null;
    }

    int status(int what) {
        return what < 0 || what > 5 ? NONE : refused[what];
    }
}
