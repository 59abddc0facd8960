import java.util.ArrayList;
import java.util.Collections;
import java.util.List;
import java.util.Random;

/** All promises: the class and the model answer runs of drawn calls alike. */
public final class ModelTest {
    private static final int RUNS = 400;
    private static final int CALLS = 220;

    private final Random random;
    private final StringBuilder run = new StringBuilder();
    private final UnlikeLoaves x = new UnlikeLoaves();
    private final Model m = new Model();
    private boolean good = true;
    private int finest = 0;

    private ModelTest(long seed) {
        random = new Random(seed);
    }

    public static void main(String[] args) {
        int from = args.length > 0 ? Integer.parseInt(args[0]) : 0;
        int runs = args.length > 1 ? Integer.parseInt(args[1]) : RUNS;
        int wrong = 0;
        for (int seed = from; seed < from + runs && wrong < 5; seed++) {
            ModelTest test = new ModelTest(seed);
            test.go();
            if (!test.good) {
                wrong++;
                System.out.println("run " + seed + ":\n" + test.run);
            }
        }
        System.out.println(runs + " runs, " + wrong + " wrong");
        System.exit(wrong == 0 ? 0 : 1);
    }

    private void same(String call, long got, long want) {
        run.append(call).append(" -> ").append(got);
        if (got != want) {
            run.append("   due is ").append(want);
            good = false;
        }
        run.append('\n');
    }

    private int bit(boolean b) {
        return b ? 1 : 0;
    }

    private int below(int n) {
        return random.nextInt(n);
    }

    private void text(String text) {
        run.append("tape ").append(text.replace('\n', '~')).append('\n');
        for (int i = 0; i < text.length(); i += 20) {
            int[] n = new int[5];
            for (int k = 0; k < 20; k++) {
                n[k / 4] = n[k / 4] << 8 | (i + k < text.length() ? text.charAt(i + k) : 32);
            }
            same("feed", x.feed(n[0], n[1], n[2], n[3], n[4]), m.feed(n[0], n[1], n[2], n[3], n[4]));
        }
        same("end", bit(x.end(text.length())), bit(m.end(text.length())));
    }

    private void go() {
        if (below(20) > 0) {
            office(false);
        }
        for (int i = 0; i < CALLS && good; i++) {
            call();
        }
    }

    // ---- texts

    private String blank() {
        return below(6) == 0 ? below(2) == 0 ? "\n" : "  " : "";
    }

    private String sign(String sign) {
        return blank() + sign + blank();
    }

    private String number() {
        return below(8) == 0 ? "" + below(10000) : below(8) == 0 ? "00" + below(9) : "" + below(12);
    }

    private String part(String place, int deep) {
        int way = below(deep > 0 ? 10 : 6);
        if (way == 0) {
            return number();
        }
        if (way < 6) {
            String[] words = place.equals("ask") ? "number hunger top bottom ways had day".split(" ")
                : place.equals("costs") ? "size stock day place".split(" ") : "size stock day hunger".split(" ");
            return words[below(words.length)];
        }
        if (way == 6 && place.equals("ask")) {
            return (below(2) == 0 ? "stock " : "fits ") + part(place, deep - 1);
        }
        if (way < 8) {
            return "(" + blank() + sum(place, deep - 1) + sign(")");
        }
        return (way == 8 ? "min" : "max") + sign("(") + sum(place, deep - 1) + sign(",") + sum(place, deep - 1) + ")";
    }

    private String sum(String place, int deep) {
        StringBuilder s = new StringBuilder(part(place, deep));
        while (below(3) == 0) {
            s.append(sign("" + "+-*/".charAt(below(4)))).append(part(place, deep));
        }
        return s.toString();
    }

    private String fact(String place, int deep) {
        int way = deep > 0 ? below(8) : 7;
        if (way == 0) {
            return "not " + fact(place, deep - 1);
        }
        if (way == 1) {
            return "[" + blank() + test(place, deep - 1) + sign("]");
        }
        if (way == 2) {
            return "all";
        }
        return sum(place, deep) + sign("" + "<>=".charAt(below(3))) + sum(place, deep);
    }

    private String test(String place, int deep) {
        StringBuilder s = new StringBuilder(fact(place, deep));
        while (below(3) == 0) {
            s.append(below(2) == 0 ? " or " : " and ").append(fact(place, deep));
        }
        return s.toString();
    }

    private String spoiled(String text) {
        int changes = 1 + below(2);
        for (int i = 0; i < changes && !text.isEmpty(); i++) {
            int at = below(text.length());
            String[] bits = {"", " ", ";", "(", ")", "[", "not ", "0", "7", "99999", "x", "of", "size", "A", "\t", "finest 9;",
                "costs size;", "person abcdefg due 1 of 1;", "have 1 by 1;", "likes all;", "" + (char) 200, "min"};
            String bit = bits[below(bits.length)];
            int to = Math.min(text.length(), at + below(3));
            text = below(6) == 0 ? text.substring(0, at) : text.substring(0, at) + bit + text.substring(to);
        }
        return text.substring(0, Math.min(1580, text.length()));
    }

    private String due() {
        int bottom = 1 + below(below(3) == 0 ? 24 : 8);
        return " due " + (1 + below(below(4) == 0 ? 24 : bottom)) + " of " + bottom;
    }

    /** An office that stands: statements behind the first in a drawn order. */
    private String plainOffice() {
        List<String> all = new ArrayList<>();
        int sizes = 2 + below(below(3) == 0 ? 23 : 11);
        int people = below(12) == 0 ? 0 : 1 + below(6);
        for (int p = 0; p < people; p++) {
            all.add("person " + "abcdef".substring(below(4), 4) + (char) ('p' + p) + due());
        }
        for (int n = 1; n <= sizes; n++) {
            if (below(4) > 0) {
                all.add("have " + (1 + below(below(3) == 0 ? 99 : 5)) + " by " + n);
            }
        }
        if (below(2) == 0) {
            all.add("most " + (1 + below(6)));
        }
        for (int i = 0; i < 2; i++) {
            if (below(2) == 0) {
                all.add("bakes " + below(below(2) == 0 ? 10 : 3));
                all.add("mice " + below(101));
            }
        }
        if (below(2) == 0) {
            all.add("costs " + sum("costs", below(5)));
        }
        if (below(2) == 0) {
            all.add("likes " + (below(3) > 0 ? "size>" + below(3) + " or " : "") + test("likes", below(5)));
        }
        Collections.shuffle(all, random);
        StringBuilder s = new StringBuilder(blank() + "finest " + sizes + sign(";"));
        for (String statement : all) {
            if (s.length() + statement.length() < 1560) {
                s.append(statement).append(sign(";"));
            }
        }
        return s.toString();
    }

    /** The same with one statement more than once, or with many of them. */
    private String fullOffice(String text) {
        String[] statements = text.split(";");
        StringBuilder s = new StringBuilder(text);
        int more = below(3) == 0 ? 62 - statements.length : 1 + below(2);
        for (int i = 0; i < more; i++) {
            String again = below(4) == 0 ? statements[below(statements.length)] : below(9) == 0 ? "person z" + due()
                : "most " + (1 + below(6));
            if (s.length() + again.length() < 1570) {
                s.append(again).append(";");
            }
        }
        return s.toString();
    }

    private void office(boolean spoil) {
        String text = plainOffice();
        if (spoil) {
            text = below(4) == 0 ? fullOffice(text) : spoiled(text);
        }
        text(text);
        same("office", x.office(), m.office());
        same("fault(0)", x.fault(0), m.fault(0));
        same("fault(1)", x.fault(1), m.fault(1));
        finest = x.has(0);
    }

    private void ask() {
        String[] kinds = {"first ", "last ", "often ", "total ", "most ", "least "};
        int kind = below(6);
        int deep = below(3) == 0 ? below(9) : below(4);
        String text = kinds[kind] + (kind < 3 ? test("ask", deep) : sum("ask", deep));
        text = text.substring(0, Math.min(1500, text.length()));
        text(below(4) == 0 ? spoiled(text) : text);
        same("ask", x.ask(), m.ask());
        same("fault(0)", x.fault(0), m.fault(0));
        same("fault(1)", x.fault(1), m.fault(1));
    }

    private void see() {
        StringBuilder s = new StringBuilder();
        int rows = below(20) == 0 ? 17 : below(4);
        for (int i = 0; i < rows; i++) {
            s.append((char) below(below(4) == 0 ? 33 : 4)).append((char) below(below(8) == 0 ? 7 : 2)).append((char) below(2));
        }
        if (below(15) == 0) {
            s.append((char) 0);
        }
        text(s.toString());
        same("see", x.see(), m.see());
    }

    private void on() {
        StringBuilder s = new StringBuilder();
        int day = below(3) == 0 ? 960 + below(42) : below(30);
        s.append((char) (day >> 8)).append((char) (day & 255));
        for (int n = 0; n < x.has(0); n++) {
            int pieces = below(12) == 0 ? 970 + below(31) : below(6);
            s.append((char) (pieces >> 8)).append((char) (pieces & 255));
        }
        for (int p = 0; p < x.has(2); p++) {
            int times = below(4) == 0 ? 990 + below(11) : below(6);
            s.append((char) (below(9) == 0 ? 96 + below(5) : below(3))).append((char) (times >> 8)).append((char) (times & 255));
        }
        s.append((char) Model.check(s.chars().boxed().toList()));
        if (below(12) == 0) {
            s.setCharAt(below(s.length()), (char) below(256));
        }
        text(below(15) == 0 ? s.append(' ').toString() : s.toString());
        same("on", bit(x.on()), bit(m.on()));
    }

    // ---- calls

    private int person() {
        return below(30) == 0 ? random.nextInt() : below(12) == 0 ? below(9) - 1 : below(Math.max(1, x.has(2)));
    }

    private int size() {
        return below(20) == 0 ? random.nextInt() : below(9) == 0 ? below(27) - 1 : 1 + below(Math.max(1, finest));
    }

    private int set() {
        int set = 0;
        int parts = below(5);
        for (int i = 0; i < parts; i++) {
            set |= 1 << below(Math.max(1, finest));
        }
        return below(30) == 0 ? random.nextInt() : below(10) == 0 ? random.nextInt(1 << 24) : set;
    }

    private int share() {
        return below(20) == 0 ? below(103) - 1 : 1 + below(below(5) == 0 ? 99 : below(2) == 0 ? 12 : 4);
    }

    private int what() {
        return below(25) == 0 ? random.nextInt() : below(12) == 0 ? below(13) - 1 : below(7);
    }

    private void call() {
        int a = share();
        int b = share();
        int p = person();
        int n = size();
        int w = what();
        int few = below(9) == 0 ? below(6) - 2 : below(3) - (below(4) == 0 ? 1 : 0);
        int set = set();
        int other = set();
        switch (below(44)) {
            case 0 -> same("has " + w, x.has(w), m.has(w));
            case 1 -> same("letter " + p + " " + w, x.letter(p, w), m.letter(p, w));
            case 2, 3 -> same("person " + p + " " + w, x.person(p, w), m.person(p, w));
            case 4 -> same("stock " + n, x.stock(n), m.stock(n));
            case 5 -> same("kept " + w + " " + few, x.kept(w, few), m.kept(w, few));
            case 6 -> same("kept " + (w + 30) + " " + few, x.kept(w + 30, few), m.kept(w + 30, few));
            case 7 -> same("writings " + a + " " + b, x.writings(a, b), m.writings(a, b));
            case 8 -> same("writing " + a + " " + b + " " + few, x.writing(a, b, few), m.writing(a, b, few));
            case 9 -> same("greedy " + a + " " + b, x.greedy(a, b), m.greedy(a, b));
            case 10 -> same("shortest " + a + " " + b, x.shortest(a, b), m.shortest(a, b));
            case 11, 12 -> same("cheapest " + a + " " + b + " " + few, x.cheapest(a, b, few), m.cheapest(a, b, few));
            case 13 -> same("makes " + set + " " + few, x.makes(set, few), m.makes(set, few));
            case 14, 15 -> same("anew " + set + " " + other + " " + few, x.anew(set, other, few), m.anew(set, other, few));
            case 16 -> same("mend " + a + " " + b + " " + set + " " + few, x.mend(a, b, set, few), m.mend(a, b, set, few));
            case 17 -> mendNear(few);
            case 18 -> same("fills " + a + " " + b + " " + set + " " + few, x.fills(a, b, set, few), m.fills(a, b, set, few));
            case 19 -> same("later " + p + " " + w, x.later(p, w * 4), m.later(p, w * 4));
            case 20 -> same("served " + p, x.served(p), m.served(p));
            case 21 -> same("left " + n + " " + w, x.left(n, w * 4), m.left(n, w * 4));
            case 22 -> same("cuts " + few, x.cuts(few), m.cuts(few));
            case 23 -> same("feast " + p, x.feast(p), m.feast(p));
            case 24 -> same("feast -1", x.feast(-1), m.feast(-1));
            case 25 -> same("odds " + p, x.odds(p), m.odds(p));
            case 26 -> see();
            case 27 -> same("stocks " + n, x.stocks(n), m.stocks(n));
            case 28, 29 -> same("tells " + n + " " + few, x.tells(n, few), m.tells(n, few));
            case 30, 31 -> same("cut " + n, x.cut(n), m.cut(n));
            case 32 -> same("bake " + w, x.bake(w), m.bake(w));
            case 33 -> serve(p, set);
            case 34 -> same("days " + w, x.days(w), m.days(w));
            case 35 -> same("chance " + w, x.chance(w), m.chance(w));
            case 36 -> same("undo", bit(x.undo()), bit(m.undo()));
            case 37 -> same("seed " + set, bit(x.seed(set)), bit(m.seed(set)));
            case 38, 39 -> ask();
            case 40 -> images();
            case 41 -> on();
            case 42 -> same("status " + few, x.status(few), m.status(few));
            default -> rare(w);
        }
    }

    private void mendNear(int what) {
        int p = below(Math.max(1, x.has(2)));
        int set = x.writing(Math.max(1, x.person(p, 0)), Math.max(1, x.person(p, 1)), 0);
        if (set > 0) {
            set = set & set - 1 | 1 << below(Math.max(1, finest));
            int a = x.person(p, 0);
            int b = x.person(p, 1);
            same("mend " + a + " " + b + " " + set + " " + what, x.mend(a, b, set, what), m.mend(a, b, set, what));
        }
    }

    private void serve(int p, int set) {
        int would = x.person(p, 5);
        int taken = below(3) == 0 || would == -1 ? set : would;
        same("serve " + p + " " + taken, bit(x.serve(p, taken)), bit(m.serve(p, taken)));
    }

    private void images() {
        same("image", x.image(), m.image());
        for (int k = -1; k < 72; k++) {
            same("octet " + k, x.octet(k), m.octet(k));
        }
    }

    private void rare(int w) {
        switch (below(6)) {
            case 0 -> office(false);
            case 1, 2 -> office(true);
            case 3 -> same("days 100", x.days(100), m.days(100));
            case 4 -> same("bake 99", x.bake(99), m.bake(99));
            default -> same("end " + w, bit(x.end(w)), bit(m.end(w)));
        }
    }
}
