import java.util.Arrays;

/** Part II of the document: each limit of sizes, sets, writings, stock, hunger, days, what is kept, acts, draws. */
public final class DayEdgesTest {
    private static final String LOAF = "person a due 1 of 1;";

    public static void main(String[] args) {
        sizes();
        sets();
        writingsOfMost();
        orderOfWritings();
        atFirst();
        bakedFirst();
        personByPerson();
        firstOfTheWritings();
        likesOfEachSize();
        byWhatIsSoThen();
        timesOf999();
        hungerOf99();
        hungerEnds();
        dayOf999();
        piecesOf999();
        piecesAreLostAtOnce();
        belowMice();
        miceAlwaysOrNever();
        ofTheSizeOneAbove();
        ifThereIsOne();
        draws();
        fortyKept();
        keptByActs();
        twentyActs();
        actsComeRound();
        Office.end();
    }

    /** "SIZES are 1 .. finest". */
    private static void sizes() {
        for (int finest = 2; finest <= 24; finest++) {
            UnlikeLoaves x = Office.of("finest " + finest + ";");
            Office.due("stock(0)", x.stock(0), -1);
            Office.due("stock(1)", x.stock(1), 0);
            Office.due("stock of the finest", x.stock(finest), 0);
            Office.due("stock beyond", x.stock(finest + 1), -1);
            Office.due("the finest part", x.writing(1, finest, 0), Office.set(finest));
            Office.due("a part beyond", x.shortest(1, finest + 1) == Office.set(finest + 1), false);
        }
    }

    /** "A SET of SIZES is told by bits (bit n - 1 for SIZE n); it MAKES one part of each of them together." */
    private static void sets() {
        UnlikeLoaves x = Office.of("finest 24;");
        for (int n = 1; n <= 24; n++) {
            Office.due("a part", x.makes(1 << (n - 1), 0), 1);
            Office.due("an n-th", x.makes(1 << (n - 1), 1), n);
        }
        Office.due("a loaf and a finest part", x.makes(1 | 1 << 23, 0), 25);
        Office.due("a loaf and a finest part, below", x.makes(1 | 1 << 23, 1), 24);
    }

    /** "A WRITING of a share .. is a SET of 1 to most SIZES that MAKES just that." */
    private static void writingsOfMost() {
        for (int n = 2; n <= 6; n++) {
            int all = (1 << n) - 1;
            int last = 1 << (n - 1);
            for (int most = 1; most <= 6; most++) {
                // No other sizes up to n make as much as all of them.
                UnlikeLoaves x = Office.of("finest " + n + ";most " + most + ";");
                Office.due(n + " sizes of most " + most, x.anew(all - last, last, 1), n <= most ? all : -1);
                Office.due("one size of most " + most, x.writing(1, n, 0), last);
            }
        }
        UnlikeLoaves x = Office.of("finest 6;most 2;person a due 1 of 1;");
        Office.due("three are too many", x.person(0, 4), 1);
        Office.open(x, "finest 6;most 3;person a due 1 of 1;");
        Office.due("three are not", x.person(0, 4), 2);
        Office.open(x, "finest 6;most 5;person a due 1 of 1;");
        Office.due("just a loaf, no more, no less", x.person(0, 4), 2);
    }

    /** "of two the one that has the less SIZE where their rows of rising SIZES are first unlike". */
    private static void orderOfWritings() {
        UnlikeLoaves x = Office.of("finest 24;most 6;");
        for (int a = 1; a <= 30; a++) {
            for (int b = 1; b <= 24; b++) {
                int count = x.writings(a, b);
                for (int k = 1; k < count; k++) {
                    int before = x.writing(a, b, k - 1);
                    int after = x.writing(a, b, k);
                    int unlike = before ^ after;
                    Office.due("the less size ahead", (before & unlike & -unlike) != 0, true);
                }
            }
        }
        Office.open(x, "finest 12;");
        Office.due("5/12 by 1/3", x.writing(5, 12, 0), Office.set(3, 12));
        Office.due("5/12 by 1/4", x.writing(5, 12, 1), Office.set(4, 6));
        Office.due("two of 5/12", x.writings(5, 12), 2);
    }

    /** "It is DAY 0 at first, in stock are the pieces told, nobody hungers, nobody has been SERVED." */
    private static void atFirst() {
        UnlikeLoaves x = Office.at("finest 3;" + LOAF + "have 2 by 3;", Office.image(7, new int[] {1, 1, 1}, 5, 6));
        Office.open(x, "finest 3;" + LOAF + "have 2 by 3;");
        Office.due("day", x.has(3), 0);
        Office.due("loaves", x.stock(1), 0);
        Office.due("thirds", x.stock(3), 2);
        Office.due("hunger", x.person(0, 2), 0);
        Office.due("hungry ones", x.has(5), 0);
        Office.due("times", x.person(0, 3), 0);
        Office.due("all times", x.has(6), 0);
    }

    /** "FIRST as many loaves as it bakes come into stock. THEN PERSON by PERSON". */
    private static void bakedFirst() {
        UnlikeLoaves x = Office.of("finest 3;" + LOAF + "bakes 1;");
        Office.due("not now", x.person(0, 5), -1);
        Office.due("the baked one", x.days(1), 1);
        Office.due("is gone", x.stock(1), 0);
        Office.open(x, "finest 3;" + LOAF + "person b due 1 of 1;bakes 1;likes stock>0;");
        Office.due("one of two", x.days(1), 1);
    }

    /** "THEN PERSON by PERSON". */
    private static void personByPerson() {
        StringBuilder text = new StringBuilder("finest 3;have 3 by 1;");
        for (int p = 0; p < 6; p++) {
            text.append("person ").append((char) ('f' - p)).append(" due 1 of 1;");
        }
        UnlikeLoaves x = Office.of(text.toString());
        Office.due("three loaves", x.days(1), 3);
        for (int p = 0; p < 6; p++) {
            Office.due("served " + p, x.person(p, 3), p < 3 ? 1 : 0);
            Office.due("hungry " + p, x.person(p, 2), p < 3 ? 0 : 1);
        }
    }

    /** "the first one of which a piece of each SIZE is in stock". */
    private static void firstOfTheWritings() {
        String due = "finest 12;person a due 1 of 2;";
        int[][] ways = {{2}, {3, 6}, {4, 6, 12}};
        for (int k = 0; k < 3; k++) {
            StringBuilder text = new StringBuilder(due);
            for (int j = k; j < 3; j++) {
                for (int n : ways[j]) {
                    text.append(text.indexOf("by " + n + ";") < 0 ? "have 1 by " + n + ";" : "");
                }
            }
            UnlikeLoaves x = Office.of(text.toString());
            Office.due("the first there", x.person(0, 5), Office.set(ways[k]));
            x.days(1);
            Office.due("the first taken", x.kept(0, 2), Office.set(ways[k]));
        }
        UnlikeLoaves x = Office.of(due + "have 1 by 4;have 1 by 6;have 99 by 11;");
        Office.due("one size is not there", x.person(0, 5), -1);
        Office.due("so he hungers", x.days(1), 0);
    }

    /** "and for each of which the TEST of likes holds". */
    private static void likesOfEachSize() {
        String stock = "finest 12;person a due 1 of 2;have 1 by 2;have 1 by 3;have 1 by 4;have 1 by 6;have 1 by 12;";
        Office.due("all", Office.of(stock).person(0, 5), Office.set(2));
        Office.due("no half", Office.of(stock + "likes size>2;").person(0, 5), Office.set(3, 6));
        Office.due("no third", Office.of(stock + "likes size>3;").person(0, 5), Office.set(4, 6, 12));
        Office.due("no twelfth", Office.of(stock + "likes size>3 and size<12;").person(0, 5), -1);
        Office.due("twelfths", Office.of(stock + "likes size>3 and size<13;").person(0, 5), Office.set(4, 6, 12));
    }

    /** "by what is so then": the DAY, the hunger, the stock at his turn. */
    private static void byWhatIsSoThen() {
        UnlikeLoaves x = Office.of("finest 3;" + LOAF + "person b due 1 of 1;have 3 by 1;likes stock>2;");
        Office.due("the second finds two", x.days(1), 1);
        Office.due("he hungers", x.person(1, 2), 1);
        Office.open(x, "finest 3;" + LOAF + "have 9 by 1;likes day=2;");
        Office.due("days 0, 1", x.days(2), 0);
        Office.due("day 2", x.days(1), 1);
        Office.due("day 3", x.days(1), 0);
        Office.open(x, "finest 3;" + LOAF + "have 9 by 1;likes hunger=2;");
        Office.due("of six days", x.days(6), 2);
        Office.due("the first of them", x.kept(0, 0), 2);
        Office.due("the second of them", x.kept(1, 0), 5);
    }

    /** "he has been SERVED once more (999 at most)". */
    private static void timesOf999() {
        UnlikeLoaves x = Office.at("finest 2;" + LOAF, Office.image(0, new int[] {9, 0}, 0, 998));
        Office.due("served", x.days(1), 1);
        Office.due("999 times", x.person(0, 3), 999);
        Office.due("served again", x.days(1), 1);
        Office.due("999 times at most", x.person(0, 3), 999);
        Office.due("served by an act", x.serve(0, 1), true);
        Office.due("999 times at most", x.person(0, 3), 999);
        Office.due("all times", x.has(6), 999);
        Office.due("each is kept", x.has(7), 3);
        Office.due("998 again", Office.on(x, Office.image(0, new int[] {9, 0}, 0, 998)), true);
        Office.due("served by an act", x.serve(0, 1), true);
        Office.due("999 times", x.person(0, 3), 999);
    }

    /** "he hungers for one DAY more (99 at most)". */
    private static void hungerOf99() {
        UnlikeLoaves x = Office.at("finest 2;" + LOAF, Office.image(0, new int[] {0, 0}, 97, 0));
        int[] want = {97, 98, 99, 99, 99};
        for (int n = 0; n < want.length; n++) {
            Office.due("hunger behind " + n + " days ahead", x.later(0, n), want[n]);
        }
        for (int n = 1; n < want.length; n++) {
            x.days(1);
            Office.due("hunger behind " + n + " days", x.person(0, 2), want[n]);
        }
        x.chance(1);
        Office.due("hunger behind a day by the seed", x.person(0, 2), 99);
    }

    /** "he hungers for 0 DAYS". */
    private static void hungerEnds() {
        UnlikeLoaves x = Office.at("finest 2;" + LOAF, Office.image(0, new int[] {1, 0}, 99, 0));
        Office.due("hungry ones", x.has(5), 1);
        x.days(1);
        Office.due("served", x.person(0, 2), 0);
        Office.due("hungry ones", x.has(5), 0);
        x.days(1);
        Office.due("not served", x.person(0, 2), 1);
        Office.due("hungry ones", x.has(5), 1);
    }

    /** "The DAY is one more (999 at most)." */
    private static void dayOf999() {
        UnlikeLoaves x = Office.at("finest 2;", Office.image(998, new int[] {0, 0}));
        Office.due("the last day", x.days(1), 0);
        Office.due("day", x.has(3), 999);
        Office.due("none behind it", x.days(1), -1);
        Office.due("none by the seed", x.chance(1), -1);
        Office.due("day", x.has(3), 999);
        x.undo();
        Office.due("day as it was", x.has(3), 998);
        Office.due("the last day by the seed", x.chance(1), 0);
        Office.due("day", x.has(3), 999);
    }

    /** "Of each SIZE there are 999 pieces at most (more are lost)." */
    private static void piecesOf999() {
        int[] loaves = {989, 990, 991, 998, 999};
        int[] want = {998, 999, 999, 999, 999};
        for (int i = 0; i < loaves.length; i++) {
            UnlikeLoaves x = Office.at("finest 2;bakes 9;", Office.image(0, new int[] {loaves[i], 999}));
            Office.due("ahead of " + loaves[i], x.left(1, 1), want[i]);
            x.days(1);
            Office.due("a day of " + loaves[i], x.stock(1), want[i]);
            x.undo();
            Office.due("undone", x.stock(1), loaves[i]);
            x.chance(1);
            Office.due("a day by the seed of " + loaves[i], x.stock(1), want[i]);
            Office.due("halves", x.stock(2), 999);
        }
    }

    /** "(more are lost)": when they come, ahead of those who take. */
    private static void piecesAreLostAtOnce() {
        UnlikeLoaves x = Office.at("finest 2;bakes 9;" + LOAF, Office.image(0, new int[] {995, 0}, 0, 0));
        Office.due("a day", x.days(1), 1);
        Office.due("999 less one", x.stock(1), 998);
        Office.due("two days ahead", x.left(1, 2), 998);
    }

    private static long next(long seed) {
        return (1103515245L * seed + 12345L) % 2147483648L;
    }

    private static int drawn(long seed, int m) {
        return (int) (seed / 64 % m);
    }

    private static UnlikeLoaves withMice(int finest, int mice) {
        StringBuilder text = new StringBuilder("finest " + finest + ";mice " + mice + ";");
        for (int n = 1; n <= finest; n++) {
            text.append("have 5 by ").append(n).append(';');
        }
        return Office.of(text.toString());
    }

    /** "BY THE SEED a DAY begins with a DRAW of 100: below mice". */
    private static void belowMice() {
        for (int seed = 0; seed < 60; seed++) {
            int number = drawn(next(seed), 100);
            UnlikeLoaves x = withMice(2, number);
            x.seed(seed);
            Office.due("the number is not below mice", x.chance(1), 0);
            Office.due("nothing is gone", x.has(4), 10);
            UnlikeLoaves y = withMice(2, number + 1);
            y.seed(seed);
            Office.due("the number is below mice", y.chance(1), 1);
            Office.due("one is gone", y.has(4), 9);
        }
    }

    /** "mice N (0 .. 100": none at all, each day. */
    private static void miceAlwaysOrNever() {
        UnlikeLoaves x = withMice(24, 0);
        Office.due("never", x.chance(100), 0);
        Office.due("all is there", x.has(4), 120);
        UnlikeLoaves y = Office.at("finest 2;mice 100;", Office.image(0, new int[] {999, 999}));
        Office.due("always", y.chance(100), 100);
        Office.due("a hundred are gone", y.has(4), 1898);
    }

    /** "a DRAW of finest: of the SIZE one above that a piece is gone". */
    private static void ofTheSizeOneAbove() {
        for (int finest = 2; finest <= 24; finest++) {
            boolean least = false;
            boolean most = false;
            for (int seed = 1; seed < 200 && !(least && most); seed++) {
                int size = drawn(next(next(seed)), finest) + 1;
                least |= size == 1;
                most |= size == finest;
                UnlikeLoaves x = withMice(finest, 100);
                x.seed(seed);
                Office.due("a mouse", x.chance(1), 1);
                Office.due("the size one above", x.stock(size), 4);
                Office.due("no other", x.has(4), 5 * finest - 1);
            }
            Office.due("a loaf and a finest part were drawn", least && most, true);
        }
    }

    /** "a piece is gone, if there is one". */
    private static void ifThereIsOne() {
        for (int seed = 1; seed < 40; seed++) {
            int size = drawn(next(next(seed)), 3) + 1;
            UnlikeLoaves x = Office.of("finest 3;have 1 by " + size + ";mice 100;");
            x.seed(seed);
            Office.due("the last one", x.chance(1), 1);
            Office.due("is gone", x.stock(size), 0);
            x.seed(seed);
            Office.due("there is none", x.chance(1), 0);
            Office.due("none it stays", x.stock(size), 0);
            UnlikeLoaves y = Office.of("finest 3;have 1 by " + (size % 3 + 1) + ";mice 100;");
            y.seed(seed);
            Office.due("only another", y.chance(1), 0);
            Office.due("that stays", y.has(4), 1);
        }
    }

    /** "A DRAW of m: x (the seed) becomes (1103515245 x + 12345) mod 2 to the 31; floor(x / 64) mod m." */
    private static void draws() {
        for (int first : new int[] {0, 1, 63, 64, 2147483647, 2147483646, 1073741824, 123456789}) {
            UnlikeLoaves x = withMice(24, 50);
            x.seed(first);
            long seed = first;
            int[] left = new int[25];
            Arrays.fill(left, 5);
            for (int day = 1; day <= 100; day++) {
                int gone = 0;
                seed = next(seed);
                if (drawn(seed, 100) < 50) {
                    seed = next(seed);
                    int size = drawn(seed, 24) + 1;
                    gone = left[size] > 0 ? 1 : 0;
                    left[size] -= gone;
                }
                Office.due("day " + day + " of seed " + first, x.chance(1), gone);
            }
            for (int n = 1; n <= 24; n++) {
                Office.due("stock of " + n, x.stock(n), left[n]);
            }
        }
        UnlikeLoaves x = withMice(2, 50);
        UnlikeLoaves y = withMice(2, 50);
        y.seed(1);
        for (int day = 0; day < 20; day++) {
            Office.due("the seed is 1 at first", x.chance(1), y.chance(1));
        }
    }

    /** "the last 40 are told". */
    private static void fortyKept() {
        UnlikeLoaves x = Office.of("finest 2;" + LOAF + "bakes 1;");
        for (int n = 1; n <= 85; n++) {
            x.days(1);
            int told = Math.min(40, n);
            Office.due("told of " + n, x.has(7), told);
            Office.due("the oldest of " + n, x.kept(0, 0), n - told);
            Office.due("the latest of " + n, x.kept(told - 1, 0), n - 1);
            Office.due("none behind " + n, x.kept(told, 0), -1);
        }
    }

    /** "KEPT is each that is SERVED (by acts, too): DAY, PERSON, the SET". */
    private static void keptByActs() {
        UnlikeLoaves x = Office.at("finest 6;person b due 1 of 1;person a due 1 of 2;",
            Office.image(999, new int[] {0, 1, 1, 0, 0, 1}, 0, 0, 0, 0));
        Office.due("at day 999", x.serve(1, Office.set(3, 6)), true);
        Office.due("and again", x.serve(1, Office.set(2)), true);
        int[][] want = {{999, 1, Office.set(3, 6)}, {999, 1, Office.set(2)}};
        for (int k = 0; k < 2; k++) {
            for (int what = 0; what < 3; what++) {
                Office.due("kept", x.kept(k, what), want[k][what]);
            }
        }
        x.undo();
        Office.due("one is left", x.has(7), 1);
        x.serve(0, 1);
        Office.due("none is kept of a refused one", x.has(7), 1);
    }

    /** "The last 20 can be undone." */
    private static void twentyActs() {
        UnlikeLoaves x = Office.of("finest 2;");
        for (int n = 1; n <= 20; n++) {
            x.bake(1);
            Office.due("acts", x.has(9), n);
        }
        x.bake(1);
        Office.due("the 21st", x.has(9), 20);
        for (int n = 20; n >= 1; n--) {
            Office.due("undo " + n, x.undo(), true);
            Office.due("loaves", x.stock(1), n);
            Office.due("acts", x.has(9), n - 1);
        }
        Office.due("the first act stays", x.undo(), false);
        Office.due("its loaf", x.stock(1), 1);
    }

    /** "ACTS: .. cut ..; loaves are baked; .. SERVED ..; DAYS; DAYS by the seed.": each is one. */
    private static void actsComeRound() {
        UnlikeLoaves x = Office.of("finest 2;person a due 1 of 2;have 99 by 1;mice 100;");
        for (int round = 1; round <= 9; round++) {
            x.cut(2);
            x.bake(3);
            x.serve(0, 2);
            x.days(2);
            x.chance(1);
            Office.due("acts of round " + round, x.has(9), Math.min(20, 5 * round));
        }
        int[] days = {27, 26, 24, 24, 24, 24, 23, 21, 21, 21, 21, 20, 18, 18, 18, 18, 17, 15, 15, 15, 15};
        for (int n = 0; n < days.length; n++) {
            Office.due("day behind " + n + " undone", x.has(3), days[n]);
            Office.due("undo", x.undo(), n < 20);
        }
        x.bake(1);
        x.bake(1);
        Office.due("two new ones", x.has(9), 2);
        x.undo();
        x.undo();
        Office.due("no more", x.undo(), false);
    }
}
