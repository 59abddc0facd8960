/** Part III of the document from AHEAD to ODDS, promises 20 to 25: each limit, at its last value and the first beyond it. */
public final class AheadEdgesTest {
    private static final int MIN = Integer.MIN_VALUE;
    private static final int MAX = Integer.MAX_VALUE;
    private static final String LOAF = "person a due 1 of 1;";

    public static void main(String[] args) {
        fortyAhead();
        notBeyondDay999();
        withoutDraws();
        laterNoneSuch();
        servedAtTheMost();
        servedNoneSuch();
        leftNoneSuch();
        cutsOfThree();
        cutsOfThoseInStock();
        cutsFromSizeTwo();
        cutsIntoTheSame();
        cutsLoseAbove999();
        cutsOfLikeOnes();
        cutsLetAllBeServed();
        cutsTheKth();
        cutsAtDay999();
        feastOfEight();
        feastOfPiecesEnough();
        feastOfMost();
        feastOfLikeOnes();
        feastNoneSuch();
        oddsOfAllRows();
        oddsByMice();
        oddsNoneSuch();
        Office.end();
    }

    /** Thirds for a, twenty of them, one a day. */
    private static UnlikeLoaves thirds(int day, int pieces) {
        return Office.at("finest 3;person a due 1 of 3;bakes 1;mice 100;", Office.image(day, new int[] {0, 0, pieces}, 0, 0));
    }

    /** "AHEAD are DAYS as they come from now on .. (40 at most"; "n DAYS AHEAD (0 .. 40)". */
    private static void fortyAhead() {
        UnlikeLoaves x = thirds(0, 20);
        for (int n = 0; n <= 40; n++) {
            Office.due("later " + n, x.later(0, n), Math.max(0, n - 20));
            Office.due("left " + n, x.left(3, n), Math.max(0, 20 - n));
            Office.due("loaves left " + n, x.left(1, n), n);
        }
        for (int n : new int[] {41, 42, -1, 999, 1000, MIN, MAX}) {
            Office.due("later " + n, x.later(0, n), -1);
            Office.due("left " + n, x.left(3, n), -1);
        }
        Office.due("nothing is done", x.has(3) + x.has(7) + x.has(9), 0);
    }

    /** "not beyond DAY 999)". */
    private static void notBeyondDay999() {
        for (int day : new int[] {958, 959, 960, 979, 997, 998, 999}) {
            UnlikeLoaves x = thirds(day, 20);
            int most = Math.min(40, 999 - day);
            Office.due("later to the last", x.later(0, most), Math.max(0, most - 20));
            Office.due("left to the last", x.left(1, most), most);
            Office.due("later beyond", x.later(0, most + 1), -1);
            Office.due("left beyond", x.left(1, most + 1), -1);
            Office.due("later 0", x.later(0, 0), 0);
            Office.due("left 0", x.left(3, 0), 20);
        }
    }

    /** "AHEAD are DAYS .. without DRAWS". */
    private static void withoutDraws() {
        UnlikeLoaves x = Office.of("finest 2;" + LOAF + "have 9 by 1;have 9 by 2;mice 100;");
        UnlikeLoaves y = Office.of("finest 2;" + LOAF + "have 9 by 1;have 9 by 2;mice 100;");
        Office.due("halves stay", x.left(2, 40), 9);
        Office.due("loaves for nine days", x.left(1, 8), 1);
        Office.due("hunger from the tenth on", x.later(0, 10), 1);
        Office.due("nothing to see", x.served(0), 0);
        Office.due("the seed stays", x.chance(7), y.chance(7));
        Office.due("the seed stays", x.stock(1), y.stock(1));
    }

    /** "NONE when there is none such, or n can't be." */
    private static void laterNoneSuch() {
        UnlikeLoaves x = Office.of("finest 2;" + LOAF + "person b due 1 of 2;");
        Office.due("the last person", x.later(1, 40), 40);
        for (int person : new int[] {2, -1, 5, 6, MIN, MAX}) {
            Office.due("person " + person, x.later(person, 0), -1);
            Office.due("person " + person, x.later(person, 41), -1);
        }
        UnlikeLoaves six = Office.of("finest 2;person a due 1 of 1;person b due 1 of 1;person c due 1 of 1;person d due 1 of 1;"
            + "person e due 1 of 1;person f due 1 of 1;");
        Office.due("the sixth", six.later(5, 3), 3);
        Office.due("a seventh", six.later(6, 3), -1);
    }

    /** "In the how manieth DAY AHEAD (0 the next one, 39 at most) a PERSON is SERVED first". */
    private static void servedAtTheMost() {
        for (int day = 0; day <= 42; day++) {
            UnlikeLoaves x = Office.of("finest 2;" + LOAF + "have 1 by 1;likes day=" + day + ";");
            Office.due("likes day " + day, x.served(0), day <= 39 ? day : -1);
        }
        for (int now = 955; now <= 999; now++) {
            UnlikeLoaves x = Office.at("finest 2;" + LOAF + "likes day=998;", Office.image(now, new int[] {1, 0}, 0, 0));
            Office.due("at day " + now, x.served(0), now >= 959 && now <= 998 ? 998 - now : -1);
        }
        UnlikeLoaves x = Office.at("finest 2;" + LOAF, Office.image(999, new int[] {9, 0}, 0, 0));
        Office.due("no day comes", x.served(0), -1);
    }

    /** "NONE when he is not, or there is none such." */
    private static void servedNoneSuch() {
        UnlikeLoaves x = Office.of("finest 2;" + LOAF + "person b due 1 of 3;have 1 by 1;");
        Office.due("he is", x.served(0), 0);
        Office.due("he is not", x.served(1), -1);
        for (int person : new int[] {2, -1, 6, MIN, MAX}) {
            Office.due("person " + person, x.served(person), -1);
        }
    }

    /** "How many pieces of a SIZE are in stock behind n DAYS AHEAD ..; NONE when there is none such". */
    private static void leftNoneSuch() {
        UnlikeLoaves x = Office.of("finest 24;have 2 by 1;have 3 by 24;");
        Office.due("loaves", x.left(1, 40), 2);
        Office.due("the finest", x.left(24, 40), 3);
        for (int size : new int[] {0, 25, -1, MIN, MAX}) {
            Office.due("size " + size, x.left(size, 0), -1);
        }
        Office.open(x, "finest 9;have 3 by 9;");
        Office.due("the finest", x.left(9, 0), 3);
        Office.due("beyond", x.left(10, 0), -1);
    }

    /** "CUTS are the fewest loaves (0 .. 3 ..)". */
    private static void cutsOfThree() {
        // As many unlike sizes as are due, each of them to be cut.
        String[] dues = {"1 of 2", "3 of 4", "7 of 8", "15 of 16"};
        for (int n = 0; n < dues.length; n++) {
            UnlikeLoaves x = Office.of("finest 16;person a due " + dues[n] + ";have 9 by 1;likes size=2 or size=4 or size=8 or size=16;");
            Office.due("cuts for " + dues[n], x.cuts(-1), n < 3 ? n + 1 : -1);
            Office.due("the first size", x.cuts(0), n < 3 ? 2 : -1);
            Office.due("the third size", x.cuts(2), n == 2 ? 8 : -1);
        }
        UnlikeLoaves x = Office.of("finest 16;" + LOAF + "have 9 by 1;");
        Office.due("no cut", x.cuts(-1), 0);
        Office.due("no size", x.cuts(0), -1);
    }

    /** "of those in stock now". */
    private static void cutsOfThoseInStock() {
        for (int loaves = 1; loaves <= 4; loaves++) {
            UnlikeLoaves x = Office.of("finest 8;person a due 7 of 8;have " + loaves + " by 1;bakes 9;likes size=2 or size=4 or size=8;");
            Office.due("three of " + loaves, x.cuts(-1), loaves >= 3 ? 3 : -1);
        }
        UnlikeLoaves x = Office.of("finest 8;person a due 1 of 2;bakes 9;likes size=2;");
        Office.due("one of none", x.cuts(-1), -1);
        x.bake(1);
        Office.due("one of one", x.cuts(-1), 1);
        Office.open(x, "finest 8;person a due 1 of 1;");
        Office.due("none of none", x.cuts(-1), -1);
    }

    /** "(2 and on ..": up to finest. */
    private static void cutsFromSizeTwo() {
        for (int n = 2; n <= 24; n++) {
            UnlikeLoaves x = Office.of("finest 24;person a due 1 of " + n + ";have 1 by 1;likes size=" + n + ";");
            Office.due("one cut into " + n, x.cuts(-1), 1);
            Office.due("into " + n, x.cuts(0), n);
        }
        UnlikeLoaves none = Office.of("finest 24;person a due 1 of 24;have 9 by 1;likes size<24;");
        Office.due("no row of three up to 24", none.cuts(-1), -1);
        Office.due("no size", none.cuts(0), -1);
        // A loaf cut into one piece would still be there.
        UnlikeLoaves x = Office.of("finest 24;" + LOAF + "have 2 by 1;likes stock<2;");
        Office.due("one less", x.cuts(-1), 1);
        Office.due("into halves", x.cuts(0), 2);
    }

    /** "two into the same one, too". */
    private static void cutsIntoTheSame() {
        String three = "finest 8;person a due 1 of 2;person b due 1 of 2;person c due 1 of 2;have 9 by 1;likes size=2;";
        UnlikeLoaves x = Office.of(three);
        Office.due("two", x.cuts(-1), 2);
        Office.due("the first", x.cuts(0), 2);
        Office.due("the second", x.cuts(1), 2);
        Office.open(x, three + "person d due 1 of 2;person e due 1 of 2;");
        Office.due("three", x.cuts(-1), 3);
        Office.due("the third", x.cuts(2), 2);
        Office.open(x, three + "person d due 1 of 2;person e due 1 of 2;person f due 1 of 2;");
        Office.due("three for six", x.cuts(-1), 3);
        Office.due("none for more", x.cuts(3), -1);
    }

    /** "pieces above 999 are lost, also where the ACT would be refused". */
    private static void cutsLoseAbove999() {
        int[] halves = {996, 997, 998, 999};
        int[] then = {998, 999, 999, 999};
        for (int i = 0; i < halves.length; i++) {
            UnlikeLoaves x = Office.at("finest 2;person a due 3 of 2;likes size=1 and stock=4 or size=2 and stock=" + then[i] + ";",
                Office.image(0, new int[] {5, halves[i]}, 0, 0));
            Office.due("one cut at " + halves[i], x.cuts(-1), 1);
            Office.due("its act at " + halves[i], x.cut(2), halves[i] <= 997 ? halves[i] + 2 : -1);
        }
        UnlikeLoaves x = Office.at("finest 2;person a due 3 of 2;likes size=1 and stock=3 or size=2 and stock>998;",
            Office.image(0, new int[] {5, 996}, 0, 0));
        Office.due("two cuts, one piece lost", x.cuts(-1), 2);
        UnlikeLoaves y = Office.at("finest 2;person a due 3 of 2;likes size=1 or stock>999;", Office.image(0, new int[] {5, 999}, 0, 0));
        Office.due("never more than 999", y.cuts(-1), -1);
    }

    /** "of like ones the first row of SIZES, none less than the one ahead of it". */
    private static void cutsOfLikeOnes() {
        UnlikeLoaves x = Office.of("finest 6;person a due 1 of 2;have 1 by 1;have 1 by 3;");
        Office.due("into halves or sixths", x.cuts(0), 2);
        Office.open(x, "finest 6;person a due 1 of 2;have 1 by 1;have 1 by 3;likes size>2;");
        Office.due("into sixths", x.cuts(0), 6);
        Office.open(x, "finest 6;person a due 1 of 3;person b due 1 of 2;have 5 by 1;");
        Office.due("two", x.cuts(-1), 2);
        Office.due("rising, the first", x.cuts(0), 2);
        Office.due("rising, the second", x.cuts(1), 3);
        // One for 1/5 is needed, one loaf must be gone: the first row that does it.
        Office.open(x, "finest 5;person a due 1 of 5;person b due 1 of 1;have 3 by 1;likes size>1 or stock<2;");
        Office.due("two to be cut", x.cuts(-1), 2);
        Office.due("the other into the least size", x.cuts(0), 2);
        Office.due("and fifths", x.cuts(1), 5);
    }

    /** "let all PEOPLE be SERVED in the next DAY". */
    private static void cutsLetAllBeServed() {
        UnlikeLoaves x = Office.of("finest 4;person a due 1 of 2;person b due 1 of 5;have 9 by 1;");
        Office.due("b never", x.cuts(-1), -1);
        Office.open(x, "finest 4;have 9 by 1;");
        Office.due("without people", x.cuts(-1), 0);
        Office.open(x, "finest 4;" + LOAF + "bakes 1;");
        Office.due("baked in the next day", x.cuts(-1), 0);
        Office.open(x, "finest 4;" + LOAF + "bakes 1;mice 100;have 1 by 2;");
        Office.due("without draws", x.cuts(-1), 0);
        Office.open(x, "finest 4;person a due 1 of 2;have 1 by 1;likes day=0 and hunger=0;");
        Office.due("day 0", x.cuts(-1), 1);
        x.days(1);
        Office.due("day 1", x.cuts(-1), -1);
    }

    /** "how many loaves (k NONE), the SIZE of the k-th. NONE without any, when there is none such". */
    private static void cutsTheKth() {
        UnlikeLoaves x = Office.of("finest 8;person a due 7 of 8;have 9 by 1;likes size=2 or size=4 or size=8;");
        int[] want = {3, 2, 4, 8, -1, -1};
        for (int k = -1; k < 5; k++) {
            Office.due("cuts(" + k + ")", x.cuts(k), want[k + 1]);
        }
        for (int k : new int[] {-2, 9, MIN, MAX}) {
            Office.due("cuts(" + k + ")", x.cuts(k), -1);
        }
        Office.due("nothing is cut", x.stock(1), 9);
        Office.open(x, "finest 8;person a due 1 of 9;have 9 by 1;");
        for (int k = -2; k < 4; k++) {
            Office.due("without any, " + k, x.cuts(k), -1);
        }
    }

    /** "at DAY 999, or without an office". */
    private static void cutsAtDay999() {
        for (int day = 997; day <= 999; day++) {
            UnlikeLoaves x = Office.at("finest 2;person a due 1 of 2;", Office.image(day, new int[] {1, 0}, 0, 0));
            Office.due("loaves at day " + day, x.cuts(-1), day < 999 ? 1 : -1);
            Office.due("size at day " + day, x.cuts(0), day < 999 ? 2 : -1);
        }
        UnlikeLoaves none = new UnlikeLoaves();
        for (int k = -2; k < 4; k++) {
            Office.due("without an office", none.cuts(k), -1);
        }
    }

    /** "each the one of number 0 .. 7 of those of his due". */
    private static void feastOfEight() {
        UnlikeLoaves x = Office.of("finest 24;most 6;person a due 5 of 7;");
        int count = x.writings(5, 7);
        Office.due("more than eight", count > 9, true);
        for (int k = 0; k < count; k++) {
            int[] stock = new int[24];
            for (int n = 1; n <= 24; n++) {
                stock[n - 1] = x.writing(5, 7, k) >> (n - 1) & 1;
            }
            Office.due("writing " + k, Office.on(x, Office.image(0, stock, 0, 0)), true);
            Office.due("feast by " + k, x.feast(-1), k <= 7 ? 1 : 0);
            Office.due("number " + k, x.feast(0), k <= 7 ? k : -1);
        }
    }

    /** "for all of which together there are pieces enough in stock now". */
    private static void feastOfPiecesEnough() {
        String six = "finest 3;person a due 1 of 3;person b due 1 of 3;person c due 1 of 3;person d due 1 of 3;person e due 1 of 3;"
            + "person f due 1 of 3;";
        for (int pieces = 0; pieces <= 8; pieces++) {
            UnlikeLoaves x = Office.at(six, Office.image(0, new int[] {0, 0, pieces}, new int[12]));
            Office.due("of " + pieces, x.feast(-1), Math.min(6, pieces));
            for (int p = 0; p < 6; p++) {
                Office.due(p + " of " + pieces, x.feast(p), p >= 6 - pieces ? 0 : -1);
            }
            Office.due("nothing is gone", x.stock(3), pieces);
        }
        UnlikeLoaves x = Office.of("finest 3;" + LOAF + "bakes 9;");
        Office.due("baked ones are not there now", x.feast(-1), 0);
        UnlikeLoaves y = Office.at("finest 3;" + LOAF + "likes 1=2;", Office.image(999, new int[] {1, 0, 0}, 0, 0));
        Office.due("at day 999, whatever he likes", y.feast(-1), 1);
    }

    /** "so that most have one". */
    private static void feastOfMost() {
        UnlikeLoaves x = Office.of("finest 6;person a due 5 of 6;person b due 1 of 2;person c due 1 of 3;have 1 by 2;have 1 by 3;");
        Office.due("two without a", x.feast(-1), 2);
        Office.due("a", x.feast(0), -1);
        Office.due("b", x.feast(1), 0);
        Office.due("c", x.feast(2), 0);
        Office.open(x, "finest 6;person b due 1 of 2;person a due 5 of 6;have 2 by 2;have 1 by 3;have 1 by 6;");
        Office.due("both", x.feast(-1), 2);
        Office.due("b by the half", x.feast(0), 0);
        Office.due("a", x.feast(1), 0);
    }

    /** "of like ones the first row (PERSON by PERSON none, then WRITINGS by numbers)". */
    private static void feastOfLikeOnes() {
        UnlikeLoaves x = Office.of("finest 6;person a due 1 of 2;person b due 1 of 2;have 1 by 2;");
        Office.due("none ahead of one", x.feast(0), -1);
        Office.due("so b has it", x.feast(1), 0);
        Office.open(x, "finest 6;person a due 1 of 2;person b due 1 of 2;have 1 by 2;have 1 by 3;have 1 by 6;");
        Office.due("the first number ahead", x.feast(0), 0);
        Office.due("the second for b", x.feast(1), 1);
        Office.open(x, "finest 6;person a due 1 of 2;person b due 1 of 2;person c due 1 of 2;have 1 by 2;have 1 by 3;have 1 by 6;");
        Office.due("two of three", x.feast(-1), 2);
        Office.due("a none", x.feast(0), -1);
        Office.due("b the half", x.feast(1), 0);
        Office.due("c the third and sixth", x.feast(2), 1);
    }

    /** "how many PEOPLE have a WRITING (person NONE), the number of the one of a PERSON (NONE none). NONE when there is none such." */
    private static void feastNoneSuch() {
        UnlikeLoaves x = Office.of("finest 6;" + LOAF + "person b due 1 of 2;have 9 by 1;have 9 by 2;");
        Office.due("all", x.feast(-1), 2);
        Office.due("the last person", x.feast(1), 0);
        for (int person : new int[] {2, -2, 6, MIN, MAX}) {
            Office.due("person " + person, x.feast(person), -1);
        }
        Office.open(x, "finest 6;have 9 by 1;");
        Office.due("without people", x.feast(-1), 0);
        Office.due("nobody", x.feast(0), -1);
        Office.due("without an office", new UnlikeLoaves().feast(-1), 0);
        Office.due("nobody without an office", new UnlikeLoaves().feast(0), -1);
    }

    /** "by how many of all rows of a number below 100, a SIZE"; "all rows for the PERSON NONE". */
    private static void oddsOfAllRows() {
        for (int finest = 2; finest <= 24; finest++) {
            UnlikeLoaves x = Office.of("finest " + finest + ";person a due 1 of " + finest + ";have 1 by " + finest + ";mice 7;"
                + "likes size=" + finest + ";");
            Office.due("all rows", x.odds(-1), 100 * finest);
            Office.due("but for seven", x.odds(0), 100 * finest - 7);
        }
        Office.due("without people", Office.of("finest 5;").odds(-1), 500);
    }

    /** "he is SERVED in the next DAY by the seed": each number below mice is a mouse. */
    private static void oddsByMice() {
        for (int mice : new int[] {0, 1, 50, 99, 100}) {
            UnlikeLoaves x = Office.of("finest 4;" + LOAF + "person b due 1 of 1;have 2 by 1;mice " + mice + ";");
            Office.due("a of " + mice, x.odds(0), 400);
            Office.due("b of " + mice, x.odds(1), 400 - mice);
            Office.open(x, "finest 4;" + LOAF + "have 1 by 1;have 1 by 2;likes stock=0;mice " + mice + ";");
            Office.due("never", x.odds(0), 0);
            Office.open(x, "finest 4;person a due 1 of 2;have 2 by 2;likes stock=1;mice " + mice + ";");
            Office.due("only by a mouse", x.odds(0), mice);
            Office.open(x, "finest 4;" + LOAF + "bakes 1;mice " + mice + ";");
            Office.due("mice come ahead of loaves", x.odds(0), 400);
            Office.due("nothing is done", x.has(3) + x.has(4), 0);
        }
    }

    /** "NONE when there is none such, without an office, or at DAY 999." */
    private static void oddsNoneSuch() {
        UnlikeLoaves x = Office.of("finest 4;" + LOAF + "person b due 1 of 1;have 9 by 1;");
        Office.due("the last person", x.odds(1), 400);
        for (int person : new int[] {2, -2, 6, MIN, MAX}) {
            Office.due("person " + person, x.odds(person), -1);
        }
        for (int day = 997; day <= 999; day++) {
            Office.due("on", Office.on(x, Office.image(day, new int[] {9, 0, 0, 0}, 0, 0, 0, 0)), true);
            Office.due("all rows at " + day, x.odds(-1), day < 999 ? 400 : -1);
            Office.due("a at " + day, x.odds(0), day < 999 ? 400 : -1);
        }
        UnlikeLoaves none = new UnlikeLoaves();
        Office.due("without an office", none.odds(-1), -1);
        Office.due("without an office", none.odds(0), -1);
    }
}
