/** Promises 11 to 19. */
public final class WritingsTest {
    public static void main(String[] args) {
        all();
        byRules();
        costs();
        sums();
        anew();
        mend();
        fills();
        Office.end();
    }

    private static void row(UnlikeLoaves x, int a, int b, int... sets) {
        Office.due("writings(" + a + ", " + b + ")", x.writings(a, b), sets.length);
        for (int k = 0; k < sets.length; k++) {
            Office.due("writing(" + a + ", " + b + ", " + k + ")", x.writing(a, b, k), sets[k]);
        }
        Office.due("writing behind the last", x.writing(a, b, sets.length), -1);
        Office.due("writing(-1)", x.writing(a, b, -1), -1);
    }

    private static void all() {
        UnlikeLoaves x = Office.of("finest 12;");
        row(x, 1, 1, Office.set(1), Office.set(2, 3, 6), Office.set(2, 4, 6, 12));
        row(x, 1, 2, Office.set(2), Office.set(3, 6), Office.set(4, 6, 12));
        row(x, 49, 98, Office.set(2), Office.set(3, 6), Office.set(4, 6, 12));
        row(x, 1, 11, Office.set(11));
        row(x, 1, 13);
        row(x, 99, 1);
        row(x, 1, 99);
        row(x, 99, 99, Office.set(1), Office.set(2, 3, 6), Office.set(2, 4, 6, 12));
        int[][] none = {{0, 1}, {1, 0}, {100, 1}, {1, 100}, {-1, 1}, {1, -1}};
        for (int[] share : none) {
            Office.due("writings " + share[0] + " " + share[1], x.writings(share[0], share[1]), -1);
            Office.due("writing", x.writing(share[0], share[1], 0), -1);
            Office.due("greedy", x.greedy(share[0], share[1]), -1);
            Office.due("shortest", x.shortest(share[0], share[1]), -1);
            Office.due("cheapest", x.cheapest(share[0], share[1], 0), Office.NOTHING);
            Office.due("mend", x.mend(share[0], share[1], 1, 0), -1);
            Office.due("fills", x.fills(share[0], share[1], 0, -1), -1);
        }
        Office.open(x, "finest 12;most 3;");
        row(x, 1, 29);
        row(x, 1, 1, Office.set(1), Office.set(2, 3, 6));
        Office.open(x, "finest 24;most 6;");
        // No share has more writings than this one.
        Office.due("writings(5, 7)", x.writings(5, 7), 30);
    }

    private static void byRules() {
        UnlikeLoaves x = Office.of("finest 24;most 3;");
        Office.due("greedy(4, 5)", x.greedy(4, 5), Office.set(2, 4, 20));
        Office.due("greedy(5, 6)", x.greedy(5, 6), Office.set(2, 3));
        // 1/2 + 1/5 leaves 1/30, that no size up to 24 can give.
        Office.due("greedy(11, 15)", x.greedy(11, 15), -1);
        Office.due("shortest(11, 15)", x.shortest(11, 15), Office.set(2, 6, 15));
        Office.due("greedy(1, 24)", x.greedy(1, 24), Office.set(24));
        Office.due("greedy(1, 23)", x.greedy(1, 23), Office.set(23));
        // 1 + 1/2 + 1/3 leaves 1/6 when three are taken.
        Office.due("greedy(2, 1)", x.greedy(2, 1), -1);
        Office.open(x, "finest 24;most 4;");
        Office.due("greedy(2, 1) of four", x.greedy(2, 1), Office.set(1, 2, 3, 6));
        Office.due("greedy(25, 12) of four", x.greedy(25, 12), Office.set(1, 2, 3, 4));
        Office.due("shortest(2, 3)", x.shortest(2, 3), Office.set(2, 6));
        Office.due("writing(5, 8, 0)", x.writing(5, 8, 0), Office.set(2, 8));
        shortestIsNotTheFirst(x);
    }

    private static void shortestIsNotTheFirst(UnlikeLoaves x) {
        boolean unlike = false;
        for (int a = 1; a <= 24; a++) {
            for (int b = 1; b <= 24; b++) {
                int count = x.writings(a, b);
                int best = -1;
                for (int k = 0; k < count; k++) {
                    int set = x.writing(a, b, k);
                    if (best == -1 || Integer.bitCount(set) < Integer.bitCount(best)) {
                        best = set;
                        unlike |= k > 0;
                    }
                }
                Office.due("shortest(" + a + ", " + b + ")", x.shortest(a, b), best);
            }
        }
        Office.due("a shortest that is not the first", unlike, true);
    }

    private static void costs() {
        UnlikeLoaves x = Office.of("finest 12;");
        Office.due("cheapest by size", x.cheapest(1, 2, 0), Office.set(2));
        Office.due("its price", x.cheapest(1, 2, 1), 2);
        Office.due("a loaf's price", x.cheapest(1, 1, 1), 1);
        Office.due("price of a finest", x.cheapest(1, 12, 1), 12);
        Office.due("another what", x.cheapest(1, 2, 2), Office.NOTHING);
        Office.due("another what", x.cheapest(1, 2, -1), Office.NOTHING);
        Office.due("without one", x.cheapest(1, 13, 1), Office.NOTHING);
        // 1/2: -2; 1/3 + 1/6: -9; 1/4 + 1/6 + 1/12: -22.
        Office.open(x, "finest 12;costs 0-size;");
        Office.due("cheapest of the dearest", x.cheapest(1, 2, 0), Office.set(4, 6, 12));
        Office.due("a price below 0", x.cheapest(1, 2, 1), -22);
        // Like prices: the first.
        Office.open(x, "finest 12;costs 0;");
        Office.due("the first of like ones", x.cheapest(1, 2, 0), Office.set(2));
        Office.due("nothing to pay", x.cheapest(1, 2, 1), 0);
        // Places count from 0 by rising sizes; each sum is held, all together is not.
        Office.open(x, "finest 12;costs 0-9999*9999-place;");
        Office.due("held one by one", x.cheapest(1, 2, 1), -3000000);
        Office.open(x, "finest 12;costs 100-place*100;");
        Office.due("places", x.cheapest(1, 2, 0), Office.set(4, 6, 12));
        Office.due("places' price", x.cheapest(1, 2, 1), 0);
        Office.open(x, "finest 12;have 50 by 2;costs stock+day*10+size;bakes 1;");
        Office.due("by the stock", x.cheapest(1, 2, 0), Office.set(3, 6));
        Office.due("by the stock, its price", x.cheapest(1, 2, 1), 9);
        x.days(3);
        Office.due("by the day", x.cheapest(1, 2, 0), Office.set(3, 6));
        Office.due("by the day, its price", x.cheapest(1, 2, 1), 69);
        x.days(2);
        Office.due("by the fifth day, its price", x.cheapest(1, 2, 1), 102);
        Office.due("by the fifth day", x.cheapest(1, 2, 0), Office.set(2));
    }

    private static void sums() {
        UnlikeLoaves x = Office.of("finest 24;");
        Office.due("makes above", x.makes(Office.set(2, 3, 7), 0), 41);
        Office.due("makes below", x.makes(Office.set(2, 3, 7), 1), 42);
        Office.due("lowest terms above", x.makes(Office.set(2, 3, 6), 0), 1);
        Office.due("lowest terms below", x.makes(Office.set(2, 3, 6), 1), 1);
        // The 24th sum of all parts.
        Office.due("all above", x.makes((1 << 24) - 1, 0), 1347822955L);
        Office.due("all below", x.makes((1 << 24) - 1, 1), 356948592L);
        Office.due("a loaf", x.makes(1, 0), 1);
        // Sizes of which no two have a common divisor, and their product all that there is.
        int[] apart = {5, 7, 9, 11, 13, 16, 17, 19, 23};
        long above = 0;
        for (int n : apart) {
            above += 5354228880L / n;
        }
        Office.due("nothing to shorten above", x.makes(Office.set(apart), 0), above);
        Office.due("nothing to shorten below", x.makes(Office.set(apart), 1), 5354228880L);
        Office.due("none", x.makes(0, 0), Office.NOTHING);
        Office.due("size 25", x.makes(1 << 24, 0), Office.NOTHING);
        Office.due("below 0", x.makes(-1, 0), Office.NOTHING);
        Office.due("another what", x.makes(1, 2), Office.NOTHING);
        Office.due("another what", x.makes(1, -1), Office.NOTHING);
    }

    private static void anew() {
        UnlikeLoaves x = Office.of("finest 24;most 3;");
        Office.due("twice 1/7", x.anew(Office.set(7), 0, 0), Office.set(6, 14, 21));
        Office.due("twice 1/2", x.anew(Office.set(2), -5, 0), Office.set(1));
        Office.due("twice 1/5", x.anew(Office.set(5), 0, 0), Office.set(3, 15));
        Office.due("1/3 and 1/3", x.anew(Office.set(3), Office.set(3), 1), Office.set(2, 6));
        Office.due("1/3 and 1/6", x.anew(Office.set(3), Office.set(6), 1), Office.set(2));
        Office.due("1/2 less 1/3", x.anew(Office.set(2), Office.set(3), 2), Office.set(6));
        Office.due("1/3 less 1/2", x.anew(Office.set(3), Office.set(2), 2), -1);
        Office.due("1/3 less 1/3", x.anew(Office.set(3), Office.set(3), 2), -1);
        Office.due("too much", x.anew((1 << 24) - 1, (1 << 24) - 1, 1), -1);
        Office.due("no set", x.anew(0, 1, 0), -1);
        Office.due("no set", x.anew(1 << 24, 1, 1), -1);
        Office.due("no other", x.anew(1, 0, 1), -1);
        Office.due("no other", x.anew(1, 1 << 24, 2), -1);
        Office.due("another how", x.anew(2, 4, 3), -1);
        Office.due("another how", x.anew(2, 4, Integer.MIN_VALUE), -1);
        Office.due("another how", x.anew(2, 2, -1), -1);
    }

    private static void mend() {
        UnlikeLoaves x = Office.of("finest 12;most 3;");
        // 1/2 of {3, 4}: 1/4 for 1/6; of {2}: it is one; of {3}: 1/3 for 1/2.
        Office.due("ways", x.mend(1, 2, Office.set(3, 4), 0), 1);
        Office.due("goes", x.mend(1, 2, Office.set(3, 4), 1), 4);
        Office.due("comes", x.mend(1, 2, Office.set(3, 4), 2), 6);
        Office.due("one for the writing", x.mend(1, 2, Office.set(3), 2), 2);
        Office.due("already", x.mend(1, 2, Office.set(2), 0), -1);
        Office.due("already", x.mend(1, 2, Office.set(3, 6), 1), -1);
        // 7/12 of {4, 6}: 1/4 for 5/12 none, 1/6 for 1/3; of {3, 2}: 1/3 for 1/12, 1/2 for 1/4.
        Office.due("two ways", x.mend(7, 12, Office.set(2, 3), 0), 2);
        Office.due("the first goes", x.mend(7, 12, Office.set(2, 3), 1), 2);
        Office.due("the first comes", x.mend(7, 12, Office.set(2, 3), 2), 4);
        Office.due("no way", x.mend(1, 2, Office.set(1, 2), 0), 0);
        Office.due("no way goes", x.mend(1, 2, Office.set(1, 2), 1), -1);
        Office.due("no way comes", x.mend(1, 2, Office.set(1, 2), 2), -1);
        Office.due("another what", x.mend(1, 2, Office.set(3), 3), -1);
        Office.due("another what", x.mend(1, 2, Office.set(3), -1), -1);
        Office.due("no set", x.mend(1, 2, 0, 0), -1);
        Office.due("no such size", x.mend(1, 2, 1 << 12, 0), -1);
        // 1 = 1/2 + 1/4 + 1/6 + 1/12 has four parts: with three at the most {3, 4, 6, 12} can't be mended.
        Office.due("a loaf goes", x.mend(1, 12, Office.set(1), 1), 1);
        Office.due("the finest comes", x.mend(1, 12, Office.set(1), 2), 12);
        Office.due("the finest goes", x.mend(1, 1, Office.set(12), 1), 12);
        Office.due("a loaf comes", x.mend(1, 1, Office.set(12), 2), 1);
        Office.due("too many parts", x.mend(1, 1, Office.set(3, 4, 6, 12), 0), 0);
        Office.due("too many to be one", x.mend(1, 1, Office.set(2, 4, 6, 12), 0), 0);
        Office.open(x, "finest 12;most 4;");
        Office.due("four parts", x.mend(1, 1, Office.set(3, 4, 6, 12), 0), 1);
        Office.due("four parts are one", x.mend(1, 1, Office.set(2, 4, 6, 12), 0), -1);
    }

    private static void fills() {
        UnlikeLoaves x = Office.of("finest 12;");
        Office.due("all", x.fills(1, 1, 0, -1), 3);
        Office.due("all, the last", x.fills(1, 1, 0, 2), Office.set(2, 4, 6, 12));
        Office.due("with 2 and 6", x.fills(1, 1, Office.set(2, 6), -1), 2);
        Office.due("with 2 and 6, the first", x.fills(1, 1, Office.set(2, 6), 0), Office.set(2, 3, 6));
        Office.due("with 2 and 6, the second", x.fills(1, 1, Office.set(2, 6), 1), Office.set(2, 4, 6, 12));
        Office.due("with 2 and 6, a third", x.fills(1, 1, Office.set(2, 6), 2), -1);
        Office.due("with 5", x.fills(1, 1, Office.set(5), -1), 0);
        Office.due("with 5, the first", x.fills(1, 1, Office.set(5), 0), -1);
        Office.due("a size that is not", x.fills(1, 1, 1 << 12, -1), -1);
        Office.due("a set below 0", x.fills(1, 1, -1, -1), -1);
        Office.due("k -2", x.fills(1, 1, 0, -2), -1);
    }
}
