/** Part III of the document up to MEND, promises 11 to 19: each limit, at its last value and at the first beyond it. */
public final class WritingEdgesTest {
    private static final int MIN = Integer.MIN_VALUE;
    private static final int MAX = Integer.MAX_VALUE;

    public static void main(String[] args) {
        shares();
        noSuchShares();
        withoutAnOffice();
        theKth();
        greedyUntilNothingIsLeft();
        greedyWithoutSuchASize();
        greedyOfMost();
        shortestOfLikeOnes();
        shortestWithoutOne();
        cheapestOfLikeOnes();
        cheapestIsNotCut();
        cheapestNow();
        cheapestForOthers();
        makesLowestTerms();
        makesNoneSuch();
        anewTwice();
        anewTogether();
        anewLess();
        anewNoneSuch();
        mendsInWays();
        mendsTheFirst();
        mendsNoneSuch();
        mendsNoWriting();
        mendsByMost();
        fillsOfNoSize();
        fillsTheKth();
        fillsNoneSuch();
        Office.end();
    }

    private static int set(int... sizes) {
        return Office.set(sizes);
    }

    /** "a share (1 .. 99 of 1 .. 99)". */
    private static void shares() {
        UnlikeLoaves x = Office.of("finest 24;");
        int[][] good = {{1, 1}, {99, 99}, {1, 99}, {99, 1}};
        int[] first = {1, 1, -1, -1};
        for (int i = 0; i < good.length; i++) {
            int a = good[i][0];
            int b = good[i][1];
            Office.due("a writing", x.writing(a, b, 0), first[i]);
            Office.due("can be", x.writings(a, b) >= 0, true);
            Office.due("fills", x.fills(a, b, 0, -1), x.writings(a, b));
            Office.due("shortest", x.shortest(a, b), first[i]);
            Office.due("greedy", x.greedy(a, b), first[i]);
            Office.due("cheapest", x.cheapest(a, b, 0), first[i] > 0 ? first[i] : Office.NOTHING);
            Office.due("mend", x.mend(a, b, 2, 0), first[i] > 0 ? 1 : 0);
        }
        Office.due("none of 1/99", x.writings(1, 99), 0);
        Office.due("none of 99", x.writings(99, 1), 0);
        Office.due("1/24 of 4/96", x.writing(4, 96, 0), set(24));
    }

    /** "NONE when it can't be". */
    private static void noSuchShares() {
        UnlikeLoaves x = Office.of("finest 24;");
        for (int n : new int[] {0, 100, -1, 101, MIN, MAX}) {
            noShare(x, n, 1);
            noShare(x, 1, n);
            noShare(x, 99, n);
            noShare(x, n, 99);
            noShare(x, n, n);
        }
    }

    private static void noShare(UnlikeLoaves x, int a, int b) {
        Office.due("writings " + a + " " + b, x.writings(a, b), -1);
        Office.due("writing " + a + " " + b, x.writing(a, b, 0), -1);
        Office.due("greedy " + a + " " + b, x.greedy(a, b), -1);
        Office.due("shortest " + a + " " + b, x.shortest(a, b), -1);
        Office.due("cheapest " + a + " " + b, x.cheapest(a, b, 0), Office.NOTHING);
        Office.due("its price " + a + " " + b, x.cheapest(a, b, 1), Office.NOTHING);
        for (int what = 0; what <= 2; what++) {
            Office.due("mend " + a + " " + b, x.mend(a, b, 2, what), -1);
        }
        Office.due("fills " + a + " " + b, x.fills(a, b, 0, -1), -1);
        Office.due("fills " + a + " " + b, x.fills(a, b, 1, 0), -1);
    }

    /** "or without an office". */
    private static void withoutAnOffice() {
        UnlikeLoaves x = new UnlikeLoaves();
        noShare(x, 1, 1);
        noShare(x, 1, 2);
        Office.open(x, "finest 1;");
        noShare(x, 1, 1);
        for (int set : new int[] {0, 1, 2, MAX}) {
            Office.due("makes", x.makes(set, 0), Office.NOTHING);
            for (int how = 0; how <= 2; how++) {
                Office.due("anew", x.anew(set, set, how), -1);
            }
        }
    }

    /** "The k-th WRITING of a share (from 0 on); NONE when there is none such." */
    private static void theKth() {
        UnlikeLoaves x = Office.of("finest 12;");
        int[] want = {set(2), set(3, 6), set(4, 6, 12)};
        for (int k = 0; k < 3; k++) {
            Office.due("writing " + k, x.writing(1, 2, k), want[k]);
        }
        for (int k : new int[] {3, -1, MIN, MAX, 32, 33}) {
            Office.due("writing " + k, x.writing(1, 2, k), -1);
            Office.due("writing " + k + " of none", x.writing(1, 13, k), -1);
        }
        Office.due("the first of none", x.writing(1, 13, 0), -1);
        Office.open(x, "finest 24;most 6;");
        Office.due("the last of most", x.writing(5, 7, 29) > 0, true);
        Office.due("behind the last of most", x.writing(5, 7, 30), -1);
    }

    /** "whose part is no more than what is left, until nothing is left". */
    private static void greedyUntilNothingIsLeft() {
        UnlikeLoaves x = Office.of("finest 24;");
        for (int n = 1; n <= 24; n++) {
            Office.due("just a part", x.greedy(1, n), set(n));
        }
        Office.due("a loaf and the finest", x.greedy(25, 24), set(1, 24));
        Office.due("less than the greatest part", x.greedy(23, 24), set(2, 3, 8));
        Office.due("the greatest is not the last", x.greedy(2, 3), set(2, 6));
    }

    /** "there is none, if something is left when no such SIZE is there". */
    private static void greedyWithoutSuchASize() {
        UnlikeLoaves x = Office.of("finest 24;");
        Office.due("1/24", x.greedy(1, 24), set(24));
        Office.due("1/25", x.greedy(1, 25), -1);
        Office.due("4/5 leaves 1/20", x.greedy(4, 5), set(2, 4, 20));
        Office.open(x, "finest 20;");
        Office.due("1/20 is there", x.greedy(4, 5), set(2, 4, 20));
        Office.open(x, "finest 19;");
        Office.due("1/20 is not there", x.greedy(4, 5), -1);
        Office.due("another way is no greedy one", x.shortest(4, 5), set(2, 5, 10));
        Office.open(x, "finest 2;most 6;");
        Office.due("all taken, nothing left", x.greedy(3, 2), set(1, 2));
        Office.due("all taken, something left", x.greedy(2, 1), -1);
    }

    /** "or most are taken". */
    private static void greedyOfMost() {
        // How many sizes from 1 on make which share; that of five is no share that can be told.
        int[][] rows = {{1, 1, 1}, {2, 3, 2}, {3, 11, 6}, {4, 25, 12}, {6, 49, 20}};
        for (int[] row : rows) {
            for (int most = 1; most <= 6; most++) {
                UnlikeLoaves x = Office.of("finest 6;most " + most + ";");
                int want = row[0] <= most ? (1 << row[0]) - 1 : -1;
                Office.due(row[0] + " of most " + most, x.greedy(row[1], row[2]), want);
            }
        }
    }

    /** "The SHORTEST is that of the fewest SIZES ..; of like ones the first." */
    private static void shortestOfLikeOnes() {
        UnlikeLoaves x = Office.of("finest 24;");
        Office.due("5/12", x.shortest(5, 12), set(3, 12));
        Office.due("so is its first", x.writing(5, 12, 0), set(3, 12));
        Office.due("3/10", x.shortest(3, 10), set(4, 20));
        Office.due("the first of 9/20", x.writing(9, 20, 0), set(3, 15, 20));
        Office.due("one of fewer behind it", x.shortest(9, 20), set(4, 5));
    }

    /** "The SHORTEST WRITING of a share; NONE without one." */
    private static void shortestWithoutOne() {
        UnlikeLoaves x = Office.of("finest 12;");
        Office.due("1/12", x.shortest(1, 12), set(12));
        Office.due("1/13", x.shortest(1, 13), -1);
        Office.due("1/24", x.shortest(1, 24), -1);
        Office.open(x, "finest 12;most 1;");
        Office.due("two sizes of most 1", x.shortest(5, 6), -1);
        Office.open(x, "finest 12;most 2;");
        Office.due("two sizes of most 2", x.shortest(5, 6), set(2, 3));
    }

    /** "the CHEAPEST that whose parts cost least together ..; of like ones the first." */
    private static void cheapestOfLikeOnes() {
        // 1/2: {2}, {3, 6}, {4, 6, 12}.
        UnlikeLoaves x = Office.of("finest 12;costs 0;");
        Office.due("all alike", x.cheapest(1, 2, 0), set(2));
        Office.open(x, "finest 12;costs max(0,3-size)*5;");
        Office.due("the second like the third", x.cheapest(1, 2, 0), set(3, 6));
        Office.due("for nothing", x.cheapest(1, 2, 1), 0);
        Office.open(x, "finest 12;costs max(0,4-size)*5-place/2;");
        Office.due("less by one", x.cheapest(1, 2, 0), set(4, 6, 12));
        Office.due("a price below 0", x.cheapest(1, 2, 1), -1);
        Office.open(x, "finest 12;costs size*0+1;");
        Office.due("one each", x.cheapest(1, 2, 0), set(2));
        Office.due("its price", x.cheapest(1, 2, 1), 1);
    }

    /** "(the SUM of costs of each, not cut)". */
    private static void cheapestIsNotCut() {
        UnlikeLoaves x = Office.of("finest 6;most 6;costs 1000*1000;");
        Office.due("six times the most", x.cheapest(49, 20, 1), 6000000);
        Office.open(x, "finest 6;most 6;costs 0-1000*1000;");
        Office.due("six times the least", x.cheapest(49, 20, 1), -6000000);
        Office.open(x, "finest 12;costs 0-1000*1000;");
        Office.due("three are cheaper than one", x.cheapest(1, 2, 0), set(4, 6, 12));
        Office.open(x, "finest 12;costs 1000*1000-max(0,size-4)*9999*9999;");
        Office.due("each is held", x.cheapest(1, 2, 1), 1000000);
    }

    /** "The CHEAPEST WRITING of a share now": by the stock and the DAY as they are. */
    private static void cheapestNow() {
        UnlikeLoaves x = Office.of("finest 2;have 7 by 1;costs stock*10+day;bakes 1;");
        Office.due("day 0", x.cheapest(1, 1, 1), 70);
        x.days(1);
        Office.due("day 1", x.cheapest(1, 1, 1), 81);
        x.cut(2);
        Office.due("a loaf less", x.cheapest(1, 1, 1), 71);
        Office.due("halves", x.cheapest(1, 2, 1), 21);
        x.undo();
        x.undo();
        Office.due("as it was", x.cheapest(1, 1, 1), 70);
        Office.due("day 999", Office.on(x, Office.image(999, new int[] {999, 0})), true);
        Office.due("the last day", x.cheapest(1, 1, 1), 10989);
    }

    /** "NOTHING without one, or for others." */
    private static void cheapestForOthers() {
        UnlikeLoaves x = Office.of("finest 12;");
        Office.due("what 0", x.cheapest(1, 12, 0), set(12));
        Office.due("what 1", x.cheapest(1, 12, 1), 12);
        for (int what : new int[] {-1, 2, MIN, MAX}) {
            Office.due("what " + what, x.cheapest(1, 12, what), Office.NOTHING);
        }
        for (int what = -1; what <= 2; what++) {
            Office.due("without one", x.cheapest(1, 13, what), Office.NOTHING);
        }
    }

    /** "What a SET MAKES, in lowest terms: the number above (what 0), below (1)." */
    private static void makesLowestTerms() {
        UnlikeLoaves x = Office.of("finest 24;most 1;");
        int[][] sets = {{1}, {24}, {1, 2}, {2, 3, 6}, {3, 6}, {4, 12}, {23, 24}, {1, 2, 3, 4, 5, 6, 7, 8}};
        long[][] want = {{1, 1}, {1, 24}, {3, 2}, {1, 1}, {1, 2}, {1, 3}, {47, 552}, {761, 280}};
        for (int i = 0; i < sets.length; i++) {
            Office.due("above", x.makes(set(sets[i]), 0), want[i][0]);
            Office.due("below", x.makes(set(sets[i]), 1), want[i][1]);
        }
        Office.due("all sizes, above", x.makes(0xffffff, 0), 1347822955L);
        Office.due("all sizes, below", x.makes(0xffffff, 1), 356948592L);
    }

    /** "NOTHING when there is none such (0, a SIZE that there is not), or for others." */
    private static void makesNoneSuch() {
        UnlikeLoaves x = Office.of("finest 9;");
        Office.due("all sizes", x.makes(511, 0), 7129);
        Office.due("the finest", x.makes(256, 1), 9);
        for (int set : new int[] {0, 512, 513, 1 << 23, 1 << 24, 1 << 30, -1, MIN, MAX, MIN + 1}) {
            Office.due("no set " + set, x.makes(set, 0), Office.NOTHING);
            Office.due("no set " + set, x.makes(set, 1), Office.NOTHING);
        }
        for (int what : new int[] {-1, 2, MIN, MAX}) {
            Office.due("what " + what, x.makes(1, what), Office.NOTHING);
        }
        Office.open(x, "finest 24;");
        Office.due("a size beyond 24", x.makes(1 << 24, 0), Office.NOTHING);
        Office.due("the finest of all", x.makes(1 << 23, 1), 24);
    }

    /** "The SHORTEST WRITING of what a SET MAKES twice (how 0) ..; the other one is not asked by 0." */
    private static void anewTwice() {
        UnlikeLoaves x = Office.of("finest 12;");
        for (int other : new int[] {0, 1, -1, 1 << 12, MIN, MAX}) {
            Office.due("twice a half", x.anew(2, other, 0), 1);
            Office.due("twice 1/12", x.anew(set(12), other, 0), set(6));
        }
        Office.due("twice 1/11", x.anew(set(11), 0, 0), -1);
        Office.due("twice a loaf", x.anew(1, 0, 0), set(1, 2, 3, 6));
        Office.due("twice two loaves", x.anew(set(1, 2, 3, 6), 0, 0), -1);
        Office.open(x, "finest 12;most 3;");
        Office.due("four are too many", x.anew(1, 0, 0), -1);
        Office.due("four make two loaves yet", x.anew(set(1, 2, 3, 6), 2, 2), set(1, 2));
    }

    /** "of what two MAKE together (1)". */
    private static void anewTogether() {
        UnlikeLoaves x = Office.of("finest 12;");
        Office.due("unlike ones", x.anew(set(3), set(6), 1), set(2));
        Office.due("the same one twice", x.anew(set(3), set(3), 1), set(2, 6));
        Office.due("of like ones the first", x.anew(set(4), set(6), 1), set(3, 12));
        Office.due("a loaf and a part", x.anew(1, set(12), 1), set(1, 12));
        Office.due("too much", x.anew(4095, 4095, 1), -1);
        Office.due("no parts make it", x.anew(set(11), set(12), 1), set(11, 12));
        Office.open(x, "finest 24;");
        Office.due("above 99 below the line", x.anew(set(23), set(19), 1), set(19, 23));
        Office.due("twice such", x.anew(set(19, 23), set(19, 23), 1), -1);
    }

    /** "of what the first one MAKES more than the other (2)". */
    private static void anewLess() {
        UnlikeLoaves x = Office.of("finest 12;");
        Office.due("more", x.anew(set(2), set(3), 2), set(6));
        Office.due("as much", x.anew(set(2), set(2), 2), -1);
        Office.due("as much, unlike", x.anew(set(2), set(3, 6), 2), -1);
        Office.due("less", x.anew(set(3), set(2), 2), -1);
        Office.due("the least part", x.anew(set(3), set(4), 2), set(12));
        Office.due("less than the least part", x.anew(set(4), set(5), 2), -1);
        Office.due("nearly all", x.anew(4095, 4095 - set(12), 2), set(12));
    }

    /** "NONE without one, when there are none such, or for others." */
    private static void anewNoneSuch() {
        UnlikeLoaves x = Office.of("finest 9;");
        for (int set : new int[] {0, 512, 1 << 24, -1, MIN, MAX}) {
            for (int how = 0; how <= 2; how++) {
                Office.due("no set " + set, x.anew(set, 1, how), -1);
                Office.due("no sets " + set, x.anew(set, set, how), -1);
            }
            Office.due("no other " + set, x.anew(2, set, 1), -1);
            Office.due("no other " + set, x.anew(2, set, 2), -1);
        }
        for (int how : new int[] {-1, 3, MIN, MAX}) {
            Office.due("how " + how, x.anew(2, 3, how), -1);
            Office.due("how " + how, x.anew(3, 2, how), -1);
        }
    }

    /** "To MEND a SET for a share: in how many ways (what 0)". */
    private static void mendsInWays() {
        UnlikeLoaves x = Office.of("finest 12;most 3;");
        Office.due("no way", x.mend(1, 2, set(1, 2), 0), 0);
        Office.due("one way", x.mend(1, 2, set(3, 4), 0), 1);
        Office.due("two ways", x.mend(7, 12, set(2, 3), 0), 2);
        Office.due("the least part for a loaf", x.mend(1, 12, 1, 0), 1);
        Office.due("a loaf for the least part", x.mend(1, 1, set(12), 0), 1);
        // What comes may not be there already, what goes must be there.
        Office.due("twice a third is none", x.mend(2, 3, set(3, 6), 0), 1);
        Office.due("a third can't come again", x.mend(2, 3, set(3, 4), 0), 0);
        Office.due("nothing can go alone", x.mend(1, 2, set(2, 12), 0), 0);
        Office.due("nothing can come alone", x.mend(5, 6, set(2), 0), 0);
    }

    /** "the SIZE that goes (1), that comes (2) of the first (the one that goes rising, then the one that comes)". */
    private static void mendsTheFirst() {
        UnlikeLoaves x = Office.of("finest 12;most 3;");
        Office.due("goes", x.mend(7, 12, set(2, 3), 1), 2);
        Office.due("comes", x.mend(7, 12, set(2, 3), 2), 4);
        Office.due("the least part comes", x.mend(1, 12, 1, 2), 12);
        Office.due("a loaf goes", x.mend(1, 12, 1, 1), 1);
        Office.due("the least part goes", x.mend(1, 1, set(12), 1), 12);
        Office.due("a loaf comes", x.mend(1, 1, set(12), 2), 1);
        Office.due("no way, goes", x.mend(1, 2, set(1, 2), 1), -1);
        Office.due("no way, comes", x.mend(1, 2, set(1, 2), 2), -1);
        Office.due("the first again", x.mend(7, 12, set(2, 3), 1), 2);
    }

    /** "NONE when there is none such ..": the share, the SET; "or for others". */
    private static void mendsNoneSuch() {
        UnlikeLoaves x = Office.of("finest 9;");
        Office.due("the finest for a loaf", x.mend(1, 1, set(9), 0), 1);
        for (int set : new int[] {0, 512, 513, 1 << 24, -1, MIN, MAX}) {
            for (int what = 0; what <= 2; what++) {
                Office.due("no set " + set, x.mend(1, 1, set, what), -1);
            }
        }
        for (int what : new int[] {-1, 3, MIN, MAX}) {
            Office.due("what " + what, x.mend(1, 1, 2, what), -1);
        }
    }

    /** "when it is a WRITING of it already". */
    private static void mendsNoWriting() {
        UnlikeLoaves x = Office.of("finest 12;most 3;");
        for (int what = 0; what <= 2; what++) {
            Office.due("a writing", x.mend(1, 2, 2, what), -1);
            Office.due("another writing", x.mend(1, 2, set(3, 6), what), -1);
            Office.due("the longest writing", x.mend(1, 2, set(4, 6, 12), what), -1);
        }
        Office.due("no writing of another share", x.mend(1, 1, 2, 0), 1);
        Office.due("a part too much", x.mend(1, 2, set(2, 12), 0), 0);
    }

    /** "so that it is a WRITING of it": of no more SIZES than most. */
    private static void mendsByMost() {
        for (int most = 1; most <= 6; most++) {
            UnlikeLoaves x = Office.of("finest 12;most " + most + ";");
            Office.due("one size", x.mend(1, 2, set(3), 0), 1);
            Office.due("two sizes", x.mend(1, 2, set(3, 4), 0), most >= 2 ? 1 : 0);
            Office.due("three sizes", x.mend(1, 2, set(4, 6, 11), 0), most >= 3 ? 1 : 0);
            Office.due("three that make it", x.mend(1, 2, set(4, 6, 12), 0), most >= 3 ? -1 : 0);
            Office.due("four sizes", x.mend(1, 1, set(2, 4, 6, 11), 0), most >= 4 ? 1 : 0);
            Office.due("four that make it", x.mend(1, 1, set(2, 4, 6, 12), 0), most >= 4 ? -1 : 0);
        }
    }

    /** "WRITINGS of a share that have all SIZES of a SET (0: no SIZE): how many (k NONE)". */
    private static void fillsOfNoSize() {
        UnlikeLoaves x = Office.of("finest 12;");
        Office.due("all", x.fills(1, 2, 0, -1), 3);
        Office.due("with a sixth", x.fills(1, 2, set(6), -1), 2);
        Office.due("with all of one", x.fills(1, 2, set(4, 6, 12), -1), 1);
        Office.due("with one too many", x.fills(1, 2, set(3, 4, 6), -1), 0);
        Office.due("with all sizes", x.fills(1, 2, 4095, -1), 0);
        Office.due("of none", x.fills(1, 13, 0, -1), 0);
    }

    /** "the k-th". */
    private static void fillsTheKth() {
        UnlikeLoaves x = Office.of("finest 12;");
        Office.due("the first of all", x.fills(1, 2, 0, 0), set(2));
        Office.due("the last of all", x.fills(1, 2, 0, 2), set(4, 6, 12));
        Office.due("none behind it", x.fills(1, 2, 0, 3), -1);
        Office.due("the first with a sixth", x.fills(1, 2, set(6), 0), set(3, 6));
        Office.due("the second with a sixth", x.fills(1, 2, set(6), 1), set(4, 6, 12));
        Office.due("no third with a sixth", x.fills(1, 2, set(6), 2), -1);
        for (int k : new int[] {-2, MIN, MAX}) {
            Office.due("k " + k, x.fills(1, 2, 0, k), -1);
        }
    }

    /** "NONE when there is none such." */
    private static void fillsNoneSuch() {
        UnlikeLoaves x = Office.of("finest 9;");
        Office.due("the finest", x.fills(1, 9, set(9), -1), 1);
        for (int set : new int[] {512, 513, 1 << 24, -1, MIN, MAX}) {
            Office.due("no set " + set, x.fills(1, 9, set, -1), -1);
            Office.due("no set " + set, x.fills(1, 9, set, 0), -1);
        }
        Office.due("the first of none", x.fills(1, 9, 1, 0), -1);
        Office.due("none", x.fills(1, 9, 1, -1), 0);
    }
}
