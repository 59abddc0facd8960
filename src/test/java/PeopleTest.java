/** Promises 6 to 10. */
public final class PeopleTest {
    public static void main(String[] args) {
        UnlikeLoaves x = Office.of("finest 6;most 3;person zoe due 10 of 12;person abcdef due 2 of 1;have 3 by 2;have 2 by 3;");
        counts(x);
        letters(x);
        people(x);
        stocks(x);
        kept();
        likesAsTheyAre();
        edges();
        Office.end();
    }

    private static void counts(UnlikeLoaves x) {
        x.days(3);
        int[] want = {6, 3, 2, 3, 1, 2, 2, 2, 0, 1};
        for (int what = 0; what < want.length; what++) {
            Office.due("has(" + what + ")", x.has(what), want[what]);
        }
        Office.due("has(-1)", x.has(-1), -1);
        Office.due("has(10)", x.has(10), -1);
        Office.see(x, 1, 1, 0, 2, 0, 0);
        Office.due("has(8)", x.has(8), 2);
    }

    private static void letters(UnlikeLoaves x) {
        int[] want = {26, 15, 5, 0, 0, 0};
        for (int k = 0; k < 6; k++) {
            Office.due("letter(0, " + k + ")", x.letter(0, k), want[k]);
            Office.due("letter(1, " + k + ")", x.letter(1, k), k + 1);
        }
        Office.due("letter(0, 6)", x.letter(0, 6), -1);
        Office.due("letter(0, -1)", x.letter(0, -1), -1);
        Office.due("letter(2, 0)", x.letter(2, 0), -1);
        Office.due("letter(-1, 0)", x.letter(-1, 0), -1);
    }

    private static void people(UnlikeLoaves x) {
        // 10 of 12 is 1/2 + 1/3 alone; served on days 0 and 1, then no third is left.
        int[] zoe = {10, 12, 1, 2, 1, -1, -1};
        // 2 of 1 has no writing of three parts.
        int[] other = {2, 1, 3, 0, 0, -1, -1};
        for (int what = 0; what < 7; what++) {
            Office.due("person(0, " + what + ")", x.person(0, what), zoe[what]);
            Office.due("person(1, " + what + ")", x.person(1, what), other[what]);
        }
        Office.due("person(0, -1)", x.person(0, -1), -1);
        Office.due("person(2, 0)", x.person(2, 0), -1);
        Office.due("person(-1, 0)", x.person(-1, 0), -1);
    }

    private static void stocks(UnlikeLoaves x) {
        Office.due("stock(2)", x.stock(2), 1);
        Office.due("stock(3)", x.stock(3), 0);
        Office.due("stock(0)", x.stock(0), -1);
        Office.due("stock(7)", x.stock(7), -1);
    }

    private static void kept() {
        UnlikeLoaves x = Office.of("finest 4;person a due 1 of 2;person b due 1 of 4;have 99 by 2;have 99 by 4;");
        x.serve(1, 8);
        x.days(2);
        int[][] want = {{0, 1, 8}, {0, 0, 2}, {0, 1, 8}, {1, 0, 2}, {1, 1, 8}};
        Office.due("has(7)", x.has(7), 5);
        for (int k = 0; k < want.length; k++) {
            for (int what = 0; what < 3; what++) {
                Office.due("kept(" + k + ", " + what + ")", x.kept(k, what), want[k][what]);
            }
        }
        Office.due("kept(5, 0)", x.kept(5, 0), -1);
        Office.due("kept(-1, 0)", x.kept(-1, 0), -1);
        Office.due("kept(0, 3)", x.kept(0, 3), -1);
        Office.due("kept(0, -1)", x.kept(0, -1), -1);
        x.days(30);
        Office.due("has(7) of 65", x.has(7), 40);
        Office.due("the oldest told", x.kept(0, 0), 12);
        Office.due("the latest", x.kept(39, 0), 31);
        Office.due("the latest person", x.kept(39, 1), 1);
        Office.due("none behind it", x.kept(40, 0), -1);
        x.days(30);
        Office.due("the oldest told", x.kept(0, 0), 42);
        x.undo();
        Office.due("the oldest told as it was", x.kept(0, 0), 12);
        Office.due("the latest as it was", x.kept(39, 0), 31);
        Office.due("its person as it was", x.kept(39, 1), 1);
        Office.due("its set as it was", x.kept(39, 2), 8);
        x.undo();
        Office.due("has(7) as it was", x.has(7), 5);
        Office.due("kept(0, 1) as it was", x.kept(0, 1), 1);
    }

    private static void edges() {
        UnlikeLoaves x = Office.of("finest 24;person a due 1 of 24;have 2 by 24;mice 100;");
        Office.due("the finest", x.person(0, 5), 1 << 23);
        Office.due("a day", x.days(1), 1);
        Office.due("left", x.stock(24), 1);
        // What an office before had is not here: 23/24 has no writing of one part.
        Office.open(x, "finest 24;most 6;person a due 1 of 2;have 9 by 2;");
        Office.open(x, "finest 24;most 1;person a due 23 of 24;have 9 by 2;");
        Office.due("no writing", x.person(0, 4), 0);
        Office.due("none to be taken", x.person(0, 5), -1);
        Office.due("nobody is served", x.days(3), 0);
        Office.due("none of it fits", Office.ask(x, "total fits 2"), 0);
    }

    private static void likesAsTheyAre() {
        // 1/2 = 1/3 + 1/6 = 1/2; he likes a half only when he hungers, the others when more than one is there.
        UnlikeLoaves x = Office.of("finest 6;person a due 1 of 2;have 1 by 2;have 2 by 3;have 2 by 6;"
            + "likes size=2 and hunger>0 or size>2 and stock>1;");
        Office.due("now", x.person(0, 5), Office.set(3, 6));
        x.days(1);
        Office.due("with one piece each", x.person(0, 5), -1);
        x.days(1);
        Office.due("hungry", x.person(0, 5), Office.set(2));
        Office.due("a day", x.days(1), 1);
        Office.due("gone", x.stock(2), 0);
        UnlikeLoaves y = Office.of("finest 3;person a due 1 of 1;bakes 2;likes day=1;");
        Office.due("day 0", y.days(1), 0);
        Office.due("day 1", y.person(0, 5), 1);
        Office.due("day 1 and 2", y.days(2), 1);
        Office.due("loaves", y.stock(1), 5);
    }
}
