/** Promises 20 to 25: days ahead, cuts, feasts, odds. */
public final class AheadTest {
    public static void main(String[] args) {
        ahead();
        lastDays();
        cuts();
        cutsAtTheEdges();
        feasts();
        odds();
        Office.end();
    }

    private static void ahead() {
        // a takes a half a day, b a loaf whenever it likes: from day 2 on.
        UnlikeLoaves x = Office.of("finest 4;person a due 1 of 2;person b due 1 of 1;have 2 by 2;bakes 1;likes size=2 or day>1;");
        int[] a = {0, 0, 0, 1, 2};
        int[] b = {0, 1, 2, 0, 0};
        int[] loaves = {0, 1, 2, 2, 2};
        for (int n = 0; n < a.length; n++) {
            Office.due("later(0, " + n + ")", x.later(0, n), a[n]);
            Office.due("later(1, " + n + ")", x.later(1, n), b[n]);
            Office.due("left(1, " + n + ")", x.left(1, n), loaves[n]);
            Office.due("left(2, " + n + ")", x.left(2, n), Math.max(0, 2 - n));
        }
        Office.due("later(0, 40)", x.later(0, 40), 38);
        Office.due("later(0, 41)", x.later(0, 41), -1);
        Office.due("later(0, -1)", x.later(0, -1), -1);
        Office.due("later(2, 0)", x.later(2, 0), -1);
        Office.due("later(-1, 0)", x.later(-1, 0), -1);
        Office.due("left(1, 41)", x.left(1, 41), -1);
        Office.due("left(1, -1)", x.left(1, -1), -1);
        Office.due("left(0, 1)", x.left(0, 1), -1);
        Office.due("left(5, 1)", x.left(5, 1), -1);
        Office.due("served(0)", x.served(0), 0);
        Office.due("served(1)", x.served(1), 2);
        Office.due("served(2)", x.served(2), -1);
        Office.due("served(-1)", x.served(-1), -1);
        Office.due("nothing has come", x.has(3), 0);
        Office.due("nothing is gone", x.stock(2), 2);
        Office.due("nothing is kept", x.has(7), 0);
        Office.open(x, "finest 4;person a due 1 of 1;have 1 by 1;likes day=39;");
        Office.due("the last day ahead", x.served(0), 39);
        Office.open(x, "finest 4;person a due 1 of 1;have 1 by 1;likes day=40;");
        Office.due("a day too late", x.served(0), -1);
        Office.open(x, "finest 4;person a due 1 of 1;bakes 9;have 99 by 1;likes 1=2;");
        x.days(100);
        Office.due("999 loaves at the most", x.left(1, 1), 999);
        Office.due("hunger of 99 at the most", x.later(0, 5), 99);
    }

    private static void lastDays() {
        UnlikeLoaves x = Office.of("finest 4;person a due 1 of 1;have 2 by 1;likes day=998;mice 50;");
        for (int i = 0; i < 9; i++) {
            x.days(100);
        }
        x.days(58);
        Office.due("day", x.has(3), 958);
        Office.due("served(0)", x.served(0), -1);
        x.days(1);
        Office.due("served(0)", x.served(0), 39);
        Office.due("later(0, 40)", x.later(0, 40), 0);
        x.days(1);
        Office.due("later(0, 40) beyond", x.later(0, 40), -1);
        Office.due("left(1, 40) beyond", x.left(1, 40), -1);
        Office.due("left(1, 39)", x.left(1, 39), 1);
        x.days(38);
        Office.due("day", x.has(3), 998);
        Office.due("cuts(-1)", x.cuts(-1), 0);
        Office.due("odds(-1)", x.odds(-1), 400);
        Office.due("days(2)", x.days(2), -1);
        Office.due("chance(2)", x.chance(2), -1);
        Office.due("days(1)", x.days(1), 1);
        Office.due("day", x.has(3), 999);
        Office.due("later(0, 0)", x.later(0, 0), 0);
        Office.due("later(0, 1)", x.later(0, 1), -1);
        Office.due("served(0)", x.served(0), -1);
        Office.due("cuts(-1)", x.cuts(-1), -1);
        Office.due("odds(-1)", x.odds(-1), -1);
        Office.due("odds(0)", x.odds(0), -1);
        Office.due("tells(1, 0)", x.tells(1, 0), -1);
        Office.due("stocks(1)", x.stocks(1), 2147483647);
        Office.due("feast(-1)", x.feast(-1), 1);
        Office.due("days(1)", x.days(1), -1);
        Office.due("status(3)", x.status(3), 3);
        Office.open(x, "finest 4;person a due 1 of 1;have 2 by 1;likes hunger>1 or day>900;");
        Office.due("on", Office.on(x, Office.image(998, new int[] {2, 0, 0, 0}, 0, 0)), true);
        Office.due("served(0)", x.served(0), 0);
        Office.due("on", Office.on(x, Office.image(999, new int[] {2, 0, 0, 0}, 0, 0)), true);
        Office.due("no day, served(0)", x.served(0), -1);
        Office.due("no day, cuts(-1)", x.cuts(-1), -1);
        Office.due("no day, person(0, 5)", x.person(0, 5), 1);
        Office.open(x, "finest 4;person a due 1 of 1;have 2 by 1;likes hunger>1;");
        Office.due("on", Office.on(x, Office.image(997, new int[] {2, 0, 0, 0}, 0, 0)), true);
        Office.due("too few days", x.served(0), -1);
        Office.due("on", Office.on(x, Office.image(996, new int[] {2, 0, 0, 0}, 0, 0)), true);
        Office.due("just enough", x.served(0), 2);
    }

    private static void cuts() {
        // a of 5/6 needs a half and a third.
        UnlikeLoaves x = Office.of("finest 6;person a due 5 of 6;have 3 by 1;");
        Office.due("cuts(-1)", x.cuts(-1), 2);
        Office.due("cuts(0)", x.cuts(0), 2);
        Office.due("cuts(1)", x.cuts(1), 3);
        Office.due("cuts(2)", x.cuts(2), -1);
        Office.due("cuts(-2)", x.cuts(-2), -1);
        Office.due("cuts(3)", x.cuts(3), -1);
        Office.due("nothing is cut", x.stock(1), 3);
        x.cut(2);
        Office.due("one cut left", x.cuts(-1), 1);
        Office.due("its size", x.cuts(0), 3);
        x.cut(3);
        Office.due("no cut left", x.cuts(-1), 0);
        Office.due("no size", x.cuts(0), -1);
        Office.open(x, "finest 6;person a due 5 of 6;have 1 by 1;");
        Office.due("too few loaves", x.cuts(-1), -1);
        Office.due("too few loaves, the first", x.cuts(0), -1);
        // A loaf that is cut is no loaf any longer.
        Office.open(x, "finest 3;person a due 1 of 1;person b due 1 of 2;have 1 by 1;");
        Office.due("one loaf for both", x.cuts(-1), -1);
        x.bake(1);
        Office.due("two loaves", x.cuts(-1), 1);
        x.bake(9);
        Office.due("still one to be cut", x.cuts(-1), 1);
        Office.open(x, "finest 3;person a due 1 of 7;have 9 by 1;");
        Office.due("never", x.cuts(-1), -1);
        // Loaves that are baked next day can't be cut now, but be served.
        Office.open(x, "finest 6;person a due 1 of 1;bakes 1;");
        Office.due("baked", x.cuts(-1), 0);
        Office.open(x, "finest 6;person a due 1 of 2;bakes 1;");
        Office.due("baked too late", x.cuts(-1), -1);
    }

    private static void cutsAtTheEdges() {
        // Three people of 1/2, no one likes pieces other than halves: two loaves into the same size.
        UnlikeLoaves x = Office.of("finest 8;person a due 1 of 2;person b due 1 of 2;person c due 1 of 2;have 3 by 1;likes size=2;");
        Office.due("two into halves", x.cuts(-1), 2);
        Office.due("the first", x.cuts(0), 2);
        Office.due("the second", x.cuts(1), 2);
        Office.open(x, "finest 8;person a due 1 of 2;person b due 1 of 2;person c due 1 of 2;person d due 1 of 2;"
            + "person e due 1 of 2;have 2 by 1;likes size=2;");
        Office.due("three loaves are not there", x.cuts(-1), -1);
        x.bake(1);
        Office.due("three are", x.cuts(-1), 3);
        Office.due("the third", x.cuts(2), 2);
        Office.open(x, "finest 8;have 3 by 1;");
        Office.due("nobody", x.cuts(-1), 0);
        // Three unlike sizes: 1/2 + 1/3 + 1/7 of 41/42 can't be due; 1/2 + 1/4 + 1/8 = 7/8 can.
        Office.open(x, "finest 8;person a due 7 of 8;have 5 by 1;likes size=2 or size=4 or size=8;");
        Office.due("three sizes", x.cuts(-1), 3);
        Office.due("rising", x.cuts(0) * 100 + x.cuts(1) * 10 + x.cuts(2), 248);
        // A size has 999 pieces at the most, but the cut that cut() refuses is one of these.
        Office.open(x, "finest 2;person a due 3 of 2;likes size=1 or stock>998;");
        Office.due("on", Office.on(x, Office.image(0, new int[] {5, 998}, 0, 0)), true);
        Office.due("a cut that is refused", x.cut(2), -1);
        Office.due("a cut with one piece lost", x.cuts(-1), 1);
        Office.due("its size", x.cuts(0), 2);
        // No more than 999: the second half is not above 998 any longer.
        Office.open(x, "finest 2;person a due 3 of 2;person b due 1 of 2;likes size=1 or stock>998;");
        Office.due("on", Office.on(x, Office.image(0, new int[] {5, 998}, 0, 0, 0, 0)), true);
        Office.due("pieces are lost", x.cuts(-1), -1);
    }

    private static void feasts() {
        // a: 1/2 or 1/3 + 1/6; b: 1/3; one half, one third, one sixth.
        UnlikeLoaves x = Office.of("finest 6;person a due 1 of 2;person b due 1 of 3;have 1 by 3;have 1 by 6;");
        Office.due("one of two", x.feast(-1), 1);
        Office.due("the first has none", x.feast(0), -1);
        Office.due("the second has his first", x.feast(1), 0);
        x.bake(1);
        x.cut(2);
        Office.due("both", x.feast(-1), 2);
        Office.due("a by the half", x.feast(0), 0);
        Office.due("b by the third", x.feast(1), 0);
        Office.due("feast(2)", x.feast(2), -1);
        Office.due("feast(-2)", x.feast(-2), -1);
        // What one takes is not there for the other: a must leave the half to b, who has no other way.
        Office.open(x, "finest 6;most 2;person a due 1 of 2;person b due 3 of 2;have 1 by 1;have 1 by 2;have 1 by 3;have 1 by 6;");
        Office.due("both", x.feast(-1), 2);
        Office.due("a by third and sixth", x.feast(0), 1);
        Office.due("b by loaf and half", x.feast(1), 0);
        // One for three: the last one, whose row comes first.
        Office.open(x, "finest 6;person a due 1 of 3;person b due 1 of 3;person c due 1 of 3;have 1 by 3;");
        Office.due("one of three", x.feast(-1), 1);
        Office.due("a", x.feast(0), -1);
        Office.due("b", x.feast(1), -1);
        Office.due("c", x.feast(2), 0);
        // Two halves, a third and a sixth: not all three of a half, though it is tried in many ways.
        Office.open(x, "finest 6;most 2;person a due 1 of 2;person b due 1 of 2;person c due 1 of 2;person d due 1 of 2;"
            + "have 2 by 2;have 1 by 3;have 1 by 6;");
        Office.due("three of four", x.feast(-1), 3);
        Office.due("a", x.feast(0), -1);
        Office.due("b", x.feast(1), 0);
        Office.due("c", x.feast(2), 0);
        Office.due("d", x.feast(3), 1);
        Office.open(x, "finest 6;person a due 1 of 3;have 1 by 2;");
        Office.due("nobody", x.feast(-1), 0);
        Office.due("a", x.feast(0), -1);
        // Likes and loaves to be baked do not count.
        Office.open(x, "finest 6;person a due 1 of 2;person b due 1 of 1;have 1 by 2;likes 1=2;bakes 3;");
        Office.due("whatever they like", x.feast(-1), 1);
        Office.due("a", x.feast(0), 0);
        Office.due("b", x.feast(1), -1);
        eighthIsTheLast();
    }

    private static void eighthIsTheLast() {
        UnlikeLoaves x = Office.of("finest 24;most 6;person a due 5 of 7;");
        for (int k = 0; k < 30; k += 1) {
            int set = x.writing(5, 7, k);
            StringBuilder text = new StringBuilder("finest 24;most 6;person a due 5 of 7;");
            for (int n = 1; n <= 24; n++) {
                if ((set >> (n - 1) & 1) == 1) {
                    text.append("have 1 by ").append(n).append(';');
                }
            }
            UnlikeLoaves y = Office.of(text.toString());
            Office.due("writing " + k, y.feast(0), k < 8 ? k : -1);
            Office.due("writing " + k + " counts", y.feast(-1), k < 8 ? 1 : 0);
            Office.due("a day", y.days(1), 1);
        }
    }

    private static void odds() {
        // A half for a and, if one is left, for b; mice of 30: of 4 sizes one is the half.
        UnlikeLoaves x = Office.of("finest 4;person a due 1 of 2;person b due 1 of 2;have 2 by 2;mice 30;");
        Office.due("all rows", x.odds(-1), 400);
        Office.due("a", x.odds(0), 400);
        Office.due("b", x.odds(1), 370);
        Office.due("odds(2)", x.odds(2), -1);
        Office.due("odds(-2)", x.odds(-2), -1);
        Office.open(x, "finest 4;person a due 1 of 2;person b due 1 of 2;have 2 by 2;");
        Office.due("no mice", x.odds(1), 400);
        Office.open(x, "finest 4;person a due 1 of 1;have 1 by 1;");
        Office.due("no mice, one loaf", x.odds(0), 400);
        Office.open(x, "finest 4;person a due 1 of 1;have 1 by 1;mice 1;");
        Office.due("hardly a mouse", x.odds(0), 399);
        Office.open(x, "finest 24;person a due 1 of 24;have 1 by 24;mice 100;");
        Office.due("the finest size", x.odds(0), 2300);
        Office.open(x, "finest 4;person a due 1 of 2;have 1 by 2;mice 100;");
        Office.due("mice always", x.odds(0), 300);
        // The mice come ahead of the baking.
        Office.open(x, "finest 4;person a due 1 of 1;bakes 1;mice 100;");
        Office.due("baked behind the mice", x.odds(0), 400);
        // A mouse can help: he likes a half only where there is one of it.
        Office.open(x, "finest 4;person a due 1 of 2;have 2 by 2;mice 10;likes stock=1;");
        Office.due("a mouse helps", x.odds(0), 10);
        Office.due("nothing is gone", x.stock(2), 2);
    }
}
