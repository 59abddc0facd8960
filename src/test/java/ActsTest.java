/** Promises 29 to 35. */
public final class ActsTest {
    public static void main(String[] args) {
        cutAndBake();
        serve();
        days();
        chance();
        undo();
        seed();
        Office.end();
    }

    private static void cutAndBake() {
        UnlikeLoaves x = new UnlikeLoaves();
        Office.due("bake without an office", x.bake(1), -1);
        Office.due("cut without an office", x.cut(2), -1);
        Office.due("serve without an office", x.serve(0, 1), false);
        Office.due("status(2)", x.status(2), 3);
        Office.open(x, "finest 5;have 1 by 1;have 2 by 5;");
        Office.due("cut(1)", x.cut(1), -1);
        Office.due("cut(0)", x.cut(0), -1);
        Office.due("cut(6)", x.cut(6), -1);
        Office.due("cut(5)", x.cut(5), 7);
        Office.due("loaves", x.stock(1), 0);
        Office.due("no loaf", x.cut(5), -1);
        Office.due("status(2)", x.status(2), 7);
        Office.due("bake(0)", x.bake(0), -1);
        Office.due("bake(100)", x.bake(100), -1);
        Office.due("bake(-1)", x.bake(-1), -1);
        Office.due("bake(99)", x.bake(99), 99);
        Office.due("bake(1)", x.bake(1), 100);
        Office.due("status(2)", x.status(2), 10);
        Office.due("has(9)", x.has(9), 3);
        Office.due("on", Office.on(x, Office.image(0, new int[] {990, 997, 0, 0, 995})), true);
        Office.due("bake(10)", x.bake(10), -1);
        Office.due("bake(9)", x.bake(9), 999);
        Office.due("bake(1)", x.bake(1), -1);
        Office.due("cut(2)", x.cut(2), 999);
        Office.due("cut(2)", x.cut(2), -1);
        Office.due("cut(5)", x.cut(5), -1);
        Office.due("loaves", x.stock(1), 998);
        Office.due("status(2)", x.status(2), 14);
        Office.due("has(9)", x.has(9), 2);
    }

    private static void serve() {
        UnlikeLoaves x = Office.of("finest 6;most 2;person a due 2 of 4;have 2 by 2;have 1 by 3;have 1 by 4;have 1 by 6;likes 1=2;");
        x.days(3);
        Office.due("hunger", x.person(0, 2), 3);
        Office.due("no writing of it", x.serve(0, Office.set(4)), false);
        Office.due("too many parts", x.serve(0, Office.set(4, 6, 3)), false);
        Office.due("no set", x.serve(0, 0), false);
        Office.due("below 0", x.serve(0, -1), false);
        Office.due("nobody", x.serve(1, 2), false);
        Office.due("nobody", x.serve(-1, 2), false);
        Office.due("third and sixth", x.serve(0, Office.set(3, 6)), true);
        Office.due("hunger", x.person(0, 2), 0);
        Office.due("times", x.person(0, 3), 1);
        Office.due("gone", x.stock(3) + x.stock(6), 0);
        Office.due("kept day", x.kept(0, 0), 3);
        Office.due("kept person", x.kept(0, 1), 0);
        Office.due("kept set", x.kept(0, 2), Office.set(3, 6));
        Office.due("not in stock", x.serve(0, Office.set(3, 6)), false);
        Office.due("half", x.serve(0, Office.set(2)), true);
        Office.due("half", x.serve(0, Office.set(2)), true);
        Office.due("no half", x.serve(0, Office.set(2)), false);
        Office.due("day", x.has(3), 3);
        Office.due("status(2)", x.status(2), 8);
        Office.due("has(9)", x.has(9), 4);
        Office.due("on", Office.on(x, Office.image(0, new int[] {0, 5, 0, 0, 0, 0}, 99, 999)), true);
        Office.due("half", x.serve(0, Office.set(2)), true);
        Office.due("999 times at the most", x.person(0, 3), 999);
    }

    private static void days() {
        UnlikeLoaves x = new UnlikeLoaves();
        Office.due("without an office", x.days(1), -1);
        Office.open(x, "finest 3;person a due 1 of 1;person b due 1 of 1;have 3 by 1;bakes 1;");
        Office.due("days(0)", x.days(0), -1);
        Office.due("days(-1)", x.days(-1), -1);
        Office.due("days(101)", x.days(101), -1);
        Office.due("status(3)", x.status(3), 4);
        // Loaves: 4, two served; 3, two; 2, two; 1, one; 1, one.
        Office.due("days(3)", x.days(3), 6);
        Office.due("days(2)", x.days(2), 2);
        Office.due("the first ahead of the second", x.person(0, 2) * 10 + x.person(1, 2), 2);
        Office.due("times", x.person(0, 3) * 10 + x.person(1, 3), 53);
        Office.due("has(9)", x.has(9), 2);
        Office.due("days(100)", x.days(100), 100);
        Office.due("hunger of 99 at the most", x.person(1, 2), 99);
        Office.due("day", x.has(3), 105);
        Office.due("on", Office.on(x, Office.image(899, new int[] {998, 0, 0}, 0, 998, 0, 998)), true);
        Office.due("days(100)", x.days(100), 200);
        Office.due("times", x.person(0, 3), 999);
        Office.due("day", x.has(3), 999);
        Office.due("days(1)", x.days(1), -1);
        Office.due("chance(1)", x.chance(1), -1);
        Office.due("status(3)", x.status(3), 6);
    }

    private static void chance() {
        UnlikeLoaves x = new UnlikeLoaves();
        Office.due("without an office", x.chance(1), -1);
        Office.open(x, "finest 4;have 50 by 1;have 50 by 2;have 50 by 3;have 50 by 4;mice 40;");
        Office.due("chance(0)", x.chance(0), -1);
        Office.due("chance(101)", x.chance(101), -1);
        Office.due("status(3)", x.status(3), 3);
        x.seed(77);
        long seed = 77;
        int[] left = {50, 50, 50, 50};
        int mice = 0;
        for (int i = 0; i < 100; i++) {
            seed = (1103515245L * seed + 12345L) % 2147483648L;
            if (seed / 64 % 100 < 40) {
                seed = (1103515245L * seed + 12345L) % 2147483648L;
                left[(int) (seed / 64 % 4)]--;
                mice++;
            }
        }
        Office.due("chance(100)", x.chance(100), mice);
        for (int n = 1; n <= 4; n++) {
            Office.due("stock(" + n + ")", x.stock(n), left[n - 1]);
        }
        Office.due("day", x.has(3), 100);
        Office.due("one act", x.has(9), 1);
        Office.open(x, "finest 24;have 99 by 24;mice 100;");
        x.seed(9);
        int finest = x.chance(100);
        Office.due("the finest is had, too", finest > 0, true);
        Office.due("the finest left", x.stock(24), 99 - finest);
        // The draw goes on where nothing is to be had.
        Office.open(x, "finest 2;person a due 1 of 2;have 1 by 2;mice 100;likes 1=2;");
        x.seed(5);
        Office.due("one piece", x.chance(50), 1);
        Office.due("hunger", x.person(0, 2), 50);
        // Mice come ahead of loaves and people.
        Office.open(x, "finest 2;person a due 1 of 1;mice 100;bakes 1;");
        Office.due("nothing there yet", x.chance(10), 0);
        Office.due("always served", x.person(0, 3), 10);
    }

    private static void undo() {
        UnlikeLoaves x = Office.of("finest 3;person a due 1 of 3;have 5 by 1;have 1 by 3;mice 100;");
        Office.due("nothing to undo", x.undo(), false);
        Office.due("status(4)", x.status(4), 1);
        x.days(2);
        x.cut(3);
        x.serve(0, 4);
        x.bake(2);
        x.chance(1);
        x.cut(9);
        x.days(0);
        Office.due("acts that were", x.has(9), 5);
        Office.due("undo chance", x.undo(), true);
        Office.due("day", x.has(3), 2);
        Office.due("loaves", x.stock(1), 6);
        Office.due("undo bake", x.undo(), true);
        Office.due("loaves", x.stock(1), 4);
        Office.due("kept", x.has(7), 2);
        Office.due("undo serve", x.undo(), true);
        Office.due("thirds", x.stock(3), 3);
        Office.due("hunger", x.person(0, 2), 1);
        Office.due("kept", x.has(7), 1);
        Office.due("undo cut", x.undo(), true);
        Office.due("loaves", x.stock(1), 5);
        Office.due("undo days", x.undo(), true);
        Office.due("day", x.has(3), 0);
        Office.due("thirds", x.stock(3), 1);
        Office.due("kept", x.has(7), 0);
        Office.due("times", x.person(0, 3), 0);
        Office.due("nothing to undo", x.undo(), false);
        for (int i = 0; i < 25; i++) {
            x.bake(1);
        }
        Office.due("twenty", x.has(9), 20);
        for (int i = 0; i < 20; i++) {
            Office.due("undo", x.undo(), true);
        }
        Office.due("no more", x.undo(), false);
        Office.due("loaves", x.stock(1), 10);
        Office.due("status(4)", x.status(4), 3);
    }

    private static void seed() {
        String text = "finest 24;have 99 by 1;have 99 by 2;have 99 by 3;have 99 by 4;have 99 by 5;have 99 by 6;have 99 by 7;mice 50;";
        UnlikeLoaves x = Office.of(text);
        UnlikeLoaves y = Office.of(text);
        Office.due("seed(-1)", y.seed(-1), false);
        Office.due("status(5)", y.status(5), 1);
        Office.due("seed(1)", y.seed(1), true);
        Office.due("1 at first", x.chance(60), y.chance(60));
        Office.due("alike", sameStock(x, y), true);
        // The seed goes on where it was, undo or not.
        x.undo();
        y.undo();
        x.seed(1);
        Office.due("other draws", x.chance(60) == y.chance(60) && sameStock(x, y), false);
        Office.due("the seed stays over an office", Office.open(x, text), 9);
        Office.open(y, text);
        x.seed(0);
        y.seed(0);
        x.chance(1);
        y.chance(1);
        Office.open(x, text);
        Office.due("the seed stays", x.chance(50) == y.chance(50), true);
        Office.due("seed(0)", x.seed(0), true);
        Office.due("the greatest", x.seed(2147483647), true);
        Office.due("no act", x.has(9), 1);
    }

    private static boolean sameStock(UnlikeLoaves x, UnlikeLoaves y) {
        boolean same = true;
        for (int n = 1; n <= 24; n++) {
            same &= x.stock(n) == y.stock(n);
        }
        return same;
    }
}
