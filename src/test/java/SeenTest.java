/** Promises 26 to 28: what is seen, stocks, telling. */
public final class SeenTest {
    public static void main(String[] args) {
        see();
        stocks();
        tells();
        lastDays();
        Office.end();
    }

    private static void see() {
        UnlikeLoaves x = new UnlikeLoaves();
        Office.due("without an office", Office.see(x, 0, 0, 0), -1);
        Office.open(x, "finest 3;have 4 by 3;");
        Office.due("without people", Office.see(x, 0, 0, 0), -1);
        Office.open(x, "finest 3;person a due 1 of 3;person b due 1 of 3;have 4 by 3;");
        Office.due("status(1)", x.status(1), 2);
        Office.due("one row", Office.see(x, 30, 1, 0), 1);
        Office.due("has(8)", x.has(8), 1);
        Office.due("two rows", Office.see(x, 0, 0, 1, 1, 1, 1), 2);
        Office.due("has(8) anew", x.has(8), 2);
        int[][] none = {{}, {0}, {0, 0}, {0, 0, 0, 0}, {31, 0, 0}, {0, 2, 0}, {0, 0, 2}, {0, 0, 1, 0, 0, 255}};
        for (int[] rows : none) {
            Office.due("no such rows of " + rows.length, Office.see(x, rows), -1);
        }
        Office.due("17 rows", Office.see(x, new int[51]), -1);
        Office.due("all stays", x.has(8), 2);
        Office.due("status(1)", x.status(1), 11);
        Office.due("16 rows", Office.see(x, new int[48]), 16);
        x.days(1);
        Office.due("behind an act", x.has(8), 16);
        x.undo();
        Office.due("behind undo", x.has(8), 16);
        Office.due("on", Office.on(x, Office.image(1, new int[] {0, 0, 1}, 0, 0, 0, 0)), true);
        Office.due("behind on", x.has(8), 16);
    }

    private static void stocks() {
        // Two thirds a day.
        UnlikeLoaves x = Office.of("finest 3;person a due 1 of 3;person b due 1 of 3;have 4 by 3;");
        Office.due("nothing seen", x.stocks(3), 2147483647);
        Office.see(x, 1, 0, 1);
        Office.due("a in the second day", x.stocks(3), 2147483647 & ~7);
        Office.see(x, 1, 0, 1, 1, 1, 0);
        Office.due("b not", x.stocks(3), 1 << 3);
        Office.see(x, 0, 0, 0, 0, 1, 1);
        Office.due("b without a", x.stocks(3), 0);
        Office.see(x, 14, 1, 1, 15, 0, 0);
        Office.due("thirty", x.stocks(3), 1 << 30);
        Office.due("of another size", x.stocks(2), 0);
        Office.due("size 0", x.stocks(0), -1);
        Office.due("size 4", x.stocks(4), -1);
        Office.due("the stock stays", x.stock(3), 4);
        // Each number of pieces is tried from what is so now: day, hunger and the other sizes, too.
        UnlikeLoaves y = Office.of("finest 3;person a due 5 of 6;have 2 by 2;likes day<9 and hunger<3;");
        Office.see(y, 0, 0, 1, 1, 0, 1, 2, 0, 0);
        Office.due("thirds", y.stocks(3), 2147483647 & ~3);
        Office.see(y, 1, 0, 0);
        Office.due("thirds", y.stocks(3), 3);
        // From now on: two days later the same rows tell of later days.
        Office.see(x, 0, 0, 1, 1, 0, 0);
        Office.due("ahead", x.stocks(3), 6);
        x.days(2);
        Office.due("ahead, later", x.stocks(3), 6);
        Office.open(x, "finest 3;person a due 1 of 1;bakes 2;");
        Office.see(x, 30, 0, 1);
        Office.due("baked", x.stocks(1), 2147483647);
    }

    private static void tells() {
        UnlikeLoaves x = Office.of("finest 3;person a due 1 of 3;person b due 1 of 3;have 4 by 3;");
        // Of 31: day 7, a: with 15 or more he is served (16 of them), else not (15).
        Office.due("day", x.tells(3, 0), 7);
        Office.due("person", x.tells(3, 1), 0);
        Office.due("left", x.tells(3, 2), 16);
        Office.due("another what", x.tells(3, 3), -1);
        Office.due("another what", x.tells(3, -1), -1);
        Office.due("size 0", x.tells(0, 0), -1);
        Office.due("size 4", x.tells(4, 0), -1);
        Office.due("a size that does not matter", x.tells(1, 2), 31);
        Office.due("a size that does not matter, day", x.tells(1, 0), 0);
        // Of 3 to 6: day 2, a: 5, 6 against 3, 4.
        Office.see(x, 1, 0, 1, 3, 0, 0);
        Office.due("stocks", x.stocks(3), 8 + 16 + 32 + 64);
        Office.due("day of four", x.tells(3, 0), 2);
        Office.due("person of four", x.tells(3, 1), 0);
        Office.due("left of four", x.tells(3, 2), 2);
        Office.see(x, 0, 0, 1, 0, 1, 0);
        Office.due("of one the first", x.tells(3, 0), 0);
        Office.due("of one the first person", x.tells(3, 1), 0);
        Office.due("of one", x.tells(3, 2), 1);
        Office.due("a size by which it can't be", x.tells(1, 2), -1);
        Office.see(x, 0, 0, 0, 0, 0, 1);
        for (int what = 0; what < 3; what++) {
            Office.due("none", x.tells(3, what), -1);
        }
        Office.open(x, "finest 3;have 2 by 3;");
        Office.due("nobody", x.tells(3, 2), -1);
        Office.due("nobody, all stocks", x.stocks(3), 2147483647);
    }

    private static void lastDays() {
        UnlikeLoaves x = Office.of("finest 3;person a due 1 of 3;");
        Office.due("on", Office.on(x, Office.image(996, new int[] {0, 0, 2}, 0, 0)), true);
        Office.due("three days tell", x.tells(3, 0), 2);
        Office.due("three days leave", x.tells(3, 2), 28);
        Office.see(x, 2, 0, 1);
        Office.due("the last day", x.stocks(3), 2147483647 & ~7);
        Office.see(x, 3, 0, 0);
        Office.due("beyond", x.stocks(3), 0);
        Office.due("beyond tells", x.tells(3, 0), -1);
        Office.see(x, 3, 0, 1);
        Office.due("beyond", x.stocks(3), 0);
        Office.open(x, "finest 3;person a due 1 of 3;");
        Office.due("on", Office.on(x, Office.image(998, new int[] {0, 0, 2}, 0, 0)), true);
        Office.due("one day tells", x.tells(3, 0), 0);
        Office.due("one day leaves", x.tells(3, 2), 30);
    }
}
