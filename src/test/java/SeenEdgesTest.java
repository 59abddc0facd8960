/** Part III of the document from SEEN on, promises 26 to 28: each limit, at its last value and at the first beyond it. */
public final class SeenEdgesTest {
    private static final int MIN = Integer.MIN_VALUE;
    private static final int MAX = Integer.MAX_VALUE;
    private static final int ALL = 2147483647;
    private static final String THIRD = "finest 3;person a due 1 of 3;";

    public static void main(String[] args) {
        sixteenRows();
        rowsOfThreeBytes();
        daysOfRows();
        peopleOfRows();
        servedOrNot();
        eachRowIsLooked();
        refusedAllStaying();
        seenIsReplaced();
        stocksOfThirty();
        allIfNothingIsSeen();
        daysBeyond999();
        stocksNoneSuch();
        stocksOfNow();
        tellingOfThirty();
        tellingUpToDay999();
        fewestOfTheMost();
        tellingOfLikeOnes();
        tellsWithoutAny();
        tellsNoneSuch();
        Office.end();
    }

    private static int[] rows(int count) {
        return new int[3 * count];
    }

    /** "what is SEEN, 1 to 16 rows": how many rows. */
    private static void sixteenRows() {
        UnlikeLoaves x = Office.of(THIRD);
        Office.due("no row", Office.see(x), -1);
        Office.due("has no row", x.has(8), 0);
        for (int n = 1; n <= 16; n++) {
            Office.due(n + " rows", Office.see(x, rows(n)), n);
            Office.due("has " + n, x.has(8), n);
        }
        for (int n : new int[] {17, 18, 500, 533}) {
            Office.due(n + " rows", Office.see(x, rows(n)), -1);
        }
        Office.due("no row", Office.see(x), -1);
        Office.due("sixteen stay", x.has(8), 16);
        Office.due("status(1)", x.status(1), 6);
    }

    /** "of three bytes". */
    private static void rowsOfThreeBytes() {
        UnlikeLoaves x = Office.of(THIRD);
        for (int n = 1; n <= 50; n++) {
            Office.due(n + " bytes", Office.see(x, new int[n]), n % 3 == 0 && n <= 48 ? n / 3 : -1);
        }
        Office.due("the sixteenth counts, too", Office.see(x, last(16, 30, 0, 1)), 16);
        Office.due("by none", x.stocks(3), 0);
    }

    /** Rows of which the last one alone is of these bytes; the others are of a in the next DAY, not SERVED. */
    private static int[] last(int count, int day, int person, int served) {
        int[] rows = rows(count);
        rows[3 * count - 3] = day;
        rows[3 * count - 2] = person;
        rows[3 * count - 1] = served;
        return rows;
    }

    /** "rows of DAYS AHEAD by number (0 .. 30; 0 is the next one)". */
    private static void daysOfRows() {
        UnlikeLoaves x = Office.of(THIRD);
        for (int day : new int[] {0, 1, 30}) {
            Office.due("day " + day, Office.see(x, day, 0, 1), 1);
            // As many days as go by ahead of it take a third each.
            int less = (1 << (day + 1)) - 1;
            Office.due("stocks by day " + day, x.stocks(3), ALL & ~less);
        }
        for (int day : new int[] {31, 32, 40, 128, 255}) {
            Office.due("day " + day, Office.see(x, day, 0, 1), -1);
        }
    }

    /** "a PERSON". */
    private static void peopleOfRows() {
        StringBuilder text = new StringBuilder("finest 3;");
        for (int people = 0; people <= 6; people++) {
            UnlikeLoaves x = Office.of(text.toString());
            Office.due("the last of " + people, Office.see(x, 0, Math.max(0, people - 1), 0), people > 0 ? 1 : -1);
            Office.due("beyond " + people, Office.see(x, 0, people, 0), -1);
            Office.due("far beyond " + people, Office.see(x, 0, 255, 0), -1);
            text.append("person ").append((char) ('a' + people)).append(" due 1 of 3;");
        }
        Office.due("without an office", Office.see(new UnlikeLoaves(), 0, 0, 0), -1);
    }

    /** "1 if he is SERVED in that DAY, else 0". */
    private static void servedOrNot() {
        UnlikeLoaves x = Office.of(THIRD);
        Office.due("0", Office.see(x, 0, 0, 0), 1);
        Office.due("no third", x.stocks(3), 1);
        Office.due("1", Office.see(x, 0, 0, 1), 1);
        Office.due("a third or more", x.stocks(3), ALL - 1);
        for (int served : new int[] {2, 3, 128, 255}) {
            Office.due("" + served, Office.see(x, 0, 0, served), -1);
        }
    }

    /** "1 to 16 rows": each of them is looked at. */
    private static void eachRowIsLooked() {
        UnlikeLoaves x = Office.of(THIRD);
        for (int count = 1; count <= 16; count++) {
            Office.due("a good last row", Office.see(x, last(count, 30, 0, 0)), count);
            Office.due("day of the last row", Office.see(x, last(count, 31, 0, 0)), -1);
            Office.due("person of the last row", Office.see(x, last(count, 0, 1, 0)), -1);
            Office.due("last byte of the last row", Office.see(x, last(count, 0, 0, 2)), -1);
            Office.due("a row like another", Office.see(x, last(count, 0, 0, 0)), count);
            Office.due("a row against another", Office.see(x, last(count, 0, 0, 1)), count);
            Office.due("so it is by none", x.stocks(3), count == 1 ? ALL - 1 : 0);
        }
    }

    /** "NONE, refused (1), all staying, when it is none such." */
    private static void refusedAllStaying() {
        UnlikeLoaves x = Office.of(THIRD);
        Office.see(x, 1, 0, 1, 2, 0, 0);
        Office.due("stocks", x.stocks(3), 4);
        Office.due("one row that can't be", Office.see(x, 5, 0, 1, 31, 0, 0), -1);
        Office.due("rows stay", x.has(8), 2);
        Office.due("stocks stay", x.stocks(3), 4);
        Office.due("status(1)", x.status(1), 1);
        Office.due("fault stays", x.fault(0), 0);
        Office.due("the tape goes", x.end(1), false);
    }

    /** "The tape .. tells what is SEEN": no row of an earlier one is left. */
    private static void seenIsReplaced() {
        UnlikeLoaves x = Office.of(THIRD);
        Office.see(x, last(16, 0, 0, 1));
        Office.due("by none", x.stocks(3), 0);
        Office.see(x, 1, 0, 1);
        Office.due("rows", x.has(8), 1);
        Office.due("by the new row alone", x.stocks(3), ALL & ~3);
        Office.open(x, THIRD);
        Office.due("nothing is seen of a new office", x.has(8), 0);
        Office.due("all stocks", x.stocks(3), ALL);
    }

    /** "STOCKS (0 .. 30) are how many pieces of a told SIZE can be in stock now". */
    private static void stocksOfThirty() {
        UnlikeLoaves x = Office.of(THIRD + "person b due 1 of 3;");
        for (int pieces = 0; pieces <= 30; pieces++) {
            int day = pieces / 2;
            boolean odd = pieces % 2 == 1;
            Office.see(x, day, 0, odd ? 1 : 0, day, 1, 0, Math.max(0, day - 1), 1, day > 0 ? 1 : 0);
            Office.due("just " + pieces, x.stocks(3), 1 << pieces);
        }
        Office.see(x, 15, 0, 1);
        Office.due("more than thirty", x.stocks(3), 0);
        Office.open(x, "finest 3;person a due 1 of 3;likes stock>30;");
        Office.see(x, 0, 0, 1);
        Office.due("31 are not told", x.stocks(3), 0);
        Office.open(x, "finest 3;person a due 1 of 3;likes stock>29;");
        Office.see(x, 0, 0, 1);
        Office.due("thirty are", x.stocks(3), 1 << 30);
    }

    /** "(all, if nothing is ..)". */
    private static void allIfNothingIsSeen() {
        for (int day : new int[] {0, 998, 999}) {
            UnlikeLoaves x = Office.at(THIRD, Office.image(day, new int[] {0, 0, 500}, 0, 0));
            for (int size = 1; size <= 3; size++) {
                Office.due("all of size " + size + " at " + day, x.stocks(size), ALL);
            }
        }
        Office.due("without people", Office.of("finest 3;").stocks(3), ALL);
    }

    /** "(.. DAYS beyond 999 are by none)". */
    private static void daysBeyond999() {
        for (int now = 966; now <= 999; now++) {
            for (int day : new int[] {0, 1, 29, 30}) {
                for (int served = 0; served <= 1; served++) {
                    UnlikeLoaves x = Office.at(THIRD + "likes 1=2;", Office.image(now, new int[] {0, 0, 0}, 0, 0));
                    Office.see(x, day, 0, served);
                    boolean comes = now + day <= 998;
                    Office.due("row " + day + " at " + now, x.stocks(3), comes && served == 0 ? ALL : 0);
                    Office.due("tells of row " + day + " at " + now, x.tells(3, 2), comes && served == 0 ? 31 : -1);
                }
            }
        }
        UnlikeLoaves x = Office.at(THIRD, Office.image(998, new int[] {0, 0, 0}, 0, 0));
        Office.see(x, 0, 0, 1, 1, 0, 0);
        Office.due("one of two beyond", x.stocks(3), 0);
        Office.see(x, 0, 0, 1, 0, 0, 1);
        Office.due("none beyond", x.stocks(3), ALL - 1);
        x.days(1);
        Office.due("beyond now", x.stocks(3), 0);
        x.undo();
        Office.due("not beyond again", x.stocks(3), ALL - 1);
    }

    /** "NONE when there is none such.": the SIZE. */
    private static void stocksNoneSuch() {
        UnlikeLoaves x = Office.of("finest 24;person a due 1 of 3;");
        Office.due("a loaf", x.stocks(1), ALL);
        Office.due("the finest", x.stocks(24), ALL);
        for (int size : new int[] {0, 25, -1, 32, MIN, MAX}) {
            Office.due("size " + size, x.stocks(size), -1);
        }
        Office.open(x, "finest 9;");
        Office.due("the finest", x.stocks(9), ALL);
        Office.due("beyond", x.stocks(10), -1);
        Office.due("without an office", new UnlikeLoaves().stocks(1), -1);
    }

    /** "can be in stock now": whatever is there, all else as it is now. */
    private static void stocksOfNow() {
        UnlikeLoaves x = Office.at("finest 6;person a due 5 of 6;likes day>4 or hunger>8;", Office.image(4, new int[] {0, 2, 999, 0, 0, 0}, 8, 0));
        Office.see(x, 1, 0, 1, 2, 0, 1, 3, 0, 0);
        Office.due("thirds", x.stocks(3), ALL & ~3);
        Office.due("halves", x.stocks(2), 4);
        Office.due("sixths", x.stocks(6), ALL);
        Office.due("nothing is done", x.stock(3), 999);
        x.days(1);
        Office.due("a day later, halves", x.stocks(2), 8);
        Office.see(x, 0, 0, 1, 1, 0, 1, 2, 0, 0);
        Office.due("a day later, halves by new rows", x.stocks(2), 4);
    }

    /** "TELLING is the DAY AHEAD (0 .. 30)". */
    private static void tellingOfThirty() {
        for (int day = 0; day <= 33; day++) {
            UnlikeLoaves x = Office.of(THIRD + "likes day=" + day + ";");
            Office.due("left by day " + day, x.tells(3, 2), day <= 30 ? 30 : 31);
            Office.due("the day " + day, x.tells(3, 0), day <= 30 ? day : 0);
            Office.due("the person by day " + day, x.tells(3, 1), 0);
        }
    }

    /** "NONE .. when no DAY comes": and no DAY AHEAD goes beyond 999. */
    private static void tellingUpToDay999() {
        for (int now = 965; now <= 998; now++) {
            UnlikeLoaves x = Office.at(THIRD + "likes day=998;", Office.image(now, new int[] {0, 0, 0}, 0, 0));
            boolean told = now >= 968;
            Office.due("left at " + now, x.tells(3, 2), told ? 30 : 31);
            Office.due("the day at " + now, x.tells(3, 0), told ? 998 - now : 0);
        }
        UnlikeLoaves x = Office.at(THIRD, Office.image(999, new int[] {0, 0, 0}, 0, 0));
        for (int what = 0; what <= 2; what++) {
            Office.due("no day comes", x.tells(3, what), -1);
        }
    }

    /** "by whom, SERVED in it or not, the most of these left are fewest". */
    private static void fewestOfTheMost() {
        UnlikeLoaves x = Office.of(THIRD);
        // Of 0 .. 30 he is served in day d by 30 - d: 16 and 15 in day 14, 15 and 16 in day 15.
        Office.due("of 31 the day", x.tells(3, 0), 14);
        Office.due("of 31 left", x.tells(3, 2), 16);
        Office.see(x, 0, 0, 1);
        Office.due("of 30 the day", x.tells(3, 0), 15);
        Office.due("of 30 left", x.tells(3, 2), 15);
        Office.see(x, 1, 0, 1, 4, 0, 0);
        Office.due("of three the day", x.tells(3, 0), 2);
        Office.due("of three left", x.tells(3, 2), 2);
        Office.see(x, 1, 0, 1, 3, 0, 0);
        Office.due("of two the day", x.tells(3, 0), 2);
        Office.due("of two left", x.tells(3, 2), 1);
        Office.see(x, 1, 0, 1, 2, 0, 0);
        Office.due("of one the day", x.tells(3, 0), 0);
        Office.due("of one left", x.tells(3, 2), 1);
    }

    /** "of like ones the first, DAY by DAY, PERSON by PERSON". */
    private static void tellingOfLikeOnes() {
        // Two thirds a day: day 7 parts 0 .. 14 from 15 .. 30 by a, 0 .. 15 from 16 .. 30 by b.
        UnlikeLoaves x = Office.of(THIRD + "person b due 1 of 3;");
        Office.due("the day", x.tells(3, 0), 7);
        Office.due("the first person", x.tells(3, 1), 0);
        Office.due("left", x.tells(3, 2), 16);
        Office.open(x, "finest 3;person b due 1 of 2;person a due 1 of 3;");
        Office.due("the second person tells", x.tells(3, 1), 1);
        Office.due("in day", x.tells(3, 0), 14);
        Office.due("nobody tells, the first day", x.tells(1, 0), 0);
        Office.due("nobody tells, the first person", x.tells(1, 1), 0);
        Office.due("nobody tells, all are left", x.tells(1, 2), 31);
    }

    /** "NONE without any, without PEOPLE". */
    private static void tellsWithoutAny() {
        UnlikeLoaves x = Office.of(THIRD);
        Office.see(x, 0, 0, 0, 1, 0, 1);
        Office.due("no stocks", x.stocks(3), 0);
        UnlikeLoaves nobody = Office.of("finest 3;have 5 by 3;");
        Office.due("all stocks", nobody.stocks(3), ALL);
        for (int what = 0; what <= 2; what++) {
            Office.due("without any", x.tells(3, what), -1);
            Office.due("without people", nobody.tells(3, what), -1);
        }
        Office.see(x, 0, 0, 1);
        Office.due("some again", x.tells(3, 2), 15);
    }

    /** "there is none such, or for others". */
    private static void tellsNoneSuch() {
        UnlikeLoaves x = Office.of("finest 24;person a due 1 of 24;have 9 by 24;");
        Office.due("the finest", x.tells(24, 2), 16);
        Office.due("a loaf", x.tells(1, 2), 31);
        for (int what = 0; what <= 2; what++) {
            for (int size : new int[] {0, 25, -1, MIN, MAX}) {
                Office.due("size " + size, x.tells(size, what), -1);
            }
            Office.due("without an office", new UnlikeLoaves().tells(1, what), -1);
        }
        for (int what : new int[] {-1, 3, MIN, MAX}) {
            Office.due("what " + what, x.tells(24, what), -1);
        }
    }
}
