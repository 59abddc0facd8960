/** Promise 1. */
public final class NewObjectTest {
    public static void main(String[] args) {
        UnlikeLoaves x = new UnlikeLoaves();
        for (int what = -1; what <= 10; what++) {
            int want = what < 0 || what > 9 ? -1 : what == 1 ? 4 : 0;
            Office.due("has(" + what + ")", x.has(what), want);
        }
        Office.due("stock(1)", x.stock(1), -1);
        Office.due("fault(0)", x.fault(0), 0);
        Office.due("fault(1)", x.fault(1), -1);
        Office.due("octet(0)", x.octet(0), -1);
        withoutAnOffice(x);
        Office.due("NONE", UnlikeLoaves.NONE, -1);
        Office.due("NOTHING", UnlikeLoaves.NOTHING, -1000000000000000L);
        Office.end();
    }

    private static void withoutAnOffice(UnlikeLoaves x) {
        Office.due("letter(0, 0)", x.letter(0, 0), -1);
        Office.due("person(0, 0)", x.person(0, 0), -1);
        Office.due("kept(0, 0)", x.kept(0, 0), -1);
        Office.due("writings(1, 1)", x.writings(1, 1), -1);
        Office.due("writing(1, 1, 0)", x.writing(1, 1, 0), -1);
        Office.due("greedy(1, 1)", x.greedy(1, 1), -1);
        Office.due("shortest(1, 1)", x.shortest(1, 1), -1);
        Office.due("cheapest(1, 1, 0)", x.cheapest(1, 1, 0), Office.NOTHING);
        Office.due("makes(1, 0)", x.makes(1, 0), Office.NOTHING);
        Office.due("anew(1, 1, 1)", x.anew(1, 1, 1), -1);
        Office.due("mend(1, 1, 1, 0)", x.mend(1, 1, 1, 0), -1);
        Office.due("fills(1, 1, 0, -1)", x.fills(1, 1, 0, -1), -1);
        Office.due("later(0, 0)", x.later(0, 0), -1);
        Office.due("served(0)", x.served(0), -1);
        Office.due("left(1, 0)", x.left(1, 0), -1);
        Office.due("cuts(-1)", x.cuts(-1), -1);
        Office.due("feast(-1)", x.feast(-1), 0);
        Office.due("feast(0)", x.feast(0), -1);
        Office.due("odds(-1)", x.odds(-1), -1);
        Office.due("stocks(1)", x.stocks(1), -1);
        Office.due("tells(1, 2)", x.tells(1, 2), -1);
        Office.due("image()", x.image(), 3);
    }
}
