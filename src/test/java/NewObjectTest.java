/** Promise 1. */
public final class NewObjectTest {
    public static void main(String[] args) {
        UnlikeLoaves x = new UnlikeLoaves();
        for (int what = -1; what <= 10; what++) {
            int want = what < 0 || what > 9 ? -1 : what == 1 ? 4 : 0;
            Office.due("has(" + what + ")", x.has(what), want);
        }
        Office.due("stock(1)", x.stock(1), -1);
        Office.due("fault(0)", x.fault(0), 0);
        Office.due("fault(1)", x.fault(1), -1);
        Office.due("octet(0)", x.octet(0), -1);
        Office.due("NONE", UnlikeLoaves.NONE, -1);
        Office.due("NOTHING", UnlikeLoaves.NOTHING, -1000000000000000L);
        Office.end();
    }
}
