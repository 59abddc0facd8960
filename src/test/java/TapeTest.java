/** Promises 2 and 3, and status(0) of promise 40. */
public final class TapeTest {
    public static void main(String[] args) {
        UnlikeLoaves x = new UnlikeLoaves();
        Office.due("end(1) of nothing", x.end(1), false);
        Office.due("end(-1)", x.end(-1), false);
        Office.due("end(0)", x.end(0), true);
        Office.due("status(0)", x.status(0), 2);
        for (int i = 1; i <= 80; i++) {
            Office.due("feed " + i, x.feed(0, 0, 0, 0, 0), 20 * i);
        }
        Office.due("feed 81", x.feed(0, 0, 0, 0, 0), -1);
        Office.due("status(0)", x.status(0), 3);
        Office.due("end(1601)", x.end(1601), false);
        Office.due("end(1581)", x.end(1581), true);
        Office.due("feed behind 1581", x.feed(0, 0, 0, 0, 0), -1);
        Office.due("end(1582)", x.end(1582), false);
        Office.due("end(1580)", x.end(1580), true);
        Office.due("feed behind 1580", x.feed(0, 0, 0, 0, 0), 1600);
        Office.due("status(0)", x.status(0), 6);
        bytesComeHighestFirst();
        theTapeGoes();
        whatIsCutOffIsGone();
        Office.end();
    }

    private static void bytesComeHighestFirst() {
        UnlikeLoaves x = Office.of("finest 2;");
        // "total 1+2+3+4+5" and blanks, byte by byte, the highest of each number first.
        x.feed(0x746f7461, 0x6c20312b, 0x322b332b, 0x342b3520, 0x20202020);
        Office.due("ask", x.ask(), 0);
        Office.due("fault", x.fault(0), 0);
        x.feed(0x746f7461, 0x6c20312b, 0x322b332b, 0x342bff20, 0x20202020);
        Office.due("ask with byte 255", x.ask(), Office.NOTHING);
        Office.due("fault place", x.fault(1), 14);
    }

    private static void whatIsCutOffIsGone() {
        UnlikeLoaves x = new UnlikeLoaves();
        // "finest 9" with blanks, then with ";" behind it.
        x.feed(0x66696e65, 0x73742039, 0x20202020, 0x20202020, 0x20202020);
        x.end(8);
        x.office();
        Office.due("blanks cut off", x.fault(1), 8);
        x.feed(0x66696e65, 0x73742039, 0x3b3b3b3b, 0x3b3b3b3b, 0x3b3b3b3b);
        x.end(8);
        Office.due("signs cut off", x.office(), -1);
        Office.due("signs cut off", x.fault(1), 8);
    }

    private static void theTapeGoes() {
        UnlikeLoaves x = new UnlikeLoaves();
        x.feed(1, 2, 3, 4, 5);
        x.ask();
        Office.due("feed behind ask without an office", x.feed(0, 0, 0, 0, 0), 20);
        x.office();
        Office.due("feed behind a faulty office", x.feed(0, 0, 0, 0, 0), 20);
        x.see();
        Office.due("feed behind a refused see", x.feed(0, 0, 0, 0, 0), 20);
        x.on();
        Office.due("feed behind a refused on", x.feed(0, 0, 0, 0, 0), 20);
        Office.due("feed goes on", x.feed(0, 0, 0, 0, 0), 40);
    }
}
