/** Promises 37 to 40. */
public final class ImageTest {
    private static final String TEXT = "finest 3;person a due 1 of 3;person b due 2 of 1;have 4 by 1;have 9 by 3;";

    public static void main(String[] args) {
        images();
        on();
        refusedImages();
        status();
        Office.end();
    }

    private static void octets(String what, UnlikeLoaves x, int... want) {
        Office.due(what, x.image(), want.length);
        for (int k = 0; k < want.length; k++) {
            Office.due(what + ", octet(" + k + ")", x.octet(k), want[k]);
        }
        Office.due(what + ", octet behind", x.octet(want.length), -1);
        Office.due(what + ", octet(-1)", x.octet(-1), -1);
    }

    private static void images() {
        UnlikeLoaves x = new UnlikeLoaves();
        Office.due("no image yet", x.octet(0), -1);
        octets("without an office", x, 0, 0, 53);
        Office.open(x, TEXT);
        Office.due("the latest image", x.octet(2), 53);
        octets("at first", x, Office.image(0, new int[] {4, 0, 9}, 0, 0, 0, 0));
        x.days(3);
        Office.due("the image stays", x.octet(7), 9);
        octets("behind three days", x, Office.image(3, new int[] {4, 0, 6}, 0, 3, 3, 0));
        x.bake(99);
        for (int i = 0; i < 3; i++) {
            x.bake(99);
            x.days(100);
        }
        octets("higher bytes", x, Office.image(303, new int[] {400, 0, 0}, 99, 9, 99, 0));
    }

    private static void on() {
        UnlikeLoaves x = Office.of(TEXT);
        x.days(2);
        Office.due("on", Office.on(x, Office.image(999, new int[] {999, 999, 999}, 99, 999, 7, 256)), true);
        Office.due("day", x.has(3), 999);
        for (int n = 1; n <= 3; n++) {
            Office.due("stock", x.stock(n), 999);
        }
        Office.due("hunger", x.person(0, 2), 99);
        Office.due("times", x.person(0, 3), 999);
        Office.due("hunger", x.person(1, 2), 7);
        Office.due("times", x.person(1, 3), 256);
        Office.due("nothing is kept", x.has(7), 0);
        Office.due("nothing can be undone", x.has(9), 0);
        Office.due("undo", x.undo(), false);
        octets("the same again", x, Office.image(999, new int[] {999, 999, 999}, 99, 999, 7, 256));
        Office.due("the tape goes", x.end(1), false);
    }

    private static void refusedImages() {
        UnlikeLoaves x = new UnlikeLoaves();
        Office.due("without an office", Office.on(x, 0, 0, 53), false);
        Office.open(x, TEXT);
        x.days(2);
        int[][] none = {
            {},
            {0, 0, 53},
            Office.image(1000, new int[] {4, 0, 9}, 0, 0, 0, 0),
            Office.image(0, new int[] {1000, 0, 9}, 0, 0, 0, 0),
            Office.image(0, new int[] {4, 0, 1000}, 0, 0, 0, 0),
            Office.image(0, new int[] {4, 0, 9}, 100, 0, 0, 0),
            Office.image(0, new int[] {4, 0, 9}, 0, 0, 100, 0),
            Office.image(0, new int[] {4, 0, 9}, 0, 1000, 0, 0),
            Office.image(0, new int[] {4, 0, 9}, 0, 0, 0, 1000),
            Office.image(0, new int[] {4, 0, 9, 1}, 0, 0, 0, 0),
            Office.image(0, new int[] {4, 0}, 0, 0, 0, 0),
            Office.image(0, new int[] {4, 0, 9}, 0, 0),
            Office.image(0, new int[] {4, 0, 9}, 0, 0, 0, 0, 0, 0),
        };
        for (int[] image : none) {
            Office.due("no image of " + image.length, Office.on(x, image), false);
        }
        int[] image = Office.image(0, new int[] {4, 0, 9}, 0, 0, 0, 0);
        for (int k = 0; k < image.length; k++) {
            int[] spoiled = image.clone();
            spoiled[k] ^= 1;
            Office.due("spoiled at " + k, Office.on(x, spoiled), false);
        }
        Office.due("all stays", x.has(3), 2);
        Office.due("all stays", x.has(7), 2);
        Office.due("all stays", x.has(9), 1);
        Office.due("status(5)", x.status(5), 1 + none.length + image.length);
        Office.due("a good one", Office.on(x, image), true);
    }

    private static void status() {
        UnlikeLoaves x = new UnlikeLoaves();
        for (int what = -1; what <= 6; what++) {
            Office.due("status at first", x.status(what), what < 0 || what > 5 ? -1 : 0);
        }
        x.end(1);
        x.office();
        x.see();
        x.cut(2);
        x.bake(1);
        x.serve(0, 1);
        x.days(1);
        x.chance(1);
        x.undo();
        x.seed(-1);
        x.on();
        int[] want = {1, 2, 3, 2, 1, 2};
        for (int what = 0; what < 6; what++) {
            Office.due("status(" + what + ")", x.status(what), want[what]);
        }
        Office.open(x, "finest 3;");
        Office.due("an office leaves the count", x.status(2), 3);
    }
}
