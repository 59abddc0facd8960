import java.nio.charset.StandardCharsets;
import java.util.function.ObjIntConsumer;

/** What the tests share: texts onto the tape, and a count of the answers that are not due. */
final class Office {
    static final long NOTHING = UnlikeLoaves.NOTHING;
    private static int wrong = 0;
    private static int looked = 0;

    private Office() {
    }

    static void due(String call, long got, long want) {
        looked++;
        if (got != want) {
            wrong++;
            System.out.println(call + " answered " + got + ", due is " + want);
        }
    }

    static void due(String call, boolean got, boolean want) {
        due(call, got ? 1 : 0, want ? 1 : 0);
    }

    /** Ends the test: with exit code 1, if an answer was wrong. */
    static void end() {
        System.out.println(looked + " answers looked at, " + wrong + " wrong");
        System.exit(wrong == 0 && looked > 0 ? 0 : 1);
    }

    static void feed(UnlikeLoaves x, int... bytes) {
        x.end(0);
        int[] all = new int[(bytes.length + 19) / 20 * 20];
        for (int i = 0; i < all.length; i++) {
            all[i] = i < bytes.length ? bytes[i] & 255 : 0;
        }
        for (int i = 0; i < all.length; i += 20) {
            x.feed(four(all, i), four(all, i + 4), four(all, i + 8), four(all, i + 12), four(all, i + 16));
        }
        x.end(bytes.length);
    }

    private static int four(int[] all, int i) {
        return all[i] << 24 | all[i + 1] << 16 | all[i + 2] << 8 | all[i + 3];
    }

    static void feed(UnlikeLoaves x, String text) {
        byte[] bytes = text.getBytes(StandardCharsets.ISO_8859_1);
        int[] numbers = new int[bytes.length];
        for (int i = 0; i < numbers.length; i++) {
            numbers[i] = bytes[i];
        }
        feed(x, numbers);
    }

    static int open(UnlikeLoaves x, String text) {
        feed(x, text);
        return x.office();
    }

    static UnlikeLoaves of(String text) {
        UnlikeLoaves x = new UnlikeLoaves();
        if (open(x, text) == UnlikeLoaves.NONE) {
            due("office of " + text, -1, 0);
        }
        return x;
    }

    /** The text is an office of so many statements. */
    static UnlikeLoaves stands(String text, int statements) {
        UnlikeLoaves x = new UnlikeLoaves();
        due(text, open(x, text), statements);
        due("fault(0) of " + text, x.fault(0), 0);
        due("fault(1) of " + text, x.fault(1), -1);
        due("status(1) of " + text, x.status(1), 0);
        return x;
    }

    /** The text has this fault at this place. */
    static void faulty(String text, int fault, int place) {
        UnlikeLoaves x = new UnlikeLoaves();
        due(text, open(x, text), -1);
        due("fault(0) of " + text, x.fault(0), fault);
        due("fault(1) of " + text, x.fault(1), place);
        due("status(1) of " + text, x.status(1), 1);
    }

    /** The text with one letter of a word (not of a NAME of one letter) another one, gone or one too many, and the word's place. */
    static void misspelt(String text, ObjIntConsumer<String> each) {
        for (int from = 0; from < text.length(); from++) {
            int to = from;
            while (to < text.length() && Character.isLetter(text.charAt(to))) {
                to++;
            }
            for (int i = from; i < to && to - from > 1; i++) {
                String ahead = text.substring(0, i);
                String behind = text.substring(i + 1);
                each.accept(ahead + "q" + behind, from);
                each.accept(ahead + text.charAt(i) + "q" + behind, from);
                // Without its e least is last, which is another word.
                if (!text.startsWith("least", from) || text.charAt(i) != 'e') {
                    each.accept(ahead + behind, from);
                }
            }
            from = to;
        }
    }

    /** An office in which all is as the image tells. */
    static UnlikeLoaves at(String text, int... image) {
        UnlikeLoaves x = of(text);
        due("image on " + text, on(x, image), true);
        return x;
    }

    static long ask(UnlikeLoaves x, String text) {
        feed(x, text);
        return x.ask();
    }

    /** The text is a question with this answer. */
    static void asked(UnlikeLoaves x, String text, long answer) {
        due(text, ask(x, text), answer);
        due("fault(0) of " + text, x.fault(0), 0);
        due("fault(1) of " + text, x.fault(1), -1);
    }

    /** The text is a question with this fault at this place. */
    static void unasked(UnlikeLoaves x, String text, int fault, int place) {
        due(text, ask(x, text), NOTHING);
        due("fault(0) of " + text, x.fault(0), fault);
        due("fault(1) of " + text, x.fault(1), place);
    }

    static int see(UnlikeLoaves x, int... rows) {
        feed(x, rows);
        return x.see();
    }

    /** An image by its numbers: the DAY, the stock size by size, then hunger and times of each person. */
    static int[] image(int day, int[] stock, int... people) {
        int[] bytes = new int[3 + 2 * stock.length + people.length / 2 * 3];
        int at = 0;
        bytes[at++] = day / 256;
        bytes[at++] = day % 256;
        for (int pieces : stock) {
            bytes[at++] = pieces / 256;
            bytes[at++] = pieces % 256;
        }
        for (int p = 0; p + 1 < people.length; p += 2) {
            bytes[at++] = people[p];
            bytes[at++] = people[p + 1] / 256;
            bytes[at++] = people[p + 1] % 256;
        }
        int check = 229;
        for (int i = 0; i < at; i++) {
            check = (3 * check + bytes[i]) % 251;
        }
        bytes[at] = check;
        return bytes;
    }

    static boolean on(UnlikeLoaves x, int... image) {
        feed(x, image);
        return x.on();
    }

    /** The set of these sizes. */
    static int set(int... sizes) {
        int set = 0;
        for (int size : sizes) {
            set |= 1 << (size - 1);
        }
        return set;
    }
}
