import java.util.Arrays;

/** Part IV of the document, promises 36 to 39: each limit of questions and images, at its last value and the first beyond it. */
public final class QuestionEdgesTest {
    private static final int MIN = Integer.MIN_VALUE;
    private static final int MAX = Integer.MAX_VALUE;
    private static final String SIX = "finest 9;person a due 1 of 2;person b due 2 of 4;person c due 1 of 1;person d due 24 of 24;"
        + "person e due 1 of 24;person f due 1 of 9;";

    public static void main(String[] args) {
        firstAndLast();
        noneOfFirstAndLast();
        often();
        totalIsNotHeld();
        mostAndLeast();
        withoutPeople();
        numbersOfPeople();
        duesAsTold();
        stockOfANumber();
        fitsOfANumber();
        wordsOfQuestions();
        digits();
        tooSoon();
        unknownWords();
        eachLetterOfAWord();
        whatStandsBehind();
        sixOpen();
        untilItsPartEnds();
        theTapeGoes();
        withoutAnOffice();
        imageOfAllNumbers();
        imageWithoutAnOffice();
        theCheckByte();
        octets();
        onAtTheMost();
        onOfThisOffice();
        onWithoutAnOffice();
        onForgets();
        onAllStaying();
        Office.end();
    }

    private static void asked(UnlikeLoaves x, String text, long answer) {
        Office.asked(x, text, answer);
    }

    private static void unasked(String text, int fault, int place) {
        Office.unasked(Office.of(SIX), text, fault, place);
    }

    /** "first TEST, last TEST (the first, the last PERSON for whom it holds)". */
    private static void firstAndLast() {
        UnlikeLoaves x = Office.of(SIX);
        for (int p = 0; p < 6; p++) {
            asked(x, "first number=" + p, p);
            asked(x, "last number=" + p, p);
            asked(x, "first number>" + p, p < 5 ? p + 1 : -1);
            asked(x, "last number<" + p, p - 1);
        }
        asked(x, "first all", 0);
        asked(x, "last all", 5);
    }

    /** "NONE of first, last, when its TEST holds for none". */
    private static void noneOfFirstAndLast() {
        UnlikeLoaves x = Office.of(SIX);
        asked(x, "first not all", -1);
        asked(x, "last not all", -1);
        asked(x, "first number>5", -1);
        asked(x, "last number<0", -1);
        asked(Office.of("finest 2;"), "first all", -1);
        asked(Office.of("finest 2;"), "last all", -1);
    }

    /** "often TEST (for how many)". */
    private static void often() {
        UnlikeLoaves x = Office.of(SIX);
        for (int p = 0; p <= 6; p++) {
            asked(x, "often number<" + p, p);
        }
        asked(x, "often not all", 0);
        asked(x, "often all", 6);
    }

    /** "total SUM (of all together, not held)". */
    private static void totalIsNotHeld() {
        UnlikeLoaves x = Office.of(SIX);
        asked(x, "total 1000*1000", 6000000);
        asked(x, "total 1000*1001", 6000000);
        asked(x, "total 0-1000*1001", -6000000);
        asked(x, "total number*1000*1000", 5000000);
        asked(x, "total 0", 0);
    }

    /** "most SUM, least SUM (the greatest, the least of all ..)". */
    private static void mostAndLeast() {
        UnlikeLoaves x = Office.of(SIX);
        for (int p = 0; p < 6; p++) {
            String peak = "9-(number-" + p + ")*(number-" + p + ")";
            asked(x, "most " + peak, 9);
            asked(x, "least 0-(" + peak + ")", -9);
        }
        asked(x, "most number-9", -4);
        asked(x, "least number-9", -9);
        asked(x, "most number+1", 6);
        asked(x, "least number+1", 1);
        asked(x, "most 0-1000*1001", -1000000);
        asked(x, "least 1000*1001", 1000000);
    }

    /** "0 without PEOPLE)". */
    private static void withoutPeople() {
        UnlikeLoaves x = Office.of("finest 2;");
        for (String kind : new String[] {"total", "most", "least"}) {
            asked(x, kind + " 5", 0);
            asked(x, kind + " 0-5", 0);
        }
        asked(x, "often all", 0);
        Office.unasked(x, "most all", 1, 5);
    }

    /** "(The PERSON's number ..": from 0 on. */
    private static void numbersOfPeople() {
        UnlikeLoaves x = Office.of(SIX);
        asked(x, "least number", 0);
        asked(x, "most number", 5);
        asked(x, "total number", 15);
    }

    /** "the two numbers of his due as told; how many WRITINGS it has". */
    private static void duesAsTold() {
        UnlikeLoaves x = Office.of(SIX);
        asked(x, "first top=2 and bottom=4", 1);
        asked(x, "often top=1 and bottom=2", 1);
        asked(x, "first top=24 and bottom=24", 3);
        asked(x, "most top", 24);
        asked(x, "least top", 1);
        asked(x, "most bottom", 24);
        asked(x, "least bottom", 1);
        asked(x, "first ways=0", 4);
        asked(x, "often ways=0", 1);
        asked(x, "often ways=" + x.writings(1, 2), x.writings(1, 2) == x.writings(1, 1) ? 4 : 2);
    }

    /** "how many pieces of the SIZE of that number are in stock ..: 0 of one that there is not". */
    private static void stockOfANumber() {
        UnlikeLoaves x = Office.at("finest 9;person a due 1 of 2;", Office.image(0, new int[] {1, 2, 3, 4, 5, 6, 7, 8, 999}, 0, 0));
        int[] want = {0, 1, 2, 3, 4, 5, 6, 7, 8, 999, 0, 0};
        for (int n = 0; n < want.length; n++) {
            asked(x, "most stock " + n, want[n]);
        }
        for (String n : new String[] {"24", "25", "26", "32", "9999", "(0-1)", "(0-9)", "(1000*1000)", "(0-1000*1000)"}) {
            asked(x, "most stock " + n, 0);
        }
        asked(x, "most stock(8+1)", 999);
        asked(x, "most stock stock 2", 2);
        asked(x, "most stock 9+1", 1000);
        Office.open(x, "finest 24;person a due 1 of 2;have 7 by 24;");
        asked(x, "most stock 24", 7);
        asked(x, "most stock 25", 0);
    }

    /** "1 if that SIZE is in one of these WRITINGS, else 0: 0 of one that there is not". */
    private static void fitsOfANumber() {
        // 1/2: {2}, {3, 6}, {4, 6, 12}.
        UnlikeLoaves x = Office.of("finest 12;person a due 1 of 2;");
        int[] want = {0, 0, 1, 1, 1, 0, 1, 0, 0, 0, 0, 0, 1, 0};
        for (int n = 0; n < want.length; n++) {
            asked(x, "most fits " + n, want[n]);
        }
        for (String n : new String[] {"24", "25", "33", "34", "9999", "(0-1)", "(0-2)", "(0-30)", "(0-1000*1000)"}) {
            asked(x, "most fits " + n, 0);
        }
        Office.open(x, "finest 24;most 1;person a due 1 of 24;person b due 1 of 1;");
        asked(x, "first fits 24=1", 0);
        asked(x, "last fits 24=1", 0);
        asked(x, "first fits 1=1", 1);
        asked(x, "often fits 25=1", 0);
        Office.open(x, "finest 2;person a due 1 of 24;");
        asked(x, "most fits 24", 0);
    }

    /** "TEST, SUM as in I, but PART: N; number; hunger; top; bottom; ways; had; day; stock PART; fits PART; ..". */
    private static void wordsOfQuestions() {
        UnlikeLoaves x = Office.at(SIX, Office.image(999, new int[9], 99, 999, 0, 0, 0, 0, 0, 0, 0, 0, 0, 0));
        asked(x, "most hunger", 99);
        asked(x, "most had", 999);
        asked(x, "least day", 999);
        asked(x, "most day", 999);
        asked(x, "least min(hunger,had)-max(hunger,had)", -900);
        for (String word : "size place finest most person due of have by bakes costs likes mice or and all first x".split(" ")) {
            unasked("total " + word, 1, 6);
            unasked("total 1+" + word, 1, 8);
            unasked("total stock " + word, 1, 12);
            unasked("total fits " + word, 1, 11);
        }
        unasked("often size=1", 1, 6);
        unasked("total not 1", 1, 6);
        unasked("total [1]", 1, 6);
        unasked("total stock stock", 1, 17);
        unasked("total min 1", 1, 10);
    }

    /** "N" as in I: of 1 to 4 digits. */
    private static void digits() {
        UnlikeLoaves x = Office.of(SIX);
        asked(x, "most 9999", 9999);
        asked(x, "most 0000", 0);
        unasked("most 10000", 1, 9);
        unasked("most 00001", 1, 9);
        unasked("often 1=12345", 1, 12);
        unasked("most stock 12345", 1, 15);
        unasked("most 1 12345", 1, 7);
        unasked("most 1size", 1, 6);
        unasked("most size1", 1, 5);
        unasked("most1", 1, 4);
        unasked("most stock1", 1, 10);
        unasked("most fits1", 1, 9);
        unasked("often 1=1and all", 1, 9);
    }

    /** "FAULTS: 1 as in I": "at the text's length, if it ends too soon". */
    private static void tooSoon() {
        unasked("", 1, 0);
        unasked(" \n", 1, 2);
        String[] tests = {"often", "not", "[", "stock", "3", "<", "fits", "(", "number", "+", "2", ")", "or", "hunger", "=", "min", "(",
            "1", ",", "2", ")", "and", "1", "=", "1", "]", "and", "all"};
        StringBuilder text = new StringBuilder();
        for (int i = 0; i < tests.length; i++) {
            text.append(i == 0 ? "" : " ").append(tests[i]);
            if (i == 25 || i == 27) {
                asked(Office.of(SIX), text.toString(), 4);
            } else {
                unasked(text.toString(), 1, text.length());
                unasked(text + "\n ", 1, text.length() + 2);
            }
        }
        for (String kind : "first last often total most least".split(" ")) {
            unasked(kind, 1, kind.length());
            unasked(kind + " ", 1, kind.length() + 1);
        }
    }

    /** "(an unknown word at its first byte ..)". */
    private static void unknownWords() {
        for (String word : "firs firsts lasts ofte oftenx tota totals mos mosts leas x number all 1 ; (".split(" ")) {
            unasked(word, 1, 0);
            unasked(" " + word + " all", 1, 1);
        }
        unasked("First all", 1, 0);
        unasked("often alls", 1, 6);
        unasked("often nota", 1, 6);
        unasked("total numbers", 1, 6);
        unasked("total hunge", 1, 6);
        unasked("total stocks 1", 1, 6);
        unasked("total fit 1", 1, 6);
        unasked("often all an all", 1, 10);
    }

    /** "(an unknown word at its first byte ..)". */
    private static void eachLetterOfAWord() {
        UnlikeLoaves x = Office.of(SIX);
        String sum = "number+hunger+top+bottom+ways+had+day+stock 1+fits 1+min(1,2)+max(1,2)";
        String[] questions = {"first not all and all or " + sum + "=0", "last all", "often all", "total " + sum, "most 1", "least 1"};
        for (String question : questions) {
            Office.due(question, Office.ask(x, question) != Office.NOTHING, true);
            Office.misspelt(question, (changed, place) -> unasked(changed, 1, place));
        }
    }

    /** "what stands behind it, too". */
    private static void whatStandsBehind() {
        for (String more : new String[] {"all", ";", "%", ")", "]", "1", "12345", "first", "" + (char) 0, "" + (char) 255, "\t"}) {
            unasked("often all " + more, 1, 10);
            unasked("total 1 " + more, 1, 8);
        }
        asked(Office.of(SIX), "often all \n ", 6);
        asked(Office.of(SIX), "\n total\n1 ", 6);
        unasked("total 1=1", 1, 7);
        unasked("total 1 or", 1, 8);
        unasked("often 1=1=1", 1, 9);
    }

    /** "4 the 7th of ( [ not stock fits that is open at once .., at it". */
    private static void sixOpen() {
        UnlikeLoaves x = Office.of(SIX);
        String[] openers = {"(", "stock ", "fits ", "min(2,", "max("};
        for (String opener : openers) {
            String close = opener.equals("(") || opener.startsWith("min") ? ")" : opener.startsWith("max") ? ",2)" : "";
            int at = opener.endsWith("(") ? opener.length() - 1 : opener.startsWith("min") ? 3 : 0;
            Office.ask(x, "total " + opener.repeat(6) + "1" + close.repeat(6));
            Office.due("six of " + opener, x.fault(0), 0);
            unasked("total " + opener.repeat(7) + "1" + close.repeat(7), 4, 6 + 6 * opener.length() + at);
        }
        asked(x, "often " + "not ".repeat(6) + "all", 6);
        unasked("often " + "not ".repeat(7) + "all", 4, 30);
        asked(x, "often [[[[[[all]]]]]]", 6);
        unasked("often [[[[[[[all]]]]]]]", 4, 12);
        asked(x, "often not[not[stock fits 1=1]]", 0);
        unasked("often not[not[stock fits(1)=1]]", 4, 24);
        unasked("often not[not[stock fits fits 1=1]]", 4, 25);
        unasked("often not[not[not[stock 1=1]]]", 4, 18);
        unasked("often not[not[not[1=fits 1]]]", 4, 20);
        asked(x, "often not[not[not[1=1]]]", 0);
    }

    /** "(not until its FACT, stock, fits until its PART ends)". */
    private static void untilItsPartEnds() {
        UnlikeLoaves x = Office.of(SIX);
        asked(x, "total " + "stock ".repeat(6) + "1+" + "fits ".repeat(6) + "1*" + "((((((1))))))", 2);
        asked(x, "total (((((stock 1+stock 1+fits 1+(0))))))", 2);
        unasked("total (((((stock(1)))))", 4, 16);
        unasked("total (((((fits fits 1)))))", 4, 16);
        asked(x, "total (((((stock 1*(3))))))", 0);
        asked(x, "often [[[[not stock 1=1 and not fits 1=2 and [all]]]]]", 6);
        asked(x, "often not not not not not stock 1=1 and not not not not not fits 1=2", 6);
        unasked("often not not not not not stock(1)=1", 4, 31);
        asked(x, "often stock stock stock stock stock(1)=stock(1)", 6);
    }

    /** "The tape (it goes) is a QUESTION". */
    private static void theTapeGoes() {
        UnlikeLoaves x = Office.of(SIX);
        asked(x, "often all", 6);
        Office.due("the tape is gone", x.end(1), false);
        Office.unasked(x, "often %", 1, 6);
        Office.due("the tape is gone", x.end(1), false);
        Office.due("no refusal but of these", x.status(0), 2);
        Office.due("no refusal of questions", x.status(1), 0);
        Office.unasked(x, "", 1, 0);
    }

    /** "NOTHING .. (the tape goes, nothing else is done, fault() stays) without an office". */
    private static void withoutAnOffice() {
        UnlikeLoaves x = new UnlikeLoaves();
        Office.due("ask", Office.ask(x, "often all"), Office.NOTHING);
        Office.due("the tape goes", x.end(1), false);
        Office.due("no fault", x.fault(0), 0);
        Office.due("no place", x.fault(1), -1);
        Office.open(x, "finest 25;");
        Office.due("ask", Office.ask(x, "often all"), Office.NOTHING);
        Office.due("the fault stays", x.fault(0), 2);
        Office.due("its place stays", x.fault(1), 7);
        Office.due("a wrong one", Office.ask(x, "%"), Office.NOTHING);
        Office.due("the fault stays", x.fault(0), 2);
        Office.due("its place stays", x.fault(1), 7);
        Office.due("refusals", x.status(1), 1);
    }

    private static void octets(UnlikeLoaves x, int... want) {
        Office.due("bytes", x.image(), want.length);
        for (int k = 0; k < want.length; k++) {
            Office.due("octet " + k, x.octet(k), want[k]);
        }
    }

    /** "DAY (two bytes ..); .. in stock (two bytes); .. he hungers, how many times .. (two bytes); last a byte". */
    private static void imageOfAllNumbers() {
        for (int n : new int[] {0, 1, 127, 128, 255, 256, 257, 511, 512, 767, 768, 998, 999}) {
            int hunger = Math.min(99, n);
            int[] image = Office.image(n, new int[] {n, 999 - n}, hunger, n, 99 - hunger, 999 - n);
            UnlikeLoaves x = Office.at("finest 2;person a due 1 of 1;person b due 1 of 1;", image);
            octets(x, image);
            Office.due("the higher byte first", x.octet(0) * 256 + x.octet(1), n);
            Office.due("hunger is one byte", x.octet(6), hunger);
            Office.due("times are two", x.octet(7) * 256 + x.octet(8), n);
        }
        UnlikeLoaves x = Office.of("finest 24;" + SIX.substring(9));
        Office.due("the longest", x.image(), 2 + 48 + 18 + 1);
        Office.due("its last byte", x.octet(68) >= 0, true);
        Office.due("none behind it", x.octet(69), -1);
    }

    /** An image without an office has its DAY alone. */
    private static void imageWithoutAnOffice() {
        UnlikeLoaves x = new UnlikeLoaves();
        octets(x, 0, 0, 53);
        Office.due("none behind it", x.octet(3), -1);
    }

    /** "all ahead from 229 on, c = (3 c + it) mod 251". */
    private static void theCheckByte() {
        boolean[] was = new boolean[256];
        for (int n = 0; n <= 999; n++) {
            UnlikeLoaves x = Office.at("finest 2;", Office.image(0, new int[] {0, n}));
            Office.due("bytes", x.image(), 7);
            long check = (229 * 729L + 3 * (n / 256) + n % 256) % 251;
            Office.due("check of " + n, x.octet(6), check);
            was[x.octet(6)] = true;
        }
        for (int c = 0; c < 256; c++) {
            Office.due("check " + c, was[c], c < 251);
        }
        // The check of 2 and of 253 are alike but for the 251: an image ends with the less one.
        UnlikeLoaves x = Office.of("finest 2;");
        int[] image = Office.image(0, new int[] {0, 0});
        for (int check = 0; check < 256; check++) {
            int[] other = image.clone();
            other[6] = check;
            Office.due("an image with " + check, Office.on(x, other), check == image[6]);
        }
    }

    /** "Byte k of the latest image(); NONE when there is none such." */
    private static void octets() {
        UnlikeLoaves x = new UnlikeLoaves();
        Office.due("no image yet", x.octet(0), -1);
        Office.open(x, "finest 3;have 7 by 3;");
        Office.due("no image yet", x.octet(0), -1);
        Office.due("bytes", x.image(), 9);
        for (int k : new int[] {-1, 9, 10, 69, MIN, MAX}) {
            Office.due("octet " + k, x.octet(k), -1);
        }
        Office.due("the last", x.octet(8) >= 0, true);
        x.bake(5);
        Office.due("of the latest image", x.octet(3), 0);
        Office.open(x, "finest 2;");
        Office.due("it stays", x.octet(7), 7);
        Office.due("a shorter one", x.image(), 7);
        Office.due("none of the longer one", x.octet(7), -1);
    }

    /** "(DAY 999, pieces of a SIZE 999, hunger 99, times 999 at most)". */
    private static void onAtTheMost() {
        UnlikeLoaves x = Office.of("finest 2;person a due 1 of 1;person b due 1 of 1;");
        int[] most = {999, 999, 999, 99, 999, 99, 999};
        for (int i = -1; i < most.length; i++) {
            int[] more = most.clone();
            if (i >= 0) {
                more[i]++;
            }
            Office.due("one more at " + i, Office.on(x, image(more)), i < 0);
            if (i >= 0) {
                more[i] = i == 3 || i == 5 ? 255 : 65535;
                Office.due("far more at " + i, Office.on(x, image(more)), false);
            }
        }
        Office.due("all at the most", x.has(3) + x.has(4) + x.has(6), 999 * 5);
        Office.due("hunger at the most", x.person(0, 2) + x.person(1, 2), 198);
        Office.due("all at 0", Office.on(x, image(new int[7])), true);
        Office.due("nothing", x.has(3) + x.has(4) + x.has(5) + x.has(6), 0);
    }

    private static int[] image(int[] n) {
        return Office.image(n[0], new int[] {n[1], n[2]}, n[3], n[4], n[5], n[6]);
    }

    /** "AN IMAGE of this OFFICE": just as long as its sizes and people ask. */
    private static void onOfThisOffice() {
        UnlikeLoaves x = Office.of("finest 5;person a due 1 of 1;person b due 1 of 1;");
        for (int sizes = 2; sizes <= 8; sizes++) {
            for (int people = 0; people <= 6; people++) {
                boolean fits = sizes == 5 && people == 2 || sizes == 8 && people == 0 || sizes == 2 && people == 4;
                // Images of eight sizes, of two sizes and four people are as long; what they tell must be no more than can be.
                int[] image = Office.image(3, new int[sizes], new int[2 * people]);
                Office.due(sizes + " sizes, " + people + " people", Office.on(x, image), fits);
            }
        }
        int[] good = Office.image(3, new int[5], 0, 0, 0, 0);
        for (int length = 0; length < good.length; length++) {
            Office.due("cut off at " + length, Office.on(x, Arrays.copyOf(good, length)), false);
        }
        Office.due("a byte behind it", Office.on(x, Arrays.copyOf(good, good.length + 1)), false);
        Office.due("whole", Office.on(x, good), true);
    }

    /** "or without an office". */
    private static void onWithoutAnOffice() {
        UnlikeLoaves x = new UnlikeLoaves();
        Office.due("its own image", Office.on(x, 0, 0, 53), false);
        Office.due("no image", Office.on(x), false);
        Office.due("status(5)", x.status(5), 2);
        Office.due("the tape goes", Office.on(x, 0, 0, 53) || x.end(1), false);
    }

    /** "all is as it tells, nothing is KEPT or can be undone". */
    private static void onForgets() {
        UnlikeLoaves x = Office.of("finest 2;person a due 1 of 1;have 9 by 1;");
        x.days(3);
        Office.see(x, 0, 0, 1);
        Office.due("kept", x.has(7), 3);
        Office.due("on", Office.on(x, Office.image(5, new int[] {4, 0}, 1, 2)), true);
        Office.due("nothing kept", x.has(7), 0);
        Office.due("no k-th", x.kept(0, 0), -1);
        Office.due("no act", x.has(9), 0);
        Office.due("no undo", x.undo(), false);
        Office.due("what is seen stays", x.has(8), 1);
        x.days(1);
        Office.due("kept anew", x.kept(0, 0), 5);
        Office.due("undo", x.undo(), true);
        Office.due("back to the image", x.has(3) * 100 + x.stock(1) * 10 + x.person(0, 3), 542);
    }

    /** "false, refused (5), when it is none ..., all staying". */
    private static void onAllStaying() {
        UnlikeLoaves x = Office.of("finest 2;person a due 1 of 1;have 9 by 1;");
        x.days(3);
        x.image();
        Office.due("day 1000", Office.on(x, Office.image(1000, new int[] {1, 1}, 1, 1)), false);
        Office.due("times 1000", Office.on(x, Office.image(1, new int[] {1, 1}, 1, 1000)), false);
        Office.due("status(5)", x.status(5), 2);
        Office.due("the tape goes", x.end(1), false);
        Office.due("day", x.has(3), 3);
        Office.due("loaves", x.stock(1), 6);
        Office.due("halves", x.stock(2), 0);
        Office.due("hunger", x.person(0, 2), 0);
        Office.due("times", x.person(0, 3), 3);
        Office.due("kept", x.has(7), 3);
        Office.due("acts", x.has(9), 1);
        Office.due("the image", x.octet(1), 3);
        Office.due("undo", x.undo(), true);
    }
}
