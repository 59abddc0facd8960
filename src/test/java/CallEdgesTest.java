/** Promises 1 to 10, 29 to 35 and 40: each limit that a call names, at its last value and at the first beyond it. */
public final class CallEdgesTest {
    private static final int MIN = Integer.MIN_VALUE;
    private static final int MAX = Integer.MAX_VALUE;
    private static final String LOAF = "person a due 1 of 1;";

    public static void main(String[] args) {
        aNewObject();
        tapeOf1600();
        bytesOfTheTape();
        endOfTheTape();
        officeIsRead();
        officeAnew();
        withoutAStatement();
        faultsOfTheLatest();
        hasOfOthers();
        hasOfKeptAndActs();
        letters();
        people();
        takenNow();
        stocks();
        kept();
        cutsFromTwo();
        cutsWithoutALoaf();
        cutsTo999();
        bakes();
        bakesTo999();
        servesAWriting();
        servesWhatIsInStock();
        servesNobody();
        hundredDays();
        daysTo999();
        hundredDaysByTheSeed();
        miceHadPieces();
        undoes();
        theSeedStays();
        seeds();
        refusals();
        statusOfOthers();
        callsOf512();
        Office.end();
    }

    /** "A new object: No office, no sizes." */
    private static void aNewObject() {
        UnlikeLoaves x = new UnlikeLoaves();
        int[] has = {0, 4, 0, 0, 0, 0, 0, 0, 0, 0};
        for (int what = 0; what < has.length; what++) {
            Office.due("has(" + what + ")", x.has(what), has[what]);
        }
        for (int n = -1; n <= 25; n++) {
            Office.due("stock", x.stock(n), -1);
            Office.due("left", x.left(n, 0), -1);
            Office.due("stocks", x.stocks(n), -1);
            Office.due("person", x.person(n, 0), -1);
            Office.due("letter", x.letter(n, 0), -1);
            Office.due("kept", x.kept(n, 0), -1);
            Office.due("later", x.later(n, 0), -1);
            Office.due("served", x.served(n), -1);
            Office.due("cuts", x.cuts(n), -1);
            Office.due("odds", x.odds(n), -1);
            Office.due("octet", x.octet(n), -1);
        }
        for (int what = 0; what <= 5; what++) {
            Office.due("nothing is refused", x.status(what), 0);
        }
    }

    /** "NONE, refused (0), if there would be more than 1600." */
    private static void tapeOf1600() {
        for (int rest = 0; rest < 20; rest++) {
            UnlikeLoaves x = new UnlikeLoaves();
            for (int i = 1; i <= 79; i++) {
                Office.due("feed", x.feed(0, 0, 0, 0, 0), 20 * i);
            }
            x.end(1580 - rest);
            Office.due("up to " + (1600 - rest), x.feed(0, 0, 0, 0, 0), 1600 - rest);
            Office.due("beyond", x.feed(0, 0, 0, 0, 0), -1);
            Office.due("refused", x.status(0), 1);
            Office.due("nothing has come", x.end(1601 - rest), false);
            Office.due("all is there", x.end(1600 - rest), true);
            x.end(1581);
            Office.due("1601", x.feed(0, 0, 0, 0, 0), -1);
        }
    }

    /** "Twenty bytes come behind those on the tape, of each number the highest first". */
    private static void bytesOfTheTape() {
        String text = "finest 9;most 2;person abcdef due 1 of 2;have 7 by 9;";
        for (int shift = 0; shift < 20; shift++) {
            Office.due("an office behind blanks", Office.open(new UnlikeLoaves(), " ".repeat(shift) + text), 4);
        }
        UnlikeLoaves x = Office.of("finest 2;");
        int[] image = Office.image(255, new int[] {511, 767});
        x.feed(image[0] << 24 | image[1] << 16 | image[2] << 8 | image[3], image[4] << 24 | image[5] << 16 | image[6] << 8, 0, 0, 0);
        x.end(7);
        Office.due("bytes from 128 on", x.on(), true);
        Office.due("day", x.has(3), 255);
        Office.due("loaves", x.stock(1), 511);
        Office.due("halves", x.stock(2), 767);
        x.feed(-1, -1, -1, -1, -1);
        Office.due("bytes of 255", x.ask(), Office.NOTHING);
        Office.due("at the first", x.fault(1), 0);
    }

    /** "The tape has its first n bytes alone ..; refused (0), if it has not so many, or n is below 0." */
    private static void endOfTheTape() {
        UnlikeLoaves x = new UnlikeLoaves();
        Office.due("0 of none", x.end(0), true);
        Office.due("1 of none", x.end(1), false);
        x.feed(0, 0, 0, 0, 0);
        for (int n : new int[] {21, 1600, -1, MIN, MAX}) {
            Office.due("end " + n, x.end(n), false);
        }
        Office.due("refused", x.status(0), 6);
        for (int n = 20; n >= 0; n--) {
            Office.due("end " + n, x.end(n), true);
            Office.due("beyond " + n, x.end(n + 1), false);
            Office.due("again " + n, x.end(n), true);
        }
        Office.due("refused", x.status(0), 27);
    }

    /** "The tape (it goes) is THE OFFICE: how many STATEMENTS". */
    private static void officeIsRead() {
        for (int n = 1; n <= 60; n++) {
            UnlikeLoaves x = new UnlikeLoaves();
            Office.due(n + " statements", Office.open(x, "finest 9;" + "bakes 1;".repeat(n - 1)), n);
            Office.due("the tape goes", x.end(1), false);
        }
        UnlikeLoaves x = Office.of("finest 9;");
        Office.due("a faulty one", Office.open(x, "finest 8"), -1);
        Office.due("the tape goes", x.end(1), false);
        Office.due("all stays", x.has(0), 9);
        String text = "finest 9;" + " ".repeat(1591);
        Office.due("1600 bytes", Office.open(x, text), 1);
        String long1600 = "finest 9;costs 1" + "+1".repeat(791) + ";";
        Office.due("1599 bytes", long1600.length(), 1599);
        Office.due("a long sum", Office.open(x, long1600), 2);
        Office.due("its price", x.cheapest(1, 1, 1), 792);
    }

    /** "Without one all is as at first": nothing of the office before is left. */
    private static void officeAnew() {
        String stock = "have 9 by 1;have 9 by 2;have 9 by 3;have 9 by 6;";
        UnlikeLoaves x = Office.of("finest 12;person a due 1 of 1;person b due 1 of 2;costs 3;bakes 9;mice 100;most 6;" + stock);
        x.days(3);
        x.bake(1);
        Office.see(x, 0, 0, 1);
        // The one writing of two loaves has a loaf, which nobody likes; a loaf's writing without it is not his.
        Office.open(x, "finest 6;person a due 2 of 1;" + stock + "likes size>1;");
        int[] has = {6, 4, 1, 0, 36, 0, 0, 0, 0, 0};
        for (int what = 0; what < has.length; what++) {
            Office.due("has(" + what + ")", x.has(what), has[what]);
        }
        Office.due("one writing", x.person(0, 4), 1);
        Office.due("none to be taken", x.person(0, 5), -1);
        Office.due("no day serves him", x.days(9), 0);
        Office.due("nothing baked, nothing gone", x.has(4), 36);
        Office.due("no second person", x.person(1, 0), -1);
        Office.due("costs", x.cheapest(1, 6, 1), 6);
        Office.due("all stocks", x.stocks(6), MAX);
    }

    /** "one without a STATEMENT has FAULT 1 at its length". */
    private static void withoutAStatement() {
        for (int length : new int[] {0, 1, 2, 19, 20, 21, 1600}) {
            Office.faulty(" ".repeat(length), 1, length);
            Office.faulty("\n".repeat(length), 1, length);
        }
        UnlikeLoaves x = Office.of("finest 9;");
        Office.due("none", Office.open(x, ""), -1);
        Office.due("the office stays", x.has(0), 9);
    }

    /** "Of the latest office() or ask(): its FAULT (what 0; 0 without, and ahead of any), its place (1; NONE without)". */
    private static void faultsOfTheLatest() {
        UnlikeLoaves x = new UnlikeLoaves();
        faults(x, 0, -1);
        Office.open(x, "finest 9;%");
        faults(x, 1, 9);
        Office.open(x, "finest 25");
        faults(x, 2, 7);
        Office.open(x, "finest 9;");
        faults(x, 0, -1);
        Office.ask(x, "often (((((((");
        faults(x, 4, 12);
        Office.see(x, 9, 9, 9);
        Office.on(x, 1, 2, 3);
        x.bake(0);
        faults(x, 4, 12);
        Office.open(x, "finest 9;costs 1;costs");
        faults(x, 5, 17);
        Office.ask(x, "often all");
        faults(x, 0, -1);
        Office.open(x, "finest 9;person a due 1 of 1;person a");
        faults(x, 3, 35 + 1);
    }

    private static void faults(UnlikeLoaves x, int kind, int place) {
        Office.due("fault(0)", x.fault(0), kind);
        Office.due("fault(1)", x.fault(1), place);
        for (int what : new int[] {-1, 2, MIN, MAX}) {
            Office.due("fault(" + what + ")", x.fault(what), -1);
        }
    }

    /** "NONE for others." */
    private static void hasOfOthers() {
        for (UnlikeLoaves x : new UnlikeLoaves[] {new UnlikeLoaves(), Office.of("finest 9;")}) {
            Office.due("has(9)", x.has(9), 0);
            for (int what : new int[] {-1, 10, MIN, MAX}) {
                Office.due("has(" + what + ")", x.has(what), -1);
            }
        }
    }

    /** "5 PEOPLE who hunger (for more than 0 DAYS), .. 7 what is told as KEPT, .. 9 ACTS that can be undone". */
    private static void hasOfKeptAndActs() {
        UnlikeLoaves x = Office.at("finest 2;" + LOAF + "person b due 1 of 1;person c due 1 of 1;",
            Office.image(3, new int[] {999, 999}, 0, 999, 1, 1, 99, 0));
        int[] has = {2, 4, 3, 3, 1998, 2, 1000, 0, 0, 0};
        for (int what = 0; what < has.length; what++) {
            Office.due("has(" + what + ")", x.has(what), has[what]);
        }
        x.days(14);
        Office.due("42 were kept", x.has(7), 40);
        Office.due("one act", x.has(9), 1);
        Office.due("nobody hungers", x.has(5), 0);
        Office.due("times", x.has(6), 999 + 15 + 14);
    }

    /** "Letter k (0 .. 5) of the NAME of a PERSON: 1 .. 26; 0 behind it; NONE when there is none such." */
    private static void letters() {
        UnlikeLoaves x = Office.of("finest 2;person z due 1 of 1;person azazaz due 1 of 1;person mno due 1 of 1;");
        int[][] want = {{26, 0, 0, 0, 0, 0}, {1, 26, 1, 26, 1, 26}, {13, 14, 15, 0, 0, 0}};
        for (int p = 0; p < 3; p++) {
            for (int k = 0; k < 6; k++) {
                Office.due("letter", x.letter(p, k), want[p][k]);
            }
            for (int k : new int[] {-1, 6, MIN, MAX}) {
                Office.due("letter " + k, x.letter(p, k), -1);
            }
        }
        for (int p : new int[] {3, -1, 6, MIN, MAX}) {
            Office.due("nobody " + p, x.letter(p, 0), -1);
        }
        for (char c = 'a'; c <= 'z'; c++) {
            Office.due("" + c, Office.of("finest 2;person " + c + " due 1 of 1;").letter(0, 0), c - 'a' + 1);
        }
    }

    /** "Of a PERSON: 0 .. 5 ..; NONE when there is none such, or for others." */
    private static void people() {
        UnlikeLoaves x = Office.at("finest 2;person a due 24 of 24;person b due 1 of 24;", Office.image(0, new int[] {1, 0}, 99, 999, 0, 0));
        int[][] want = {{24, 24, 99, 999, 1, 1}, {1, 24, 0, 0, 0, -1}};
        for (int p = 0; p < 2; p++) {
            for (int what = 0; what < 6; what++) {
                Office.due("person " + p + " " + what, x.person(p, what), want[p][what]);
            }
            for (int what : new int[] {-1, 6, MIN, MAX}) {
                Office.due("person " + p + " " + what, x.person(p, what), -1);
            }
        }
        for (int what = 0; what < 6; what++) {
            for (int p : new int[] {2, -1, 6, MIN, MAX}) {
                Office.due("nobody " + p, x.person(p, what), -1);
            }
        }
    }

    /** "5 the SET of the first of them that would be taken now (NONE: none; by stock and likes as they are)". */
    private static void takenNow() {
        UnlikeLoaves x = Office.of("finest 2;" + LOAF + "bakes 1;");
        Office.due("not those to be baked", x.person(0, 5), -1);
        x.bake(1);
        Office.due("a loaf", x.person(0, 5), 1);
        Office.open(x, "finest 2;" + LOAF + "person b due 1 of 1;have 1 by 1;");
        Office.due("each alone", x.person(0, 5) + x.person(1, 5), 2);
        Office.open(x, "finest 2;" + LOAF + "have 1 by 1;likes day=1;");
        Office.due("not on day 0", x.person(0, 5), -1);
        x.days(1);
        Office.due("on day 1", x.person(0, 5), 1);
        UnlikeLoaves y = Office.at("finest 2;" + LOAF + "likes hunger=99 and day=999 and stock=999;", Office.image(999, new int[] {999, 0}, 99, 0));
        Office.due("on day 999", y.person(0, 5), 1);
    }

    /** "How many pieces of a SIZE are in stock; NONE when there is none such." */
    private static void stocks() {
        for (int finest : new int[] {2, 9, 24}) {
            UnlikeLoaves x = Office.of("finest " + finest + ";have 99 by 1;have 98 by " + finest + ";");
            Office.due("loaves", x.stock(1), 99);
            Office.due("the finest", x.stock(finest), 98);
            for (int size : new int[] {0, finest + 1, -1, MIN, MAX}) {
                Office.due("size " + size, x.stock(size), -1);
            }
        }
    }

    /** "Of what is told as KEPT, the k-th from the oldest on ..; NONE when there is none such, or for others." */
    private static void kept() {
        UnlikeLoaves x = Office.of("finest 2;" + LOAF + "person b due 1 of 2;have 99 by 1;have 99 by 2;");
        Office.due("none yet", x.kept(0, 0), -1);
        x.days(30);
        int[] first = {10, 0, 1};
        int[] last = {29, 1, 2};
        for (int what = 0; what < 3; what++) {
            Office.due("the oldest told", x.kept(0, what), first[what]);
            Office.due("the latest", x.kept(39, what), last[what]);
            for (int k : new int[] {-1, 40, 41, MIN, MAX}) {
                Office.due("kept " + k, x.kept(k, what), -1);
            }
        }
        for (int what : new int[] {-1, 3, MIN, MAX}) {
            Office.due("what " + what, x.kept(0, what), -1);
        }
    }

    /** "A loaf is cut into n pieces (2 .. finest)"; "n can't be". */
    private static void cutsFromTwo() {
        for (int finest : new int[] {2, 9, 24}) {
            UnlikeLoaves x = Office.of("finest " + finest + ";have 99 by 1;");
            for (int n = 2; n <= finest; n++) {
                Office.due("cut " + n, x.cut(n), n);
                Office.due("loaves", x.stock(1), 100 - n);
            }
            int acts = x.has(9);
            for (int n : new int[] {1, 0, -1, finest + 1, 25, MIN, MAX}) {
                Office.due("cut " + n, x.cut(n), -1);
            }
            Office.due("refused", x.status(2), 7);
            Office.due("no act", x.has(9), acts);
            Office.due("no loaf is gone", x.stock(1), 100 - finest);
        }
    }

    /** "when there is no loaf". */
    private static void cutsWithoutALoaf() {
        UnlikeLoaves x = Office.of("finest 2;have 1 by 1;have 5 by 2;");
        Office.due("the last loaf", x.cut(2), 7);
        Office.due("none", x.cut(2), -1);
        Office.due("refused", x.status(2), 1);
        Office.due("halves stay", x.stock(2), 7);
        Office.due("without an office", new UnlikeLoaves().cut(2), -1);
    }

    /** "or there would be more than 999". */
    private static void cutsTo999() {
        for (int n = 2; n <= 24; n++) {
            int[] stock = new int[24];
            stock[0] = 9;
            stock[n - 1] = 999 - n;
            String text = "finest 24;";
            Office.due("just 999 of " + n, Office.at(text, Office.image(0, stock)).cut(n), 999);
            stock[n - 1]++;
            UnlikeLoaves x = Office.at(text, Office.image(0, stock));
            Office.due("more of " + n, x.cut(n), -1);
            Office.due("refused", x.status(2), 1);
            Office.due("no loaf is gone", x.stock(1), 9);
            Office.due("no piece has come", x.stock(n), 1000 - n);
        }
    }

    /** "n loaves (1 .. 99) are baked ..; NONE, refused (2), when n can't be, .. or without an office." */
    private static void bakes() {
        UnlikeLoaves x = Office.of("finest 2;");
        Office.due("bake 1", x.bake(1), 1);
        Office.due("bake 99", x.bake(99), 100);
        for (int n : new int[] {0, -1, 100, MIN, MAX}) {
            Office.due("bake " + n, x.bake(n), -1);
        }
        Office.due("refused", x.status(2), 5);
        Office.due("acts", x.has(9), 2);
        UnlikeLoaves none = new UnlikeLoaves();
        Office.due("without an office", none.bake(1), -1);
        Office.due("refused", none.status(2), 1);
    }

    /** "there would be more than 999". */
    private static void bakesTo999() {
        for (int n : new int[] {1, 2, 50, 99}) {
            UnlikeLoaves x = Office.at("finest 2;", Office.image(0, new int[] {999 - n, 999}));
            Office.due("one too many", x.bake(n + 1), -1);
            Office.due("just 999", x.bake(n), 999);
            Office.due("one more", x.bake(1), -1);
            Office.due("loaves", x.stock(1), 999);
            Office.due("refused", x.status(2), 2);
        }
    }

    /** "A PERSON is SERVED by a WRITING of his due ..; refused (2), when the SET is none such". */
    private static void servesAWriting() {
        UnlikeLoaves x = Office.at("finest 12;most 2;person a due 1 of 2;likes 1=2;", Office.image(0, new int[] {9, 9, 9, 9, 9, 9, 9, 9, 9, 9, 9, 9}, 7, 0));
        int[] none = {0, 1, Office.set(3), Office.set(2, 3), Office.set(4, 6, 12), Office.set(3, 6) | 1 << 12, Office.set(2) | 1 << 31, -1, MIN, MAX};
        for (int set : none) {
            Office.due("set " + set, x.serve(0, set), false);
        }
        Office.due("refused", x.status(2), none.length);
        Office.due("he hungers yet", x.person(0, 2), 7);
        Office.due("the first writing", x.serve(0, Office.set(2)), true);
        Office.due("he hungers no more", x.person(0, 2), 0);
        Office.due("the last writing", x.serve(0, Office.set(3, 6)), true);
        Office.due("no more refused", x.status(2), none.length);
        Office.due("acts", x.has(9), 2);
    }

    /** "not all of it is in stock". */
    private static void servesWhatIsInStock() {
        for (int lost : new int[] {0, 4, 6, 12}) {
            int[] stock = {9, 9, 9, 1, 9, 1, 9, 9, 9, 9, 9, 1};
            if (lost > 0) {
                stock[lost - 1] = 0;
            }
            UnlikeLoaves x = Office.at("finest 12;person a due 1 of 2;bakes 9;", Office.image(0, stock, 0, 0));
            Office.due("without size " + lost, x.serve(0, Office.set(4, 6, 12)), lost == 0);
            Office.due("refused", x.status(2), lost == 0 ? 0 : 1);
            Office.due("acts", x.has(9), lost == 0 ? 1 : 0);
            Office.due("pieces", x.stock(4) + x.stock(6) + x.stock(12), lost == 0 ? 0 : 2);
            Office.due("not twice", x.serve(0, Office.set(4, 6, 12)), false);
        }
    }

    /** "or there is none such": the PERSON. */
    private static void servesNobody() {
        UnlikeLoaves x = Office.of("finest 2;" + LOAF + "person b due 1 of 1;have 9 by 1;");
        for (int person : new int[] {2, -1, 6, MIN, MAX}) {
            Office.due("person " + person, x.serve(person, 1), false);
        }
        Office.due("refused", x.status(2), 5);
        Office.due("the last person", x.serve(1, 1), true);
        UnlikeLoaves none = new UnlikeLoaves();
        Office.due("without an office", none.serve(0, 1), false);
        Office.due("refused", none.status(2), 1);
    }

    /** "n DAYS (1 .. 100): how many were SERVED (each time counts)". */
    private static void hundredDays() {
        UnlikeLoaves x = Office.of("finest 2;" + LOAF + "person b due 1 of 1;bakes 2;");
        Office.due("a day", x.days(1), 2);
        Office.due("a hundred days", x.days(100), 200);
        for (int n : new int[] {0, -1, 101, MIN, MAX}) {
            Office.due("days " + n, x.days(n), -1);
        }
        Office.due("refused", x.status(3), 5);
        Office.due("day", x.has(3), 101);
        Office.due("acts", x.has(9), 2);
        UnlikeLoaves none = new UnlikeLoaves();
        Office.due("without an office", none.days(1), -1);
        Office.due("refused", none.status(3), 1);
    }

    /** "(beyond DAY 999)". */
    private static void daysTo999() {
        for (int n : new int[] {1, 2, 50, 99, 100}) {
            UnlikeLoaves x = Office.at("finest 2;", Office.image(999 - n, new int[] {0, 0}));
            if (n < 100) {
                Office.due("beyond", x.days(n + 1), -1);
                Office.due("beyond by the seed", x.chance(n + 1), -1);
                Office.due("refused", x.status(3), 2);
            }
            Office.due("to 999", x.days(n), 0);
            Office.due("day", x.has(3), 999);
            x.undo();
            Office.due("to 999 by the seed", x.chance(n), 0);
            Office.due("day", x.has(3), 999);
        }
    }

    /** "n DAYS by the seed (1 .. 100), one ACT ..; NONE, refused (3), when it can't be, or without an office." */
    private static void hundredDaysByTheSeed() {
        UnlikeLoaves x = Office.of("finest 2;mice 100;have 99 by 1;have 99 by 2;");
        Office.due("a day", x.chance(1), 1);
        Office.due("one act", x.has(9), 1);
        Office.due("a hundred days", x.chance(100), 100);
        Office.due("one act more", x.has(9), 2);
        for (int n : new int[] {0, -1, 101, MIN, MAX}) {
            Office.due("chance " + n, x.chance(n), -1);
        }
        Office.due("refused", x.status(3), 5);
        Office.due("day", x.has(3), 101);
        x.undo();
        Office.due("undone at once", x.has(3), 1);
        UnlikeLoaves none = new UnlikeLoaves();
        Office.due("without an office", none.chance(1), -1);
        Office.due("refused", none.status(3), 1);
    }

    /** "how many pieces the mice had". */
    private static void miceHadPieces() {
        UnlikeLoaves x = Office.of("finest 2;mice 100;have 3 by 1;");
        Office.due("all three loaves", x.chance(60), 3);
        Office.due("nothing is left", x.has(4), 0);
        Office.due("no more", x.chance(60), 0);
        UnlikeLoaves y = Office.of("finest 2;mice 0;have 3 by 1;");
        Office.due("none", y.chance(100), 0);
    }

    /** "The latest ACT is undone (the seed stays): true; false, refused (4), when none can be." */
    private static void undoes() {
        UnlikeLoaves x = new UnlikeLoaves();
        Office.due("without an office", x.undo(), false);
        Office.open(x, "finest 2;have 9 by 1;");
        Office.due("no act", x.undo(), false);
        x.bake(1);
        Office.due("one act", x.undo(), true);
        Office.due("no act", x.undo(), false);
        x.bake(1);
        Office.open(x, "finest 2;have 9 by 1;");
        Office.due("an office has none", x.undo(), false);
        Office.due("refused", x.status(4), 4);
        x.bake(1);
        Office.open(x, "finest");
        Office.due("a faulty one leaves it", x.undo(), true);
        Office.due("refused", x.status(4), 4);
        Office.due("loaves", x.stock(1), 9);
    }

    /** "(the seed stays)". */
    private static void theSeedStays() {
        String text = "finest 24;mice 100;have 9 by 1;have 9 by 2;have 9 by 3;have 9 by 4;have 9 by 5;have 9 by 6;";
        UnlikeLoaves x = Office.of(text);
        UnlikeLoaves y = Office.of(text);
        x.chance(5);
        y.chance(5);
        x.undo();
        Office.open(y, text);
        Office.due("the stock again", x.has(4), 54);
        for (int i = 0; i < 20; i++) {
            Office.due("the same draws", x.chance(1), y.chance(1));
        }
        UnlikeLoaves z = Office.of(text);
        z.chance(5);
        Office.on(z, Office.image(0, new int[24]));
        Office.open(z, text);
        z.chance(20);
        for (int n = 1; n <= 24; n++) {
            Office.due("stock " + n, x.stock(n), z.stock(n));
        }
    }

    /** "true; false, refused (5), when it is below 0. (It is 1 at first.)" */
    private static void seeds() {
        UnlikeLoaves x = new UnlikeLoaves();
        Office.due("0", x.seed(0), true);
        Office.due("the greatest", x.seed(MAX), true);
        Office.due("-1", x.seed(-1), false);
        Office.due("the least", x.seed(MIN), false);
        Office.due("refused", x.status(5), 2);
        String text = "finest 24;mice 100;have 9 by 1;have 9 by 2;have 9 by 3;have 9 by 4;have 9 by 5;have 9 by 6;";
        UnlikeLoaves first = Office.of(text);
        UnlikeLoaves one = Office.of(text);
        one.seed(1);
        one.seed(-7);
        UnlikeLoaves two = Office.of(text);
        two.seed(2);
        boolean unlike = false;
        for (int i = 0; i < 30; i++) {
            int had = one.chance(1);
            Office.due("1 at first", first.chance(1), had);
            unlike |= two.chance(1) != had;
        }
        Office.due("2 is another", unlike, true);
    }

    /** "How many were refused: 0 feed(), end(); 1 office(), see(); 2 cut(), bake(), serve(); 3 days(), chance(); 4 undo(); 5 seed(), on()." */
    private static void refusals() {
        UnlikeLoaves x = new UnlikeLoaves();
        int[] want = new int[6];
        for (int i = 0; i < 12; i++) {
            int kind = refuse(x, i);
            want[kind]++;
            for (int what = 0; what < 6; what++) {
                Office.due("status(" + what + ") behind " + i, x.status(what), want[what]);
            }
        }
        x.ask();
        x.cheapest(0, 0, 0);
        x.cuts(9);
        x.octet(-1);
        x.has(-1);
        Office.open(x, "finest 9;");
        Office.on(x, Office.image(0, new int[9]));
        for (int what = 0; what < 6; what++) {
            Office.due("status(" + what + ") stays", x.status(what), want[what]);
        }
    }

    private static int refuse(UnlikeLoaves x, int i) {
        switch (i) {
            case 0:
                for (int k = 0; k < 80; k++) {
                    x.feed(0, 0, 0, 0, 0);
                }
                x.feed(0, 0, 0, 0, 0);
                return 0;
            case 1:
                x.end(-1);
                return 0;
            case 2:
                x.office();
                return 1;
            case 3:
                x.see();
                return 1;
            case 4:
                x.cut(2);
                return 2;
            case 5:
                x.bake(1);
                return 2;
            case 6:
                x.serve(0, 1);
                return 2;
            case 7:
                x.days(1);
                return 3;
            case 8:
                x.chance(1);
                return 3;
            case 9:
                x.undo();
                return 4;
            case 10:
                x.seed(-1);
                return 5;
            default:
                x.on();
                return 5;
        }
    }

    /** "NONE for others." */
    private static void statusOfOthers() {
        UnlikeLoaves x = new UnlikeLoaves();
        x.seed(-1);
        Office.due("status(5)", x.status(5), 1);
        for (int what : new int[] {-1, 6, MIN, MAX}) {
            Office.due("status(" + what + ")", x.status(what), -1);
        }
    }

    /** "An object is used for at most 512 calls after it has been made". */
    private static void callsOf512() {
        UnlikeLoaves x = new UnlikeLoaves();
        for (int i = 1; i <= 511; i++) {
            x.end(-1);
        }
        Office.due("the 512th call", x.status(0), 511);
    }
}
