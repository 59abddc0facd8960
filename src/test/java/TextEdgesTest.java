/** Part I of the document: each limit of an office as a text, at its last value and at the first beyond it. */
public final class TextEdgesTest {
    private static final String NINE = "finest 9;";
    private static final String DUE = " due 1 of 1;";
    private static final String[] OWN_WORDS = ("finest most person due of have by bakes costs likes mice size stock place day"
        + " hunger number top bottom ways had fits or and not all min max").split(" ");

    public static void main(String[] args) {
        sixtyStatements();
        finestIsFirst();
        finestIsAlone();
        finest();
        most();
        dues();
        sixPeople();
        pieces();
        sizesToHave();
        aSizeOnce();
        bakes();
        mice();
        costsOnce();
        likesOnce();
        digits();
        quotients();
        heldAbove();
        heldBelow();
        fromTheLeft();
        places();
        partsOfCosts();
        partsOfLikes();
        withoutCostsAndLikes();
        namesOfSixLetters();
        namesAreNoOwnWords();
        namesAreUnlike();
        blanks();
        blanksThatAreNeeded();
        wordsAndNumbersWhole();
        eachLetterOfAWord();
        tooSoon();
        sixOpen();
        notUntilItsFactEnds();
        closedOnesDoNotCount();
        theFirstAlongTheText();
        Office.end();
    }

    private static void stands(String text, int statements) {
        Office.stands(text, statements);
    }

    private static void faulty(String text, int fault, int place) {
        Office.faulty(text, fault, place);
    }

    /** What a ninth costs, which has no other writing than the one of SIZE 9. */
    private static long price(String costs) {
        return Office.of(NINE + "have 7 by 9;costs " + costs + ";").cheapest(1, 9, 1);
    }

    private static void price(String costs, long want) {
        Office.due("price by " + costs, price(costs), want);
    }

    /** "{ STATEMENT ; } (60 at most)"; "5 .. a 61st STATEMENT (whatever stands there), at its first byte". */
    private static void sixtyStatements() {
        String sixty = NINE + "most 3;".repeat(59);
        stands(sixty, 60);
        stands(sixty + " \n ", 60);
        String[] there = {"most 3;", "most", "m", ";", "7", "12345", "%", "" + (char) 255, "finest 9;", "person of", "costs 1;", "abcdefg"};
        for (String more : there) {
            faulty(sixty + more, 5, sixty.length());
            faulty(sixty + " \n" + more, 5, sixty.length() + 2);
        }
        String last = NINE + "most 3;".repeat(58);
        stands(last + "costs 1;", 60);
        faulty(last + "%", 1, last.length());
        faulty(last + "most 7;", 2, last.length() + 5);
        faulty(last + "most 3", 1, last.length() + 6);
    }

    /** "finest N (.. the first STATEMENT ..)". */
    private static void finestIsFirst() {
        String[] others = {"most 3;", "person a due 1 of 1;", "have 1 by 1;", "bakes 1;", "costs 1;", "likes all;", "mice 1;", ";"};
        for (String other : others) {
            faulty(other, 1, 0);
            faulty(" " + other + NINE, 1, 1);
        }
    }

    /** "finest N (.. and it alone)". */
    private static void finestIsAlone() {
        stands(NINE, 1);
        faulty(NINE + NINE, 1, 9);
        faulty(NINE + "most 3; finest 8;", 1, 17);
        faulty(NINE + "finest 99", 1, 9);
    }

    /** "finest N (2 .. 24; ..)". */
    private static void finest() {
        for (int n = 2; n <= 24; n++) {
            Office.due("finest " + n, Office.stands("finest " + n + ";", 1).has(0), n);
        }
        for (String n : "0 1 25 26 99 256 9999".split(" ")) {
            faulty("finest " + n + ";", 2, 7);
        }
    }

    /** "most N (1 .. 6; the last one counts, 4 without)". */
    private static void most() {
        for (int n = 1; n <= 6; n++) {
            Office.due("most " + n, Office.stands(NINE + "most " + n + ";", 2).has(1), n);
            Office.due("the last most", Office.stands(NINE + "most " + (7 - n) + ";most " + n + ";", 3).has(1), n);
        }
        faulty(NINE + "most 0;", 2, 14);
        faulty(NINE + "most 7;", 2, 14);
        faulty(NINE + "most 3;most 7;", 2, 21);
        Office.due("without most", Office.stands(NINE, 1).has(1), 4);
        UnlikeLoaves x = Office.of(NINE + "most 6;");
        Office.open(x, NINE);
        Office.due("without most, anew", x.has(1), 4);
    }

    /** "person NAME due N of N (1 .. 24 each; ..)". */
    private static void dues() {
        int[][] good = {{1, 1}, {24, 24}, {1, 24}, {24, 1}};
        for (int[] due : good) {
            UnlikeLoaves x = Office.stands(NINE + "person a due " + due[0] + " of " + due[1] + ";", 2);
            Office.due("the number above", x.person(0, 0), due[0]);
            Office.due("the number below", x.person(0, 1), due[1]);
        }
        for (String n : "0 25 9999".split(" ")) {
            faulty(NINE + "person a due " + n + " of 1;", 2, 22);
            faulty(NINE + "person a due 1 of " + n + ";", 2, 27);
            faulty(NINE + "person a due " + n + " of " + n + ";", 2, 22);
        }
    }

    /** "6 PEOPLE"; "5 one too many of a kind .., at its first byte". */
    private static void sixPeople() {
        StringBuilder text = new StringBuilder(NINE);
        for (int p = 0; p < 6; p++) {
            text.append("person ").append((char) ('a' + p)).append(DUE);
            Office.due("people", Office.stands(text.toString(), p + 2).has(2), p + 1);
        }
        faulty(text + "person g" + DUE, 5, text.length());
        faulty(text + " person a" + DUE, 5, text.length() + 1);
        faulty(text + "person", 5, text.length());
        faulty(text + "most 3;person %", 5, text.length() + 7);
        faulty(text + "perso", 1, text.length());
    }

    /** "have N by N (1 .. 99 pieces; ..)". */
    private static void pieces() {
        Office.due("1 piece", Office.stands(NINE + "have 1 by 9;", 2).stock(9), 1);
        Office.due("99 pieces", Office.stands(NINE + "have 99 by 9;", 2).stock(9), 99);
        faulty(NINE + "have 0 by 9;", 2, 14);
        faulty(NINE + "have 100 by 9;", 2, 14);
    }

    /** "have N by N (.. a SIZE ..)": of 1 to finest; "2 a number that can't be, at it". */
    private static void sizesToHave() {
        Office.due("a loaf", Office.stands(NINE + "have 3 by 1;", 2).stock(1), 3);
        Office.due("the finest", Office.stands(NINE + "have 3 by 9;", 2).stock(9), 3);
        Office.due("the finest of all", Office.stands("finest 24;have 3 by 24;", 2).stock(24), 3);
        faulty(NINE + "have 3 by 0;", 2, 19);
        faulty(NINE + "have 3 by 10;", 2, 19);
        faulty(NINE + "have 3 by 9999;", 2, 19);
        faulty("finest 24;have 3 by 25;", 2, 20);
        faulty("finest 2;have 3 by 3;", 2, 19);
    }

    /** "a SIZE that is not told already". */
    private static void aSizeOnce() {
        StringBuilder all = new StringBuilder("finest 24;");
        for (int n = 1; n <= 24; n++) {
            all.append("have 1 by ").append(n).append(';');
        }
        Office.due("all sizes", Office.stands(all.toString(), 25).has(4), 24);
        faulty(all + "have 1 by 1;", 2, all.length() + 10);
        faulty(all + "have 1 by 24;", 2, all.length() + 10);
        faulty(NINE + "have 1 by 2;have 1 by 002;", 2, 31);
        UnlikeLoaves x = Office.of(NINE + "have 1 by 2;");
        Office.due("told in another office", Office.open(x, NINE + "have 5 by 2;"), 2);
        Office.open(x, NINE + "have 5 by 3;have");
        Office.due("told in a faulty one", Office.open(x, NINE + "have 6 by 3;"), 2);
    }

    private static int baked(String text) {
        UnlikeLoaves x = Office.of(NINE + text);
        x.days(1);
        return x.stock(1);
    }

    /** "bakes N (0 .. 9; the last one counts, 0 without)". */
    private static void bakes() {
        for (int n = 0; n <= 9; n++) {
            Office.due("bakes " + n, baked("bakes " + n + ";"), n);
            Office.due("the last bakes", baked("bakes " + (9 - n) + ";bakes " + n + ";"), n);
        }
        faulty(NINE + "bakes 10;", 2, 15);
        faulty(NINE + "bakes 0;bakes 10;", 2, 23);
        Office.due("without bakes", baked(""), 0);
        UnlikeLoaves x = Office.of(NINE + "bakes 9;");
        Office.open(x, NINE);
        x.days(1);
        Office.due("without bakes, anew", x.stock(1), 0);
    }

    /** A loaf is due, one is there: each number below mice takes it in one row of two. */
    private static int oddsOf(String text) {
        return Office.of("finest 2;person a due 1 of 1;have 1 by 1;" + text).odds(0);
    }

    /** "mice N (0 .. 100; the last one counts, 0 without)". */
    private static void mice() {
        for (int n = 0; n <= 100; n++) {
            Office.due("mice " + n, oddsOf("mice " + n + ";"), 200 - n);
        }
        Office.due("the last mice", oddsOf("mice 0;mice 100;"), 100);
        Office.due("the last mice", oddsOf("mice 100;mice 0;"), 200);
        faulty(NINE + "mice 101;", 2, 14);
        faulty(NINE + "mice 9999;", 2, 14);
        Office.due("without mice", oddsOf(""), 200);
        UnlikeLoaves x = Office.of(NINE + "mice 100;have 9 by 1;");
        Office.open(x, "finest 2;have 9 by 1;have 9 by 2;");
        Office.due("without mice, anew", x.chance(9), 0);
    }

    /** "costs SUM .. (one each)"; "5 .. (a second costs .., too)". */
    private static void costsOnce() {
        stands(NINE + "costs 1;", 2);
        faulty(NINE + "costs 1;costs 1;", 5, 17);
        faulty(NINE + "costs 1;most 3; costs", 5, 25);
        faulty(NINE + "costs 1;costs %", 5, 17);
        UnlikeLoaves x = Office.of(NINE + "costs 1;");
        Office.due("costs of another office", Office.open(x, NINE + "costs 2;"), 2);
    }

    /** "likes TEST (one each)"; "5 .. (a second .. likes, too)". */
    private static void likesOnce() {
        stands(NINE + "likes all;", 2);
        stands(NINE + "likes all;costs 1;", 3);
        faulty(NINE + "likes all;likes all;", 5, 19);
        faulty(NINE + "likes all;costs 1; likes", 5, 28);
        faulty(NINE + "likes all;likes %", 5, 19);
        UnlikeLoaves x = Office.of(NINE + "likes all;");
        Office.due("likes of another office", Office.open(x, NINE + "likes all;"), 2);
    }

    /** "N (1 to 4 digits)"; "where a number is asked, a 5th digit at itself". */
    private static void digits() {
        price("9999", 9999);
        price("0009", 9);
        price("0000", 0);
        price("7", 7);
        faulty(NINE + "costs 10000;", 1, 19);
        faulty(NINE + "costs 00001;", 1, 19);
        faulty(NINE + "costs 1+123456;", 1, 21);
        faulty(NINE + "likes 1=12345;", 1, 21);
        faulty(NINE + "likes 12345", 1, 19);
        stands("finest 0024;", 1);
        faulty("finest 00024;", 1, 11);
        faulty("finest 99999;", 1, 11);
        stands(NINE + "have 0099 by 0009;", 2);
        faulty(NINE + "have 00099 by 9;", 1, 18);
        faulty(NINE + "have 99 by 00009;", 1, 24);
        faulty(NINE + "person a due 00001 of 1;", 1, 26);
        faulty(NINE + "person a due 1 of 00001;", 1, 31);
        faulty(NINE + "most 00001;", 1, 18);
        faulty(NINE + "bakes 00001;", 1, 19);
        faulty(NINE + "mice 00001;", 1, 18);
        // Where none is asked, it is whole.
        faulty(NINE + "12345", 1, 9);
        faulty(NINE + "costs 1 12345;", 1, 17);
        faulty(NINE + "person 12345", 1, 16);
    }

    /** "/ gives the greatest whole number not above, by 0 it gives 0". */
    private static void quotients() {
        price("8/4", 2);
        price("7/4", 1);
        price("0/4", 0);
        price("(0-7)/4", -2);
        price("(0-8)/4", -2);
        price("7/(0-4)", -2);
        price("(0-7)/(0-4)", 1);
        price("(0-1)/9999", -1);
        price("1/9999", 0);
        price("7/1", 7);
        price("7/0", 0);
        price("(0-7)/0", 0);
        price("0/0", 0);
        price("5+7/(3-3)", 5);
    }

    /** "each sum, difference, product above 10 to the 6 is that". */
    private static void heldAbove() {
        price("999*1001", 999999);
        price("999*1001+1", 1000000);
        price("1000*1000", 1000000);
        price("1000*1000+0", 1000000);
        price("1000*1000-0", 1000000);
        price("1000*1000*1", 1000000);
        price("1000*1000+1", 1000000);
        price("1000*1000+1-1", 999999);
        price("1000*1000-(0-1)-1", 999999);
        price("1000*1001-1", 999999);
        price("(0-1000)*(0-1001)-1", 999999);
        price("1000*1000*1000*1000-1", 999999);
        price("1000*1000+1000*1000-1", 999999);
        price("1000*1000/1", 1000000);
    }

    /** "below -10 to the 6 likewise". */
    private static void heldBelow() {
        price("0-999*1001", -999999);
        price("0-999*1001-1", -1000000);
        price("0-1000*1000", -1000000);
        price("(0-1000)*1000", -1000000);
        price("0-1000*1000-1", -1000000);
        price("0-1000*1000-1+1", -999999);
        price("(0-1000)*1001+1", -999999);
        price("1000*(0-1001)+1", -999999);
        price("0-1000*1000+(0-1)+1", -999999);
        price("0-1000*1000-1000*1000+1", -999999);
        price("(0-1000*1000)/1", -1000000);
        price("(0-1000*1000)/(0-1)", 1000000);
    }

    /** "All from the left on", but a PRODUCT ahead of a SUM. */
    private static void fromTheLeft() {
        price("10-3-2", 5);
        price("10-3+2", 9);
        price("100/10/5", 2);
        price("7/4*4", 4);
        price("4*7/4", 7);
        price("2+3*4", 14);
        price("(2+3)*4", 20);
        price("20-6/2", 17);
        price("min(3,4)", 3);
        price("min(4,3)", 3);
        price("max(3,4)", 4);
        price("max(4,3)", 4);
        price("min(3,3)+max(3,3)", 6);
    }

    /** "its number in the WRITING, by rising SIZES, from 0 on". */
    private static void places() {
        price("place", 0);
        // 1/2 + 1/3 is the only writing of 5/6 here, that of all six parts the only one of 49/20.
        Office.due("two places", Office.of("finest 3;costs place;").cheapest(5, 6, 1), 1);
        Office.due("the second place", Office.of("finest 3;costs place*size;").cheapest(5, 6, 1), 3);
        Office.due("six places", Office.of("finest 6;most 6;costs place;").cheapest(49, 20, 1), 15);
        Office.due("squares of places", Office.of("finest 6;most 6;costs place*place;").cheapest(49, 20, 1), 55);
    }

    /** "PART: .. size; stock; day; .. in costs: place". */
    private static void partsOfCosts() {
        price("size", 9);
        price("stock", 7);
        price("day", 0);
        for (String word : "hunger number top bottom ways had fits all finest x".split(" ")) {
            faulty(NINE + "costs " + word + ";", 1, 15);
        }
    }

    /** "PART: .. size; stock; day; .. in likes: hunger". */
    private static void partsOfLikes() {
        for (String word : "size stock day hunger".split(" ")) {
            stands(NINE + "likes " + word + "=1;", 2);
        }
        for (String word : "place number top bottom ways had fits finest x".split(" ")) {
            faulty(NINE + "likes " + word + "=1;", 1, 15);
        }
    }

    /** "Without: costs is size, likes is all." */
    private static void withoutCostsAndLikes() {
        UnlikeLoaves x = Office.of(NINE + "person a due 1 of 9;have 1 by 9;costs 5;likes 1=2;");
        Office.due("with costs", x.cheapest(1, 9, 1), 5);
        Office.due("with likes", x.person(0, 5), -1);
        Office.open(x, NINE + "person a due 1 of 9;have 1 by 9;");
        Office.due("without costs", x.cheapest(1, 9, 1), 9);
        Office.due("without likes", x.person(0, 5), Office.set(9));
    }

    /** "NAMES: 1 to 6 letters"; "where a NAME is asked, .. a 7th letter at itself". */
    private static void namesOfSixLetters() {
        UnlikeLoaves x = Office.stands(NINE + "person a" + DUE + "person abcxyz" + DUE, 3);
        Office.due("one letter", x.letter(0, 0), 1);
        Office.due("none behind it", x.letter(0, 1), 0);
        Office.due("the first letter", x.letter(1, 0), 1);
        Office.due("the sixth letter", x.letter(1, 5), 26);
        faulty(NINE + "person abcxyzz" + DUE, 1, 22);
        faulty(NINE + "person abcxyzzz" + DUE, 1, 22);
        faulty(NINE + "person finestx" + DUE, 1, 22);
        faulty(NINE + "person " + DUE, 1, 17);
        faulty(NINE + "person;", 1, 15);
        faulty(NINE + "person 1" + DUE, 1, 16);
        faulty(NINE + "person A" + DUE, 1, 16);
        faulty(NINE + "person aB" + DUE, 1, 17);
        faulty(NINE + "person `" + DUE, 1, 16);
        faulty(NINE + "person {" + DUE, 1, 16);
        faulty(NINE + "person " + (char) 228 + DUE, 1, 16);
    }

    /** "NAMES: .. no OWN WORD"; "where a NAME is asked, an OWN WORD so" (whole, at its first byte). */
    private static void namesAreNoOwnWords() {
        for (String word : OWN_WORDS) {
            faulty(NINE + "person " + word + DUE, 1, 16);
            faulty(NINE + "person " + word, 1, 16);
            String shorter = word.substring(0, word.length() - 1);
            stands(NINE + "person " + shorter + DUE, 2);
            if (word.length() < 6) {
                stands(NINE + "person " + word + "x" + DUE, 2);
                stands(NINE + "person x" + word + DUE, 2);
            }
        }
        for (String word : "first last often total least".split(" ")) {
            stands(NINE + "person " + word + DUE, 2);
        }
    }

    /** "NAMES: .. unlike ones"; "3 a NAME that is there already, at it". */
    private static void namesAreUnlike() {
        stands(NINE + "person a" + DUE + "person aa" + DUE + "person b" + DUE + "person ab" + DUE + "person ba" + DUE, 6);
        faulty(NINE + "person a" + DUE + "person a" + DUE, 3, 36);
        faulty(NINE + "person abcdef" + DUE + "person b" + DUE + "person abcdef", 3, 70 - 9);
        stands(NINE + "person abcdef" + DUE + "person abcdeg" + DUE + "person bbcdef" + DUE, 4);
        UnlikeLoaves x = Office.of(NINE + "person a" + DUE);
        Office.due("a name of another office", Office.open(x, NINE + "person a" + DUE), 2);
    }

    /** "Blanks (10, 32) are where one likes". */
    private static void blanks() {
        String text = "finest~9~;~most~3~;~person~ab~due~1~of~2~;~have~3~by~2~;~costs~min~(~size~,~2~)~*~3~-~(~1~/~2~)~;"
            + "~likes~not~[~stock~>~1~or~all~]~and~hunger~=~0~;~mice~5~;";
        stands(text.replace("~", " "), 7);
        stands(text.replace("~", "\n"), 7);
        stands("\n " + text.replace("~", " \n\n  ") + " \n", 7);
        for (char other : new char[] {9, 11, 13, 0, 31, 33, 127, 160, 255}) {
            faulty(other + NINE, 1, 0);
            faulty("finest" + other + "9;", 1, 6);
            faulty("finest 9" + other + ";", 1, 8);
            faulty(NINE + other, 1, 9);
        }
        for (char other : "/:@[`{".toCharArray()) {
            faulty("finest " + other + ";", 1, 7);
            faulty("finest 9" + other + ";", 1, 8);
            faulty("finest" + other + " 9;", 1, 6);
        }
        faulty("fin est 9;", 1, 0);
        faulty("finest 1 2;", 2, 7);
        faulty("finest 9 2;", 1, 9);
        faulty(NINE + "person a b" + DUE, 1, 18);
    }

    /** "(words and numbers side by side need one)". */
    private static void blanksThatAreNeeded() {
        faulty("finest9;", 1, 6);
        faulty(NINE + "most3;", 1, 13);
        faulty(NINE + "bakes3;", 1, 14);
        faulty(NINE + "mice3;", 1, 13);
        faulty(NINE + "have3 by 2;", 1, 13);
        faulty(NINE + "have 3by 2;", 1, 15);
        faulty(NINE + "have 3 by2;", 1, 18);
        faulty(NINE + "person a due1 of 2;", 1, 21);
        faulty(NINE + "person a due 1of 2;", 1, 23);
        faulty(NINE + "person a due 1 of2;", 1, 26);
        faulty(NINE + "costs1;", 1, 14);
        faulty(NINE + "likes1=1;", 1, 14);
        faulty(NINE + "likes not1=1;", 1, 18);
        faulty(NINE + "likes 1=1or all;", 1, 18);
        faulty(NINE + "likes 1=1and all;", 1, 18);
        faulty(NINE + "likes all and1=1;", 1, 22);
        faulty(NINE + "likes all or1=1;", 1, 21);
        stands(NINE + "likes not(1)=(1)and[all]or[all]and not[all];", 2);
        stands(NINE + "costs min(1,size)*max(size,2)-size/2;", 2);
    }

    /** "1 the first byte with which no such text goes on (words and numbers whole, at their first byte; ..)". */
    private static void wordsAndNumbersWhole() {
        faulty("finesta 9;", 1, 0);
        faulty("finer 9;", 1, 0);
        faulty("fines", 1, 0);
        faulty("f", 1, 0);
        faulty(NINE + "mostly 3;", 1, 9);
        faulty(NINE + "mos 3;", 1, 9);
        faulty(NINE + "person a dues 1 of 2;", 1, 18);
        faulty(NINE + "person a du", 1, 18);
        faulty(NINE + "person a due 1 off 2;", 1, 24);
        faulty(NINE + "have 3 bye 2;", 1, 16);
        faulty(NINE + "have 3 b", 1, 16);
        faulty(NINE + "likes alls;", 1, 15);
        faulty(NINE + "likes all ord all;", 1, 19);
        faulty(NINE + "likes all an", 1, 19);
        faulty(NINE + "likes nots all;", 1, 15);
        faulty(NINE + "costs sizes;", 1, 15);
        faulty(NINE + "costs mina(1,2);", 1, 15);
        faulty("finest nine;", 1, 7);
        faulty("finest 9 10;", 1, 9);
        faulty(NINE + "costs 1+2 34;", 1, 19);
    }

    /** "1 the first byte with which no such text goes on (words .. whole, at their first byte; ..)". */
    private static void eachLetterOfAWord() {
        String text = NINE + "most 3;person p due 1 of 2;have 3 by 2;bakes 1;costs size+stock+day+place+min(1,2)+max(1,2);"
            + "likes not all and all or size+stock+day+hunger>min(1,2)+max(1,2);mice 5;";
        stands(text, 8);
        Office.misspelt(text, (changed, place) -> faulty(changed, 1, place));
    }

    /** "at the text's length, if it ends too soon". */
    private static void tooSoon() {
        String[] tokens = ("finest 9 ; most 3 ; person ab due 1 of 2 ; have 3 by 2 ; bakes 1 ; costs min ( size , 2 ) * 3 + ( 1 ) / 2 ;"
            + " likes not [ stock > 1 or all ] and hunger = 0 ; mice 5 ;").split(" ");
        StringBuilder text = new StringBuilder();
        int statements = 0;
        faulty("", 1, 0);
        faulty(" \n", 1, 2);
        for (String token : tokens) {
            text.append(text.length() == 0 ? "" : " ").append(token);
            if (token.equals(";")) {
                statements++;
                stands(text.toString(), statements);
            } else {
                faulty(text.toString(), 1, text.length());
                faulty(text + " \n ", 1, text.length() + 3);
            }
        }
        Office.due("statements", statements, 8);
    }

    /** "4 the 7th of ( [ not that is open at once .., at it". */
    private static void sixOpen() {
        String costs = NINE + "costs ";
        String likes = NINE + "likes ";
        stands(costs + "(".repeat(6) + "1" + ")".repeat(6) + ";", 2);
        faulty(costs + "(".repeat(7) + "1" + ")".repeat(7) + ";", 4, 21);
        faulty(costs + "(".repeat(7), 4, 21);
        faulty(costs + "(".repeat(6), 1, 21);
        stands(costs + "min(".repeat(6) + "1" + ",2)".repeat(6) + ";", 2);
        faulty(costs + "min(".repeat(7) + "1" + ",2)".repeat(7) + ";", 4, 42);
        stands(costs + "max(2,".repeat(6) + "1" + ")".repeat(6) + ";", 2);
        faulty(costs + "max(2,".repeat(7) + "1" + ")".repeat(7) + ";", 4, 54);
        stands(likes + "[".repeat(6) + "all" + "]".repeat(6) + ";", 2);
        faulty(likes + "[".repeat(7) + "all" + "]".repeat(7) + ";", 4, 21);
        stands(likes + "not ".repeat(6) + "all;", 2);
        faulty(likes + "not ".repeat(7) + "all;", 4, 39);
        stands(likes + "not[not[not[1=1]]];", 2);
        faulty(likes + "not[not[not[(1)=1]]];", 4, 27);
        faulty(likes + "not[not[not[not all]]];", 4, 27);
        faulty(likes + "not[not[not[[all]]]];", 4, 27);
        faulty(likes + "not[not[not[1=min(1,2)]]];", 4, 32);
        stands(likes + "[[[((1))+((1))>min(min(1,2),(3))]]];", 2);
        // Where none can stand it is no 7th one.
        faulty(costs + "((((((1(", 1, 22);
        faulty(costs + "(((((([", 1, 21);
        faulty(costs + "min(".repeat(6) + "min 1", 1, 43);
    }

    /** "(not until its FACT ends)". */
    private static void notUntilItsFactEnds() {
        String likes = NINE + "likes ";
        stands(likes + "not ".repeat(6) + "1=1 and " + "not ".repeat(6) + "1=1;", 2);
        stands(likes + "[[[[[not 1=1 and (1)=(1)]]]]];", 2);
        stands(likes + "[[[[[not 1=1 or not 1=1 or [all]]]]]];", 2);
        faulty(likes + "[[[[[not (1)=1]]]]];", 4, 24);
        faulty(likes + "[[[[[not 1=(1)]]]]];", 4, 26);
        faulty(likes + "[[[[[not[all]]]]]];", 4, 23);
        faulty(likes + "not ".repeat(6) + "1=1 and " + "not ".repeat(7) + "1=1;", 4, 71);
    }

    /** "that is open at once". */
    private static void closedOnesDoNotCount() {
        String six = "(".repeat(6) + "1" + ")".repeat(6);
        stands(NINE + "costs " + six + "+" + six + "*" + six + ";", 2);
        faulty(NINE + "costs " + six + "+(" + six + ");", 4, 15 + 13 + 1 + 6);
        stands(NINE + "costs min(" + "(((((1)))))" + "," + "(((((1)))))" + ");", 2);
        faulty(NINE + "costs min(" + "(((((1)))))" + "," + six + ");", 4, 19 + 12 + 5);
        String closed = "[".repeat(6) + "all" + "]".repeat(6);
        stands(NINE + "likes " + closed + "or" + closed + "and" + closed + ";", 2);
        stands(NINE + "costs " + six + ";likes " + closed + ";", 3);
    }

    /** "FAULTS, the first along the text". */
    private static void theFirstAlongTheText() {
        faulty("finest 1;most 9;", 2, 7);
        faulty("% finest 1;", 1, 0);
        faulty("finest 25 %", 2, 7);
        faulty(NINE + "most 9;%", 2, 14);
        faulty(NINE + "%;most 9;", 1, 9);
        faulty(NINE + "have 0 by 0;", 2, 14);
        faulty(NINE + "have 0 bye 1;", 2, 14);
        faulty(NINE + "person a" + DUE + "person a due 0 of 0;", 3, 36);
        faulty(NINE + "person a due 0 of 1;person a due 1 of 1;", 2, 22);
        faulty(NINE + "costs ((((((( 99999;", 4, 21);
        faulty(NINE + "costs 99999+(((((((1;", 1, 19);
        faulty(NINE + "costs 1 1;costs 1;", 1, 17);
        faulty(NINE + "costs 1;costs 99999;", 5, 17);
        faulty(NINE + "have 1 by 99999;", 1, 23);
    }
}
