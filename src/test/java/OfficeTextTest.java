/** Promises 4 and 5: the text of an office and its faults. */
public final class OfficeTextTest {
    public static void main(String[] args) {
        goodTexts();
        wrongTexts();
        wrongNumbers();
        namesAndKinds();
        openAtOnce();
        aFaultLeavesAll();
        anOfficeBeginsAnew();
        Office.end();
    }

    private static void goodTexts() {
        Office.stands("finest 2;", 1);
        Office.stands(" \n finest\n24 ; ", 1);
        Office.stands("finest 0009;", 1);
        Office.stands("finest 9;most 1;most 6;bakes 0;bakes 9;mice 0;mice 100;", 7);
        Office.stands("finest 9;person first due 1 of 24;person last due 24 of 1;person often due 1 of 1;", 4);
        Office.stands("finest 9;have 99 by 9;have 1 by 1;", 3);
        Office.stands("finest 9;costs 9999/(size-stock*day)+min(place,0)-max ( 1 , 2 );likes not[all]or 1<2and 3>2 and 1=1;"
            .replace("2and", "2 and"), 3);
        Office.stands("finest 9;likes[all];", 2);
        Office.stands("finest 9;likes hunger=1or all;".replace("1or", "1 or"), 2);
        Office.stands("finest 9;" + "most 3;".repeat(59), 60);
        Office.stands("finest 9;" + "most 3;".repeat(59) + " \n ", 60);
    }

    private static void wrongTexts() {
        Office.faulty("", 1, 0);
        Office.faulty("  \n", 1, 3);
        Office.faulty(";", 1, 0);
        Office.faulty("most 3;", 1, 0);
        Office.faulty("fin", 1, 0);
        Office.faulty("binest 9;", 1, 0);
        Office.faulty("Finest 9;", 1, 0);
        Office.faulty("finest", 1, 6);
        Office.faulty("finest  ", 1, 8);
        Office.faulty("finest9;", 1, 6);
        Office.faulty("finest 9", 1, 8);
        Office.faulty("finest 9  ", 1, 10);
        Office.faulty("finest\t9;", 1, 6);
        Office.faulty("finest 9;;", 1, 9);
        Office.faulty("finest 9; finest 9;", 1, 10);
        Office.faulty("finest 9 most 3;", 1, 9);
        Office.faulty("finest 9most 3;", 1, 8);
        Office.faulty("finest 12345;", 1, 11);
        Office.faulty("finest 9;breaks 1;", 1, 9);
        Office.faulty("finest 9;person", 1, 15);
        Office.faulty("finest 9;person 1", 1, 16);
        Office.faulty("finest 9;person ann of 1", 1, 20);
        Office.faulty("finest 9;person a1", 1, 17);
        Office.faulty("finest 9;person ann due 1of 2;", 1, 25);
        Office.faulty("finest 9;person ann due 1 of2;", 1, 28);
        Office.faulty("finest 9;person ann due x", 1, 24);
        Office.faulty("finest 9;have 3 of 3;", 1, 16);
        Office.faulty("finest 9;have 3by 3;", 1, 15);
        Office.faulty("finest 9;have 3 by;", 1, 18);
        Office.faulty("finest 9;costs;", 1, 14);
        Office.faulty("finest 9;costs all;", 1, 15);
        Office.faulty("finest 9;costs size<2;", 1, 19);
        Office.faulty("finest 9;costs number;", 1, 15);
        Office.faulty("finest 9;costs min 1;", 1, 19);
        Office.faulty("finest 9;costs min(1;", 1, 20);
        Office.faulty("finest 9;costs min(1,2;", 1, 22);
        Office.faulty("finest 9;costs (1;", 1, 17);
        Office.faulty("finest 9;costs -1;", 1, 15);
        Office.faulty("finest 9;costs 1+;", 1, 17);
        Office.faulty("finest 9;costs 10000;", 1, 19);
        Office.faulty("finest 9;costs 1 size;", 1, 17);
        Office.faulty("finest 9;costs 1size;", 1, 16);
        Office.faulty("finest 9;costs size2;", 1, 19);
        Office.faulty("finest 9;likes;", 1, 14);
        Office.faulty("finest 9;likes size;", 1, 19);
        Office.faulty("finest 9;likes place=1;", 1, 15);
        Office.faulty("finest 9;likes 1<2<3;", 1, 18);
        Office.faulty("finest 9;likes [all;", 1, 19);
        Office.faulty("finest 9;likes (all);", 1, 16);
        Office.faulty("finest 9;likes all all;", 1, 19);
        Office.faulty("finest 9;likes all or;", 1, 21);
        Office.faulty("finest 9;likes all and;", 1, 22);
        Office.faulty("finest 9;likes all and place", 1, 23);
        Office.faulty("finest 9;likes all or all and place=1", 1, 30);
        Office.faulty("finest 9;costs 2*;", 1, 17);
        Office.faulty("finest 9;costs 2*hunger", 1, 17);
        Office.faulty("finest 9;likes not;", 1, 18);
        Office.faulty("finest 9;likes 1<2or all;", 1, 18);
        Office.faulty("finest 9;likes stock 2>1;", 1, 21);
        Office.faulty("finest 9;likes all;" + (char) 233, 1, 19);
    }

    private static void wrongNumbers() {
        Office.faulty("finest 1;", 2, 7);
        Office.faulty("finest 25;", 2, 7);
        Office.faulty("finest 9;most 0;", 2, 14);
        Office.faulty("finest 9;most 7x", 2, 14);
        Office.faulty("finest 9;bakes 10;", 2, 15);
        Office.faulty("finest 9;mice 101;", 2, 14);
        Office.faulty("finest 9;have 0 by 1;", 2, 14);
        Office.faulty("finest 9;have 100 by 1;", 2, 14);
        Office.faulty("finest 9;have 1 by 0;", 2, 19);
        Office.faulty("finest 9;have 1 by 10;", 2, 19);
        Office.faulty("finest 9;have 1 by 9999;", 2, 19);
        Office.faulty("finest 9;have 1 by 3;have 2 by 03;", 2, 31);
        Office.faulty("finest 9;person a due 0 of 1;", 2, 22);
        Office.faulty("finest 9;person a due 25 of 1;", 2, 22);
        Office.faulty("finest 9;person a due 1 of 0;", 2, 27);
        Office.faulty("finest 9;person a due 1 of 25;", 2, 27);
    }

    private static void namesAndKinds() {
        String[] own = ("finest most person due of have by bakes costs likes mice size stock place day hunger number top"
            + " bottom ways had fits or and not all min max").split(" ");
        for (String word : own) {
            Office.faulty("finest 9;person " + word + " due 1 of 2;", 1, 16);
        }
        Office.faulty("finest 9;person abcdefg due 1 of 2;", 1, 22);
        Office.faulty("finest 9;person finests due 1 of 2;", 1, 22);
        Office.faulty("finest 9;person ab due 1 of 2;person ab due 1 of 2;", 3, 37);
        Office.stands("finest 9;person ab due 1 of 2;person a due 1 of 2;person abc due 1 of 2;", 4);
        String six = "finest 9;person a due 1 of 2;person b due 1 of 2;person c due 1 of 2;person d due 1 of 2;"
            + "person e due 1 of 2;person f due 1 of 2;";
        Office.stands(six, 7);
        Office.faulty(six + "person", 5, six.length());
        Office.faulty(six + "person a", 5, six.length());
        Office.faulty("finest 9;costs 1;costs", 5, 17);
        Office.faulty("finest 9;likes all;likes", 5, 19);
        String sixty = "finest 9;" + "most 3;".repeat(59);
        Office.faulty(sixty + " most 3;", 5, sixty.length() + 1);
        Office.faulty(sixty + "%", 5, sixty.length());
        Office.faulty(sixty + "finest", 5, sixty.length());
    }

    private static void openAtOnce() {
        Office.stands("finest 9;costs ((((((1))))));", 2);
        Office.faulty("finest 9;costs (((((((1)))))));", 4, 21);
        Office.stands("finest 9;costs ((((((1))))))+((((((1))))));", 2);
        Office.faulty("finest 9;costs ((((((min(1,2)))))));", 4, 24);
        Office.stands("finest 9;costs min(min(min(min(min(min(1,2),2),2),2),2),2);", 2);
        Office.faulty("finest 9;costs min(min(min(min(min(min((1),2),2),2),2),2),2);", 4, 39);
        Office.stands("finest 9;costs max(2,max(2,max(2,max(2,max(2,max(2,1))))));", 2);
        Office.faulty("finest 9;costs max(2,max(2,max(2,max(2,max(2,max(2,(1)))))));", 4, 51);
        Office.stands("finest 9;costs max(2,(((((1))))))+max((((((1))))),2);", 2);
        Office.stands("finest 9;likes not not not not not not all;", 2);
        Office.faulty("finest 9;likes not not not not not not not all;", 4, 39);
        Office.stands("finest 9;likes not not not not not not all and not all;", 2);
        String closed = "finest 9;likes not[not[(1)=1 and not 1=1]] or ";
        Office.faulty(closed + "[[[[[[[all]]]]]]];", 4, closed.length() + 6);
        Office.faulty("finest 9;likes not[not[not[(1)=1]]];", 4, 27);
        Office.stands("finest 9;likes not[not[not 1=(1)]];", 2);
    }

    private static void aFaultLeavesAll() {
        UnlikeLoaves x = Office.of("finest 9;most 5;person ann due 1 of 2;have 3 by 2;likes size=2;costs 7;");
        x.days(2);
        Office.see(x, 0, 0, 1);
        Office.due("faulty office", Office.open(x, "finest 4;most 2;person bob due 1 of 3;have 1 by 3;costs 1;likes 1=2"), -1);
        Office.due("finest", x.has(0), 9);
        Office.due("most", x.has(1), 5);
        Office.due("people", x.has(2), 1);
        Office.due("day", x.has(3), 2);
        Office.due("pieces", x.has(4), 1);
        Office.due("kept", x.has(7), 2);
        Office.due("seen", x.has(8), 1);
        Office.due("acts", x.has(9), 1);
        Office.due("letter", x.letter(0, 0), 1);
        Office.due("taken now", x.person(0, 5), 2);
        Office.due("price", x.cheapest(1, 2, 1), 7);
        Office.due("fault", x.fault(0), 1);
    }

    private static void anOfficeBeginsAnew() {
        UnlikeLoaves x = Office.of("finest 9;most 5;person ann due 1 of 2;have 3 by 2;likes size<4;costs 7;mice 100;bakes 4;");
        x.days(4);
        Office.due("served", x.person(0, 3), 3);
        Office.due("hungry", x.person(0, 2), 1);
        x.chance(3);
        Office.see(x, 0, 0, 1);
        x.image();
        Office.due("office anew", Office.open(x, "finest 3;person bob due 1 of 2;have 2 by 2;"), 3);
        Office.due("finest", x.has(0), 3);
        Office.due("most", x.has(1), 4);
        Office.due("day", x.has(3), 0);
        Office.due("pieces", x.has(4), 2);
        Office.due("kept", x.has(7), 0);
        Office.due("seen", x.has(8), 0);
        Office.due("acts", x.has(9), 0);
        Office.due("hunger", x.person(0, 2), 0);
        Office.due("times", x.person(0, 3), 0);
        Office.due("likes all", x.person(0, 5), 2);
        Office.due("costs size", x.cheapest(1, 2, 1), 2);
        Office.due("no mice", x.chance(1), 0);
        Office.due("no loaf baked", x.stock(1), 0);
        Office.due("the image stays", x.octet(0), 0);
    }
}
