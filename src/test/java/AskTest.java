/** Promise 36, and promise 5 of questions. */
public final class AskTest {
    private static final String TEXT = "finest 12;person a due 1 of 2;person b due 10 of 12;person c due 1 of 12;"
        + "have 3 by 2;have 1 by 3;have 7 by 12;";

    public static void main(String[] args) {
        withoutAnOffice();
        answers();
        numbers();
        withoutPeople();
        faults();
        Office.end();
    }

    private static void withoutAnOffice() {
        UnlikeLoaves x = new UnlikeLoaves();
        Office.open(x, "x");
        Office.due("ask", Office.ask(x, "often all"), Office.NOTHING);
        Office.due("fault stays", x.fault(0), 1);
        Office.due("its place stays", x.fault(1), 0);
    }

    private static void answers() {
        UnlikeLoaves x = Office.of(TEXT);
        // Day 0: a by the half, b by half and third, c by a twelfth; day 1: b without a third hungers.
        x.days(2);
        Office.asked(x, "first all", 0);
        Office.asked(x, "last all", 2);
        Office.asked(x, "often all", 3);
        Office.asked(x, "first hunger>0", 1);
        Office.asked(x, "last not hunger>0", 2);
        Office.asked(x, "first number>2", -1);
        Office.asked(x, "last number<0", -1);
        Office.asked(x, "often had=2", 2);
        Office.asked(x, "total had", 5);
        Office.asked(x, "most had", 2);
        Office.asked(x, "least had", 1);
        Office.asked(x, "total top*100+bottom", 1226);
        Office.asked(x, "most bottom", 12);
        Office.asked(x, "least bottom", 2);
        // 1/2 has 3 ways, 10/12: 1/2 + 1/3, 1/2 + 1/4 + 1/12, 1/3 + 1/4 + 1/6 + 1/12; 1/12 one.
        Office.asked(x, "total ways*(number+1)", x.person(0, 4) + 2 * x.person(1, 4) + 3 * x.person(2, 4));
        Office.asked(x, "least ways", 1);
        Office.asked(x, "total day", 6);
        Office.asked(x, "most stock 2", 0);
        Office.asked(x, "most stock 12", 5);
        Office.asked(x, "most stock(10+2)+1", 6);
        Office.asked(x, "most stock 12+1", 6);
        Office.asked(x, "most stock 0", 0);
        Office.asked(x, "most stock 13", 0);
        Office.asked(x, "most stock(0-1)", 0);
        Office.asked(x, "often fits 2=1", 2);
        Office.asked(x, "often fits 12=1", 3);
        Office.asked(x, "often fits 11=1", 0);
        Office.asked(x, "often fits 0=0 and fits 25=0 and fits(0-5)=0", 3);
        Office.asked(x, "total fits bottom", 3);
        Office.asked(x, "most stock stock stock 12", 0);
        Office.asked(x, "total fits fits 2+stock fits 1", 0);
        Office.asked(x, " \nmost\n7 ", 7);
        Office.asked(x, "last number=0", 0);
        Office.asked(x, "first number=2", 2);
        Office.asked(x, "most 5-number", 5);
        Office.asked(x, "most number", 2);
        Office.asked(x, "most 0-5-number", -5);
        Office.asked(x, "most 0-(number-1)*(number-1)", 0);
        Office.asked(x, "least 5-number", 3);
        Office.asked(x, "least number+5", 5);
        Office.asked(x, "least (number-1)*(number-1)", 0);
        UnlikeLoaves y = Office.of("finest 24;person a due 1 of 24;have 4 by 1;have 5 by 24;");
        Office.asked(y, "total stock 1*10+stock 24", 45);
        Office.asked(y, "total fits 1*10+fits 24", 1);
    }

    private static void numbers() {
        UnlikeLoaves x = Office.of(TEXT);
        Office.asked(x, "most 7/2", 3);
        Office.asked(x, "most (0-7)/2", -4);
        Office.asked(x, "most 7/(0-2)", -4);
        Office.asked(x, "most (0-7)/(0-2)", 3);
        Office.asked(x, "most 7/0", 0);
        Office.asked(x, "most (0-7)/0", 0);
        Office.asked(x, "most 10-3-2", 5);
        Office.asked(x, "most 100/10/5", 2);
        Office.asked(x, "most 2+3*4", 14);
        Office.asked(x, "most 7/2*2", 6);
        Office.asked(x, "most 9999*9999", 1000000);
        Office.asked(x, "least 0-9999*9999", -1000000);
        Office.asked(x, "most 9999*9999+1", 1000000);
        Office.asked(x, "most 9999*9999+1-1", 999999);
        Office.asked(x, "most (0-9999*9999)*9999-5", -1000000);
        Office.asked(x, "total 9999*9999", 3000000);
        Office.asked(x, "total 0-9999*9999", -3000000);
        Office.asked(x, "most min(3,4)+max(3,4)*10", 43);
        Office.asked(x, "most 0007", 7);
        Office.asked(x, "often 1<2 or 1=2 and 1=2", 3);
        Office.asked(x, "often [1<2 or 1=2]and 1=2", 0);
        Office.asked(x, "often not 1=2 and 1=2", 0);
        Office.asked(x, "often not[1=2 and 1=2]", 3);
        Office.asked(x, "often 2>1 and not 1>2 and 3=3", 3);
        Office.asked(x, "often 1>1 or 1<1", 0);
    }

    private static void withoutPeople() {
        UnlikeLoaves x = Office.of("finest 4;");
        Office.asked(x, "first all", -1);
        Office.asked(x, "last all", -1);
        Office.asked(x, "often all", 0);
        Office.asked(x, "total 5", 0);
        Office.asked(x, "most 5", 0);
        Office.asked(x, "least 5", 0);
    }

    private static void wrong(String text, int fault, int place) {
        UnlikeLoaves x = Office.of(TEXT);
        Office.unasked(x, text, fault, place);
        Office.due("no refusal", x.status(1), 0);
    }

    private static void faults() {
        wrong("", 1, 0);
        wrong("  ", 1, 2);
        wrong("all", 1, 0);
        wrong("firsts all", 1, 0);
        wrong("often", 1, 5);
        wrong("often ", 1, 6);
        wrong("often 1", 1, 7);
        wrong("often all;", 1, 9);
        wrong("often all all", 1, 10);
        wrong("often all and", 1, 13);
        wrong("often all or", 1, 12);
        wrong("often all and size", 1, 14);
        wrong("total 2*", 1, 8);
        wrong("total 2*size", 1, 8);
        wrong("total 2-", 1, 8);
        wrong("total all", 1, 6);
        wrong("total 1=1", 1, 7);
        wrong("total size", 1, 6);
        wrong("total place", 1, 6);
        wrong("total ann", 1, 6);
        wrong("total1", 1, 5);
        wrong("total 12345", 1, 10);
        wrong("total stock", 1, 11);
        wrong("total stock+1", 1, 11);
        wrong("total stock2", 1, 11);
        wrong("total fits)", 1, 10);
        wrong("total 3hunger", 1, 7);
        wrong("total max(1)", 1, 11);
        Office.asked(Office.of(TEXT), "total stock stock stock fits fits fits 1", 0);
        wrong("total stock stock stock fits fits fits fits 1", 4, 39);
        wrong("total stock stock stock fits fits fits (1)", 4, 39);
        Office.asked(Office.of(TEXT), "total stock(stock(stock(1)))+stock(1)", 0);
        wrong("often not[not[not[stock 1=1]]]", 4, 18);
        Office.asked(Office.of(TEXT), "often not[not[not 1=stock 1]] and not[(1)=1]", 0);
        wrong("most (((((((1)))))))", 4, 11);
        UnlikeLoaves x = Office.of(TEXT);
        Office.ask(x, "oops");
        Office.due("fault", x.fault(0), 1);
        Office.asked(x, "often all", 3);
        Office.ask(x, "oops");
        Office.open(x, TEXT);
        Office.due("fault of the latest", x.fault(0), 0);
    }
}
