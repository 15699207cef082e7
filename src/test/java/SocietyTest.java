/** The text of a SOCIETY: what it tells, its FAULTS, and what its FORMULAS give (promises 4, 5, 7 and the terms I). */
public final class SocietyTest {
    private static final Checks c = new Checks();
    private static final String AB = "person a rank 1;person b rank 2;";
    private static final String ABC = AB + "coin c worth 5 of a;";

    /** The FAULT of what stands behind AB, its place counted from there. */
    private static void behind(String text, int kind, int place) { c.fault(AB + text, kind, AB.length() + place); }

    /** What a SUM of price gives, with goods worth 7 of rank-2 b for rank-1 a, who holds a coin that b knows not. */
    private static void sum(String sum, int want) {
        CoinCircle x = Checks.of(ABC + "goods g worth 7 by b;price " + sum + ";");
        c.due("price " + sum, x.goods(0, 0, 2), want);
    }

    /** Whether the TEST lets a's coin worth 5 be PRESENTED to b. */
    private static void test(String test, int want) {
        CoinCircle x = Checks.of(ABC + "presents " + test + ";");
        c.due("presents " + test, x.may(0, 1), want);
    }

    private static void wholeTexts() {
        c.at("promise 4");
        c.fine("", 0);
        c.fine(" \n ", 0);
        c.fine(ABC, 3);
        c.fine("\nperson\na rank\n0001 ;person b rank 0;coin c worth 1 of a knows b ;", 3);
        c.fine(AB + "presents[all]and not[1<2]or 1=1;price(1)*2;", 4);
        c.fine(AB + "presents min(1,2)<max(rank,other);", 3);
        c.fine(Checks.many("fades 1;", 80), 80);
        c.fine("person abcdef rank 9;coin persom worth 99 of abcdef;goods presen worth 99 by abcdef;fades 99;vogue 100;", 5);
        StringBuilder all = new StringBuilder();
        for (int k = 0; k < 10; k++) all.append("person p").append((char) ('a' + k)).append(" rank ").append(k).append(";");
        for (int k = 0; k < 12; k++) all.append("coin c").append((char) ('a' + k)).append(" worth 1 of pa;");
        for (int k = 0; k < 10; k++) all.append("goods g").append((char) ('a' + k)).append(" worth 0 by pj;");
        c.fine(all.toString(), 32);
        c.fault(all + "person x rank 1;", 6, all.length());
        c.fault(all + "coin x worth 1 of pa;", 6, all.length());
        c.fault(all + "goods", 6, all.length());
    }

    private static void firstFault() {
        c.at("fault 1");
        c.fault("person", 1, 6);
        c.fault("person  ", 1, 8);
        c.fault("person a rank 1", 1, 15);
        c.fault("pers a", 1, 0);
        c.fault("a", 1, 0);
        c.fault(";", 1, 0);
        c.fault("12", 1, 0);
        c.fault("fades 1;;", 1, 8);
        c.fault("fades 1,", 1, 7);
        c.fault("Person a rank 1;", 1, 0);
        c.fault("person A rank 1;", 1, 7);
        c.fault("person \u00e9 rank 1;", 1, 7);
        c.fault("person\ta rank 1;", 1, 6);
        c.fault("person 1 rank 1;", 1, 7);
        c.fault("person rank rank 1;", 1, 7);
        c.fault("person max rank 1;", 1, 7);
        c.fault("person a worth 1;", 1, 9);
        c.fault("person a b;", 1, 9);
        c.fault("person a rank b;", 1, 14);
        c.fault("person a rank -1;", 1, 14);
        c.fault("person abcdefg rank 1;", 1, 13);
        c.fault("abcdefghij", 1, 6);
        c.fault("presentsx", 1, 6);
        c.fault("persons a", 1, 6);
        c.fault("12345", 1, 4);
        c.fault("person 12345", 1, 11);
        c.fault("person a rank 12345;", 1, 18);
        c.fault("person a rank 00001;", 1, 18);
        c.fault("person a rank 1 12345", 1, 20);
        c.fault("person a rank 1 abcdefg", 1, 22);
        c.fault("person a rank1;", 1, 13);
        c.fault("fades 1a", 1, 7);
        c.fault("person a1 rank 1;", 1, 8);
        c.at("fault 1, a blank that is wanting");
        c.fault("person a rank 1pperson", 1, 15);
        c.fault("person a rank 1abcdefg", 1, 15);
        c.fault("person a rank 1presents", 1, 15);
        c.fault("fades 1abcdefg", 1, 7);
        c.fault("fades 1vogue 2;", 1, 7);
        c.fault("person a12345 rank 1;", 1, 8);
        c.fault("person a rank12345;", 1, 13);
        c.fault("person a1abcdefg", 1, 8);
        c.fault("fades 12345abcdefg", 1, 10);
        c.fault("person abcdefg1", 1, 13);
        behind("presents 1<2and all;", 1, 12);
        behind("presents 1<2sevenab", 1, 12);
        behind("price worth12345", 1, 11);
        behind("price 1sevenab", 1, 7);
        behind("price 1+sevenab", 1, 14);
        behind("price 1 sevenab", 1, 14);
        behind("coin c worth 1 of a12345", 1, 19);
        c.at("fault 1");
        behind("coin c worth 1of a;", 1, 14);
        behind("coin c worth 1 by a;", 1, 15);
        behind("coin c worth 1 of a b;", 1, 20);
        behind("coin c worth 1 of a knows;", 1, 25);
        behind("coin c worth 1 of a knows b of;", 1, 28);
        behind("coin c worth 1 of coin;", 1, 18);
        behind("goods g worth 1 of a;", 1, 16);
        behind("snub 1", 1, 5);
        behind("presents;", 1, 8);
        behind("presents 1;", 1, 10);
        behind("presents 1<2<3;", 1, 12);
        behind("presents 1<;", 1, 11);
        behind("presents not;", 1, 12);
        behind("presents [];", 1, 10);
        behind("price 1*;", 1, 8);
        behind("price ();", 1, 7);
        behind("price;", 1, 5);
        behind("presents (1<2);", 1, 11);
        behind("presents [1];", 1, 11);
        behind("presents all and;", 1, 16);
        behind("presents all all;", 1, 13);
        behind("presents a<1;", 1, 9);
        behind("presents -1<1;", 1, 9);
        behind("presents 1=1and all;", 1, 12);
        behind("presents all or;", 1, 15);
        behind("presents [all);", 1, 13);
        behind("price 1<2;", 1, 7);
        behind("price all;", 1, 6);
        behind("price (1];", 1, 8);
        behind("price min 1;", 1, 10);
        behind("price min(1);", 1, 11);
        behind("price min(1,2,3);", 1, 13);
        behind("price 1+;", 1, 8);
        behind("price 12345;", 1, 10);
        behind("price 1 # 2;", 1, 8);
    }

    private static void nameFaults() {
        c.at("fault 2");
        behind("person a rank 1;", 2, 7);
        c.fault(ABC + "person c rank 1;", 2, ABC.length() + 7);
        c.fault(ABC + "coin c worth 1 of a;", 2, ABC.length() + 5);
        behind("coin b worth 1 of a;", 2, 5);
        behind("goods a 1", 2, 6);
        c.fault(AB + "goods g worth 1 by a;person g rank 1;", 2, AB.length() + 28);
        c.at("fault 3");
        behind("coin c worth 1 of c;", 3, 18);
        behind("coin c worth 1 of x;", 3, 18);
        behind("coin c worth 1 of a knows a;", 3, 26);
        behind("coin c worth 1 of a knows b b;", 3, 28);
        behind("coin c worth 1 of a knows x", 3, 26);
        behind("coin c worth 1 of a knows b c;", 3, 28);
        behind("goods g worth 1 by g;", 3, 19);
        behind("snub a b;", 3, 5);
        c.fault(ABC + "snub c c;", 3, ABC.length() + 7);
        c.fault(ABC + "snub c a;", 3, ABC.length() + 7);
        c.fault(ABC + "snub c b;snub c b;", 3, ABC.length() + 16);
        behind("coin c worth 1 of a knows b;snub c b;", 3, 35);
        c.fault("coin c worth 1 of a;person a rank 1;", 3, 18);
    }

    private static void numberFaults() {
        c.at("fault 4");
        c.fault("person a rank 10;", 4, 14);
        behind("coin c worth 0 of a;", 4, 13);
        behind("coin c worth 100 of", 4, 13);
        behind("goods g worth 100 by a;", 4, 14);
        c.fault("fades 100", 4, 6);
        c.fault("vogue 101", 4, 6);
        c.fine("vogue 0;fades 0;vogue 100;fades 99;", 4);
        c.fine(AB + "goods g worth 0 by a;price 9999;", 4);
    }

    private static void deepFaults() {
        c.at("fault 5");
        String seven = "not [ not [ not [ not ";
        c.fine("presents " + seven + "all]]];", 1);
        c.fault("presents " + seven + "not all]]];", 5, 9 + seven.length());
        c.fault("presents " + seven + "[all]]]];", 5, 9 + seven.length());
        c.fault("presents " + seven + "(1)=1]]];", 5, 9 + seven.length());
        c.fault("presents " + seven + "min(1,2)=1]]];", 5, 9 + seven.length() + 3);
        c.fine("price ((((((min(1,2)))))));", 1);
        c.fault("price (((((((min(1,2))))))));", 5, 16);
        c.fine("presents not not not not not not not all and not all;", 1);
        c.fault("presents not not not not not not not all and not not not not not not not not all;", 5, 73);
        c.fine("presents not 1=1 and not 1=1 and not 1=1 and not 1=1 and not 1=1 and not 1=1 and not 1=1 and not 1=1;", 1);
        c.fine("price (1)+(1)+(1)+(1)+(1)+(1)+(1)+(1)+(1);", 1);
        c.fine("price min(1,2)+max(1,2)+min(1,2)+max(1,2)+min(1,2)+max(1,2)+min(1,2)+max(1,2);", 1);
    }

    private static void tooMany() {
        c.at("fault 6");
        c.fault("presents all;presents", 6, 13);
        c.fault("price 1; price 1;", 6, 9);
        c.fault(Checks.many("fades 1;", 81), 6, 640);
        c.fault(Checks.many("vogue 1;", 80) + " person", 6, 641);
        c.fault(Checks.many("vogue 1;", 79) + "person", 1, 638);
    }

    private static void sums() {
        c.at("price");
        sum("12", 12);
        sum("worth", 7);
        sum("rank", 1);
        sum("other", 2);
        sum("circle", 0);
        sum("day", 0);
        sum("holds", 1);
        sum("10-3-2", 5);
        sum("10-(3-2)", 9);
        sum("2+3*4", 14);
        sum("(2+3)*4", 20);
        sum("20/3*3", 18);
        sum("20/(3*3)", 2);
        sum("20-(0-7)/2", 24);
        sum("20-7/(0-2)", 24);
        sum("(0-7)/(0-2)", 3);
        sum("(0-7)%3", 2);
        sum("10+7%(0-3)", 8);
        sum("10+(0-7)%(0-3)", 9);
        sum("5+7/0", 5);
        sum("5+7%0", 5);
        sum("min(3,8)+max(3,8)*10", 83);
        sum("9999*9999/9999", 100);
        sum("(0-9999)*9999/9999+200", 99);
        sum("9999*101-9999*100", 100);
        sum("9999*101-9999*100-900", 0);
        sum("9999*99-9999*98-9900", 99);
        sum("9999*9999+9999-9999-9999*99", 100);
        sum("999", 999);
        sum("1000", 999);
        sum("0-1", 0);
        sum("0", 0);
    }

    private static void tests() {
        c.at("presents");
        test("all", 1);
        test("not all", 0);
        test("not not all", 1);
        test("1<2", 1);
        test("2<2", 0);
        test("3>2", 1);
        test("2>2", 0);
        test("2=2", 1);
        test("2=3", 0);
        test("all or not all and not all", 1);
        test("[all or all] and not all", 0);
        test("not all or all", 1);
        test("not [all or all]", 0);
        test("not 1=2 and 1=1", 1);
        test("worth=5 and rank=1 and other=2 and circle=1 and day=0 and holds=1", 1);
        test("min(rank,other)=1 and max(rank,other)=2", 1);
        test("(rank+other)*2=6", 1);
    }

    private static void parts() {
        c.at("promise 4");
        CoinCircle x = Checks.of("fades 3;vogue 7;" + AB + "coin long worth 9 of b knows a;goods x worth 4 by a;"
            + "fades 0;fades 12;vogue 40;coin d worth 1 of a;snub d b;");
        c.due("has(0)", x.has(0), 2);
        c.due("has(1)", x.has(1), 2);
        c.due("has(2)", x.has(2), 1);
        c.due("has(3)", x.has(3), 12);
        c.due("has(4)", x.has(4), 40);
        c.due("has(7)", x.has(7), 1);
        x.seed(77);
        x.days(2);
        c.due("a refused one", Checks.tell(x, "person a rank 11;"), -1);
        c.due("has(0)", x.has(0), 2);
        c.due("has(5)", x.has(5), 2);
        c.due("has(10)", x.has(10), 1);
        c.due("status(1)", x.status(1), 1);
        c.due("the tape goes, refused", x.end(1), false);
        c.due("a new one", Checks.tell(x, "person z rank 1;"), 1);
        c.due("the tape goes", x.end(1), false);
        c.due("has(0)", x.has(0), 1);
        c.due("has(1)", x.has(1), 0);
        c.due("has(2)", x.has(2), 0);
        c.due("has(3)", x.has(3), 0);
        c.due("has(4)", x.has(4), 0);
        c.due("has(5)", x.has(5), 0);
        c.due("has(10)", x.has(10), 0);
        c.due("has(11)", x.has(11), 77);
        c.due("coin c", Checks.tell(x, ABC), 3);
        x.days(4);
        x.present(0, 1);
        x.pay(0, 1);
        c.due("met(0, 0)", x.met(0, 0), 4);
        c.due("told again", Checks.tell(x, "person a rank 1;person b rank 2;coin c worth 5 of a knows b;"), 3);
        c.due("met(0, 0)", x.met(0, 0), 0);
        c.due("met(0, 1)", x.met(0, 1), 0);
        c.due("undo()", x.undo(), false);
        c.due("without presents and price", Checks.tell(x, ABC + "goods g worth 7 by b;presents not all;price 3;"), 6);
        c.due("again", Checks.tell(x, ABC + "goods g worth 7 by b;"), 4);
        c.due("may(0, 1)", x.may(0, 1), 1);
        c.due("goods(0, 0, 2)", x.goods(0, 0, 2), 7);
    }

    private static void faultCalls() {
        c.at("promise 5");
        CoinCircle x = new CoinCircle();
        c.due("fault(0)", x.fault(0), 0);
        c.due("fault(1)", x.fault(1), -1);
        c.due("fault(2)", x.fault(2), -1);
        c.due("fault(-1)", x.fault(-1), -1);
        Checks.tell(x, "x");
        c.due("fault(0)", x.fault(0), 1);
        c.due("fault(1)", x.fault(1), 0);
        c.due("fault(2)", x.fault(2), -1);
        Checks.tell(x, "fades 1;");
        c.due("fault(0)", x.fault(0), 0);
        c.due("fault(1)", x.fault(1), -1);
    }

    private static void letters() {
        c.at("promise 7");
        CoinCircle x = Checks.of("person abz rank 1;person q rank 1;coin abcdef worth 1 of q;goods y worth 1 by q;");
        c.due("letter(0, 0, 0)", x.letter(0, 0, 0), 1);
        c.due("letter(0, 0, 1)", x.letter(0, 0, 1), 2);
        c.due("letter(0, 0, 2)", x.letter(0, 0, 2), 26);
        c.due("letter(0, 0, 3)", x.letter(0, 0, 3), 0);
        c.due("letter(0, 0, 5)", x.letter(0, 0, 5), 0);
        c.due("letter(0, 0, 6)", x.letter(0, 0, 6), -1);
        c.due("letter(0, 0, -1)", x.letter(0, 0, -1), -1);
        c.due("letter(0, 1, 0)", x.letter(0, 1, 0), 17);
        c.due("letter(0, 2, 0)", x.letter(0, 2, 0), -1);
        c.due("letter(0, -1, 0)", x.letter(0, -1, 0), -1);
        c.due("letter(1, 0, 5)", x.letter(1, 0, 5), 6);
        c.due("letter(1, 1, 0)", x.letter(1, 1, 0), -1);
        c.due("letter(2, 0, 0)", x.letter(2, 0, 0), 25);
        c.due("letter(2, 0, 1)", x.letter(2, 0, 1), 0);
        c.due("letter(3, 0, 0)", x.letter(3, 0, 0), -1);
        c.due("letter(-1, 0, 0)", x.letter(-1, 0, 0), -1);
    }

    public static void main(String[] args) {
        wholeTexts();
        firstFault();
        nameFaults();
        numberFaults();
        deepFaults();
        tooMany();
        sums();
        tests();
        parts();
        faultCalls();
        letters();
        c.finish();
    }
}
