/** The edges in the text of a SOCIETY: a method for each sentence of terms I and of promises 4, 5 and 7 that names one. */
public final class EdgeTextTest {
    private static final Checks c = new Checks();
    private static final String AB = "person a rank 1;person b rank 2;";
    private static final String ABC = AB + "coin c worth 5 of a;";
    private static final int MOST = Integer.MAX_VALUE;
    private static final int LEAST = Integer.MIN_VALUE;
    private static final String[] OWN = {"person", "rank", "coin", "worth", "of", "knows", "goods", "by", "snub", "fades",
        "vogue", "presents", "price", "other", "circle", "day", "holds", "or", "and", "not", "all", "min", "max"};

    /** The FAULT of what stands behind AB, its place counted from there. */
    private static void behindAB(String text, int kind, int place) { c.fault(AB + text, kind, AB.length() + place); }

    /** The FAULT of what stands behind ABC, its place counted from there. */
    private static void behindABC(String text, int kind, int place) { c.fault(ABC + text, kind, ABC.length() + place); }

    // ---- STATEMENTS

    /** "{ STATEMENT ; }": there may be none. */
    private static void noStatement() {
        c.at("terms I, a SOCIETY without STATEMENTS");
        c.fine("", 0);
        c.fine(" ", 0);
        c.fine("\n\n", 0);
        CoinCircle x = Checks.of(ABC + "goods g worth 3 by a;fades 7;vogue 8;");
        c.due("society()", Checks.tell(x, ""), 0);
        for (int k = 0; k < 11; k++) c.due("has(" + k + ")", x.has(k), 0);
    }

    /** "80 at most": 80 stand, with or without blanks behind them. */
    private static void eightyStatements() {
        c.at("terms I, 80 STATEMENTS");
        c.fine(Checks.many("fades 1;", 80), 80);
        c.fine(Checks.many("fades 1;", 80) + " \n", 80);
        c.fine(Checks.people(10) + Checks.coins(12) + Checks.goods(10) + "presents all;price 1;" + Checks.many("vogue 1;", 46), 80);
        c.fault(Checks.many("fades 1;", 79) + "fades 1", 1, 639);
    }

    /** FAULT 6: "the 81st STATEMENT (whatever it is), at its first byte". */
    private static void eightyOneStatements() {
        c.at("fault 6, the 81st STATEMENT");
        String eighty = Checks.many("vogue 1;", 80);
        for (String word : new String[] {"person", "coin", "goods", "snub", "fades", "vogue", "presents", "price"}) {
            c.fault(eighty + word, 6, 640);
        }
        c.fault(eighty + "vogue 1;", 6, 640);
        c.fault(eighty + " \nvogue 1;", 6, 642);
        c.fault(eighty + "vogue 101;", 6, 640);
        c.fault(eighty + "name", 6, 640);
        c.fault(eighty + "abcdefg", 6, 640);
        c.fault(eighty + "12345", 6, 640);
        c.fault(Checks.many("vogue 1;", 79) + "name", 1, 632);
        c.fault(Checks.many("vogue 1;", 79) + "abcdefg", 1, 638);
    }

    /** "person NAME rank N (0 .. 9": the least and the most, FAULT 4 beyond. */
    private static void ranks() {
        c.at("terms I, rank 0 .. 9");
        c.due("rank 0", Checks.of("person a rank 0;").person(0, 0), 0);
        c.due("rank 9", Checks.of("person a rank 9;").person(0, 0), 9);
        c.fault("person a rank 10;", 4, 14);
        c.fault("person a rank 9999;", 4, 14);
        c.fault("person a rank -1;", 1, 14);
    }

    /** "10 PEOPLE", FAULT 6: "one too many of a kind of STATEMENT .., at its first byte". */
    private static void tenPeople() {
        c.at("terms I, 10 PEOPLE");
        String ten = Checks.people(10);
        c.fine(ten, 10);
        c.due("has(0)", Checks.of(ten).has(0), 10);
        c.due("has(0)", Checks.of(Checks.people(9)).has(0), 9);
        c.fault(ten + "person x rank 1;", 6, ten.length());
        c.fault(ten + " person", 6, ten.length() + 1);
        c.fault(ten + "person pa rank 10;", 6, ten.length());
    }

    /** "coin NAME worth N of NAME (1 .. 99". */
    private static void worths() {
        c.at("terms I, a COIN's worth 1 .. 99");
        c.due("worth 1", Checks.of(AB + "coin c worth 1 of a;").coin(0, 0), 1);
        c.due("worth 99", Checks.of(AB + "coin c worth 99 of a;").coin(0, 0), 99);
        behindAB("coin c worth 0 of a;", 4, 13);
        behindAB("coin c worth 100 of a;", 4, 13);
        behindAB("coin c worth 0000 of a;", 4, 13);
    }

    /** "12 COINS". */
    private static void twelveCoins() {
        c.at("terms I, 12 COINS");
        String twelve = Checks.people(1) + Checks.coins(12);
        c.fine(twelve, 13);
        c.due("has(1)", Checks.of(twelve).has(1), 12);
        c.due("has(1)", Checks.of(Checks.people(1) + Checks.coins(11)).has(1), 11);
        c.fault(twelve + "coin x worth 1 of pa;", 6, twelve.length());
        c.fault(twelve + "\ncoin", 6, twelve.length() + 1);
        c.fault(twelve + "coin ca worth 0 of x;", 6, twelve.length());
    }

    /** "then knows NAME { NAME } if it knows others than him": nobody, one, all the others. */
    private static void knows() {
        c.at("terms I, whom a COIN knows");
        c.due("nobody else", Checks.of(ABC).coin(0, 2), 1);
        c.due("one", Checks.of(AB + "coin c worth 5 of a knows b;").coin(0, 2), 3);
        CoinCircle x = Checks.of(Checks.people(10) + "coin c worth 1 of pe knows pj pi ph pg pf pd pc pb pa;");
        c.due("all", x.coin(0, 2), 1023);
        c.due("has(8)", x.has(8), 1);
        behindAB("coin c worth 5 of a knows;", 1, 25);
        behindAB("coin c worth 5 of a knows", 1, 25);
    }

    /** "PEOPLE, unlike ones, not him": FAULT 3 at the NAME's first byte. */
    private static void knowsUnlikeOnes() {
        c.at("terms I, a COIN knows unlike ones, not him");
        behindAB("coin c worth 5 of a knows a;", 3, 26);
        behindAB("coin c worth 5 of a knows b b;", 3, 28);
        behindAB("coin c worth 5 of a knows b a;", 3, 28);
        behindAB("coin c worth 5 of a knows c;", 3, 26);
    }

    /** "goods NAME worth N by NAME (0 .. 99". */
    private static void goodsWorths() {
        c.at("terms I, worth of GOODS 0 .. 99");
        c.due("worth 0", Checks.of(AB + "goods g worth 0 by a;").goods(0, 0, 0), 0);
        c.due("worth 99", Checks.of(AB + "goods g worth 99 by b;").goods(0, 0, 0), 99);
        behindAB("goods g worth 100 by a;", 4, 14);
    }

    /** "10 GOODS". */
    private static void tenGoods() {
        c.at("terms I, 10 GOODS");
        String ten = Checks.people(1) + Checks.goods(10);
        c.fine(ten, 11);
        c.due("has(2)", Checks.of(ten).has(2), 10);
        c.due("has(2)", Checks.of(Checks.people(1) + Checks.goods(9)).has(2), 9);
        c.fault(ten + "goods x worth 1 by pa;", 6, ten.length());
        c.fault(ten + "goods", 6, ten.length());
        c.fine(ten + Checks.coins(12) + "person x rank 1;", 24);
    }

    /** "snub NAME NAME (a COIN, a PERSON whom it does not know, not told already". */
    private static void snubs() {
        c.at("terms I, snub");
        behindABC("snub c a;", 3, 7);
        behindAB("coin c worth 5 of a knows b;snub c b;", 3, 35);
        behindABC("snub c b;snub c b;", 3, 16);
        behindABC("snub b c;", 3, 5);
        behindABC("snub c c;", 3, 7);
        behindABC("snub c b a;", 1, 9);
        behindABC("snub c;", 1, 6);
        behindABC("snub c b;coin d worth 5 of a;snub d b;snub d b", 3, 45);
        c.fine(ABC + "coin d worth 5 of a;snub c b;snub d b;", 6);
    }

    /** "snubbed by him at first": by one, by all but who holds it. */
    private static void snubbedAtFirst() {
        c.at("terms I, snubbed at first");
        CoinCircle x = Checks.of(ABC + "snub c b;");
        c.due("coin(0, 3)", x.coin(0, 3), 2);
        c.due("may(0, 1)", x.may(0, 1), -1);
        StringBuilder s = new StringBuilder(Checks.people(10) + "coin c worth 1 of pa;");
        for (char k = 'b'; k <= 'j'; k++) s.append("snub c p").append(k).append(";");
        CoinCircle y = Checks.of(s.toString());
        c.due("coin(0, 3)", y.coin(0, 3), 1022);
        c.due("has(7)", y.has(7), 9);
    }

    /** "fades N (0 .. 99; 0 without: never)". */
    private static void fades() {
        c.at("terms I, fades 0 .. 99");
        c.due("fades 99", Checks.of("fades 99;").has(3), 99);
        c.fault("fades 100;", 4, 6);
        for (String told : new String[] {"", "fades 0;"}) {
            CoinCircle x = Checks.of(AB + "coin c worth 5 of a knows b;" + told);
            c.due("has(3)", x.has(3), 0);
            Checks.passDays(x, 999);
            c.due("never", x.coin(0, 2), 3);
        }
    }

    /** "vogue N (0 .. 100; 0 without)". */
    private static void vogue() {
        c.at("terms I, vogue 0 .. 100");
        c.due("vogue 0", Checks.of("vogue 0;").has(4), 0);
        c.due("vogue 100", Checks.of("vogue 100;").has(4), 100);
        c.due("without", Checks.of(ABC).has(4), 0);
        c.fault("vogue 101;", 4, 6);
    }

    /** "the last one of each counts". */
    private static void theLastOneCounts() {
        c.at("terms I, the last fades, the last vogue");
        CoinCircle x = Checks.of("fades 5;vogue 6;fades 7;vogue 8;");
        c.due("has(3)", x.has(3), 7);
        c.due("has(4)", x.has(4), 8);
        CoinCircle y = Checks.of("fades 5;vogue 6;vogue 0;fades 0;");
        c.due("has(3)", y.has(3), 0);
        c.due("has(4)", y.has(4), 0);
    }

    /** "presents TEST, price SUM (one each)", FAULT 6: "a second presents, price, too". */
    private static void oneEach() {
        c.at("fault 6, a second presents, price");
        c.fine("presents all;price 1;", 2);
        c.fault("presents all;presents all;", 6, 13);
        c.fault("presents all;price 1;presents", 6, 21);
        c.fault("price 1;price 1;", 6, 8);
        c.fault("price 0;presents not all; price", 6, 26);
        // what is refused leaves no room taken
        CoinCircle x = new CoinCircle();
        Checks.tell(x, "presents all;price 1;x");
        c.due("once more", Checks.tell(x, "presents all;price 1;"), 2);
    }

    // ---- TEST and SUM

    /** What the SUM of price gives, in 0 .. 999: GOODS worth 7 of b (rank 2) for a (rank 1), who holds a COIN that b knows not. */
    private static void sum(String sum, int want) {
        c.due("price " + sum, Checks.of(ABC + "goods g worth 7 by b;price " + sum + ";").goods(0, 0, 2), want);
    }

    private static void holds(String test, boolean want) {
        c.due("presents " + test, Checks.of(ABC + "presents " + test + ";").may(0, 1), want ? 1 : 0);
    }

    /** "SIGN < or > or =": like ones are neither less nor more. */
    private static void signs() {
        c.at("terms I, SIGN");
        holds("4<5", true);
        holds("5<5", false);
        holds("6<5", false);
        holds("6>5", true);
        holds("5>5", false);
        holds("4>5", false);
        holds("5=5", true);
        holds("5=4", false);
        holds("0-1<0", true);
        holds("0-1>0", false);
        for (String sign : new String[] {"4<5", "6>5", "5=5"}) {
            holds("not " + sign, false);
            holds("not not " + sign, true);
            holds(sign + " and all", true);
            holds(sign + " and not all", false);
            holds("not all or " + sign, true);
            holds(sign + " and 4<5 and 6>5 and 5=5", true);
        }
    }

    /** "All from the left on", products ahead of sums, and ahead of or. */
    private static void fromTheLeft() {
        c.at("terms I, all from the left on");
        sum("20-5-3", 12);
        sum("20-5+3", 18);
        sum("100/10/5", 2);
        sum("100/10*5", 50);
        sum("3*100/7", 42);
        sum("17%10*3", 21);
        sum("3*17%10", 1);
        sum("2+3*4", 14);
        sum("2*3+4", 10);
        sum("20-6/2", 17);
        sum("(2+3)*4", 20);
        holds("not all and not all or all", true);
        holds("all or all and not all", true);
        holds("not all and [all or all]", false);
        holds("not not all", true);
    }

    /** "/ gives the greatest whole number not above". */
    private static void division() {
        c.at("terms I, /");
        sum("7/2", 3);
        sum("8/2", 4);
        sum("1/2", 0);
        holds("(0-7)/2=0-4", true);
        holds("7/(0-2)=0-4", true);
        holds("(0-8)/2=0-4", true);
        holds("(0-7)/(0-2)=3", true);
        holds("(0-1)/9999=0-1", true);
    }

    /** "% what is left (a less b times that)". */
    private static void whatIsLeft() {
        c.at("terms I, %");
        sum("7%2", 1);
        sum("8%2", 0);
        sum("1%2", 1);
        holds("(0-7)%2=1", true);
        holds("7%(0-2)=0-1", true);
        holds("(0-7)%(0-2)=0-1", true);
        holds("(0-8)%2=0", true);
        holds("(0-1)%9999=9998", true);
    }

    /** "by 0 both give 0". */
    private static void byNothing() {
        c.at("terms I, by 0");
        holds("7/0=0", true);
        holds("7%0=0", true);
        holds("0/0=0", true);
        holds("0%0=0", true);
        holds("(0-7)/(5-5)=0", true);
        holds("(0-7)%(5-5)=0", true);
        sum("9+7/0", 9);
    }

    /** "each result above 10 to the 6 is that". */
    private static void tooMuch() {
        c.at("terms I, above 10 to the 6");
        holds("1000*1000-1<1000*1000", true);
        holds("1000*1000+1=1000*1000", true);
        holds("1001*1000=1000*1000", true);
        holds("1000*1000-1+1=1000*1000", true);
        holds("1000*1000-1+2-1=1000*1000-1", true);
        sum("1000*1000+900-9999*100", 100);
        sum("999*1001-9999*100", 99);
        // 10 to the 12 wraps around to less than 0 in 32 bits
        holds("(1000*1000)*(1000*1000)=1000*1000", true);
        holds("1000*1000*1000*1000*1000*1000=1000*1000", true);
        holds("(0-1000*1000)*(0-1000*1000)=1000*1000", true);
        holds("(0-1000*1000)/(0-1)+5=1000*1000", true);
    }

    /** "below -10 to the 6 likewise". */
    private static void tooLittle() {
        c.at("terms I, below -10 to the 6");
        holds("0-1000*1000<1-1000*1000", true);
        holds("0-1000*1000-1=0-1000*1000", true);
        holds("0-1000*1000-5+5=5-1000*1000", true);
        holds("(0-1000)*1001=0-1000*1000", true);
        sum("0-1000*1000-900+9999*100+100+99", 99);
        holds("(0-1000*1000)*(1000*1000)=0-1000*1000", true);
    }

    /** "min ( SUM , SUM ) ; max ( SUM , SUM )": either place, and like ones. */
    private static void minAndMax() {
        c.at("terms I, min and max");
        sum("min(3,8)", 3);
        sum("min(8,3)", 3);
        sum("max(3,8)", 8);
        sum("max(8,3)", 8);
        sum("min(4,4)+max(5,5)", 9);
        holds("min(0-2,1)=0-2", true);
        holds("max(0-2,1)=1", true);
    }

    /** "In presents: ..": the least and the most that each word can be. */
    private static void wordsOfPresents() {
        c.at("terms I, the words of presents");
        String ten = "person p rank 0;person q rank 9;" + Checks.people(8);
        String most = ten + "coin c worth 99 of q knows pa pb pc pd pe pf pg ph;" + "presents ";
        String last = Checks.coins(11).replace(" of pa;", " of q;");
        c.due("the most", Checks.of(most + "worth=99 and rank=9 and other=0 and circle=9 and day=0 and holds=12;" + last).may(0, 0), 1);
        c.due("the least", Checks.of(ten + "coin c worth 1 of p;presents worth=1 and rank=0 and other=9 and circle=1 and day=0 and holds=1;")
            .may(0, 1), 1);
        CoinCircle x = Checks.of(ABC + "presents day=999;");
        Checks.passDays(x, 998);
        c.due("DAY 998", x.may(0, 1), 0);
        x.days(1);
        c.due("DAY 999", x.may(0, 1), 1);
    }

    /** "In price: ..": the least and the most that each word can be. */
    private static void wordsOfPrice() {
        c.at("terms I, the words of price");
        String two = "person p rank 0;person q rank 9;";
        String twelve = Checks.coins(12).replace(" of pa;", " of q knows p;");
        String least = two + "goods g worth 0 by q;price 1*";
        String most = two + twelve + "goods g worth 99 by p;price 1*";
        String[] words = {"worth", "rank", "other", "circle", "day", "holds"};
        int[] leasts = {0, 0, 9, 0, 0, 0};
        int[] mosts = {99, 9, 0, 12, 0, 12};
        for (int k = 0; k < 6; k++) {
            c.due("the least " + words[k], Checks.of(least + words[k] + ";").goods(0, 0, 2), leasts[k]);
            c.due("the most " + words[k], Checks.of(most + words[k] + ";").goods(0, 1, 2), mosts[k]);
        }
        CoinCircle x = Checks.of(most + "day;");
        Checks.passDays(x, 999);
        c.due("the most day", x.goods(0, 1, 2), 999);
        // of three COINS that the buyer holds only one knows the seller; the seller's own do not count
        CoinCircle y = Checks.of(AB + "coin c worth 1 of a knows b;coin d worth 1 of a;coin e worth 1 of a;coin f worth 1 of b knows a;"
            + "goods g worth 1 by b;price circle*10+holds;");
        c.due("circle and holds", y.goods(0, 0, 2), 13);
    }

    // ---- NAMES, NUMBERS, Blanks, OWN WORDS

    /** "NAMES: 1 to 6 letters", FAULT 1: "a 7th letter of what is no OWN WORD .. at itself, whatever may stand there". */
    private static void nameLengths() {
        c.at("terms I, NAMES of 1 to 6 letters");
        c.fine("person a rank 1;person z rank 1;person abcdef rank 1;person uvwxyz rank 1;", 4);
        c.fault("person abcdefg rank 1;", 1, 13);
        c.fault("person abcdefghijklm rank 1;", 1, 13);
        c.fault("persons", 1, 6);
        c.fault("person a ranking 1;", 1, 15);
        c.fault("person a rank abcdefg;", 1, 20);
        c.fault("person a rank 1 abcdefg", 1, 22);
        behindAB("coin c worth 5 of presentx", 1, 24);
        behindAB("coin c worth 5 of a knows b abcdefg;", 1, 34);
        behindAB("presents allknown", 1, 15);
        behindAB("price worthless;", 1, 12);
        // six letters of a longer NAME are no NAME of their own
        c.fault("person abcdef rank 1;coin c worth 1 of abcdefg;", 1, 45);
    }

    /** "unlike ones (of all sorts)", FAULT 2: "a NAME to be given that is there already, at its first byte". */
    private static void unlikeNames() {
        c.at("fault 2, a NAME that is there already");
        String all = ABC + "goods g worth 1 by a;";
        int length = all.length();
        String[] taken = {"a", "b", "c", "g"};
        for (String name : taken) {
            c.fault(all + "person " + name + " rank 1;", 2, length + 7);
            c.fault(all + "coin " + name + " worth 1 of a;", 2, length + 5);
            c.fault(all + "goods " + name + " worth 1 by a;", 2, length + 6);
        }
        c.fault(all + "person\n\nc", 2, length + 8);
        c.fine(all + "person aa rank 1;coin aaa worth 1 of a;goods ab worth 1 by a;person ba rank 1;", 8);
        c.fine("person abcdef rank 1;person abcdeg rank 1;person bbcdef rank 1;", 3);
    }

    /** "told ahead of where they are asked", FAULT 3: "a NAME that is none of what is asked". */
    private static void toldAhead() {
        c.at("fault 3, a NAME that is none of what is asked");
        c.fault("coin c worth 1 of a;person a rank 1;", 3, 18);
        c.fault("goods g worth 1 by a;person a rank 1;", 3, 19);
        behindAB("coin c worth 1 of a knows x;person x rank 1;", 3, 26);
        behindAB("snub c a;coin c worth 1 of b;", 3, 5);
        behindABC("snub c x;person x rank 1;", 3, 7);
        behindABC("coin d worth 1 of c;", 3, 18);
        behindABC("coin d worth 1 of d;", 3, 18);
        behindABC("goods g worth 1 by c;", 3, 19);
        behindABC("goods g worth 1 by g;", 3, 19);
        behindABC("goods g worth 1 by a;snub g b;", 3, 26);
        behindABC("snub a b;", 3, 5);
        behindABC("coin d worth 1 of aa;", 3, 18);
    }

    /** "NUMBERS: 1 to 4 digits", FAULT 1: "a 5th digit at itself, whatever may stand there". */
    private static void numberLengths() {
        c.at("terms I, NUMBERS of 1 to 4 digits");
        c.due("rank 0009", Checks.of("person a rank 0009;").person(0, 0), 9);
        sum("9999-9990", 9);
        sum("0000+0001", 1);
        c.fault("person a rank 00009;", 1, 18);
        c.fault("person a rank 12345;", 1, 18);
        c.fault("person a rank 123456789;", 1, 18);
        c.fault("fades 10000;", 1, 10);
        c.fault("person 12345", 1, 11);
        c.fault("12345", 1, 4);
        c.fault("fades 1 23456", 1, 12);
        c.fault("00000 a rank 1;", 1, 4);
        behindAB("price 10000;", 1, 10);
    }

    /** FAULT 4: "a NUMBER that can't be, at its first byte", however it is told. */
    private static void numbersThatCannotBe() {
        c.at("fault 4, a NUMBER that can't be");
        c.fault("person a rank 0010;", 4, 14);
        c.fault("person a rank\n 10", 4, 15);
        c.fault("fades 0100", 4, 6);
        behindAB("coin c worth 00 of x", 4, 13);
        // in a SUM each one can be
        c.fine("price 9999;presents 0=9999;", 2);
    }

    /** "Blanks (10, 32) are where one likes". */
    private static void blanks() {
        c.at("terms I, blanks where one likes");
        c.fine(" \n person \n a\nrank\n\n1 \n;\n coin c worth 1 of a ; presents [ 1 < 2 ] ; price min\n(\n1 , 2 ) ;  ", 4);
        c.fine("person a rank 1;price(1)+min(1,2);presents[1<2]or(1)<2;", 3);
        for (int blank : new int[] {0, 9, 11, 12, 13, 31, 33, 160, 255}) {
            c.fault("person" + (char) blank + "a rank 1;", 1, 6);
            c.fault("fades 1;" + (char) blank, 1, 8);
        }
    }

    /** Promise 7, "1 .. 26", and "NUMBERS": no other byte than a to z is a letter, none than 0 to 9 a digit. */
    private static void lettersAndDigits() {
        c.at("terms I, letters and digits");
        for (int other : new int[] {'`', '{', '@', 'A', 'Z', '[', '_', '\'', '"', 225, 250}) {
            c.fault("person " + (char) other + " rank 1;", 1, 7);
            c.fault("person a" + (char) other + " rank 1;", 1, 8);
        }
        for (int other : new int[] {':', '/', '.', 'O', 176, 185}) {
            c.fault("fades " + (char) other + ";", 1, 6);
            c.fault("fades 1" + (char) other + ";", 1, 7);
        }
    }

    /** "words and numbers side by side need one": FAULT 1 at the first byte of what lacks it, whatever comes further on. */
    private static void wantingBlanks() {
        c.at("terms I, words and numbers side by side");
        c.fault("person a rank1;", 1, 13);
        c.fault("fades 1vogue 2;", 1, 7);
        c.fault("person a1 rank 1;", 1, 8);
        behindAB("coin c worth5 of a;", 1, 12);
        behindAB("coin c worth 5of a;", 1, 14);
        behindAB("presents 1<2and all;", 1, 12);
        c.fault("fades 1abcdefg", 1, 7);
        c.fault("fades12345", 1, 5);
        c.fault("person a12345 rank 1;", 1, 8);
        // no blank parts two words, or two numbers, from one
        c.fault("persona rank 1;", 1, 6);
        c.fault("fades 12 34;", 1, 9);
    }

    /** "OWN WORDS, which no NAME is", FAULT 1: "an OWN WORD where a NAME must be". */
    private static void ownWords() {
        c.at("fault 1, an OWN WORD where a NAME must be");
        for (String word : OWN) {
            c.fault("person " + word + " rank 1;", 1, 7);
            behindAB("coin " + word + " worth 1 of a;", 1, 5);
            behindAB("goods " + word + " worth 1 by a;", 1, 6);
            behindAB("coin c worth 1 of " + word + ";", 1, 18);
            behindAB("coin c worth 1 of a knows " + word + ";", 1, 26);
            behindAB("goods g worth 1 by " + word + ";", 1, 19);
            behindABC("snub " + word + " a;", 1, 5);
            behindABC("snub c " + word + ";", 1, 7);
            if (word.length() < 6) c.fine("person " + word + "x rank 1;", 1);
            if (word.length() > 2) c.fine("person " + word.substring(0, Math.min(6, word.length() - 1)) + " rank 1;", 1);
        }
    }

    // ---- FAULTS

    /** FAULT 1: "the first byte with which no SOCIETY goes on (words and numbers whole, at their first byte". */
    private static void wholeWords() {
        c.at("fault 1, words and numbers whole");
        c.fault("fadex 1;", 1, 0);
        c.fault("person a rang 1;", 1, 9);
        c.fault("persona", 1, 6);
        c.fault("perso", 1, 0);
        c.fault("fades 1 23;", 1, 8);
        c.fault("12 fades", 1, 0);
        c.fault("person a rank worthy;", 1, 14);
        behindAB("presents alle;", 1, 9);
        behindAB("presents 1<2 ands all;", 1, 13);
    }

    /** FAULT 1: "the first byte with which no SOCIETY goes on": each word of a STATEMENT must stand, and nothing in its place. */
    private static void wantingWords() {
        c.at("fault 1, a word that is wanting");
        c.fault("person a 1;", 1, 9);
        c.fault("person rank 1;", 1, 7);
        c.fault("person a rank;", 1, 13);
        c.fault("person a 1 5;", 1, 9);
        c.fault("person x a 5;", 1, 9);
        behindAB("coin c 5 of a;", 1, 7);
        behindAB("coin c worth of a;", 1, 13);
        behindAB("coin c worth 5 a;", 1, 15);
        behindAB("coin c worth 5 of;", 1, 17);
        behindAB("coin c worth 5 of a b;", 1, 20);
        behindAB("coin c worth 5 by a;", 1, 15);
        behindAB("goods g 5 by a;", 1, 8);
        behindAB("goods g worth by a;", 1, 14);
        behindAB("goods g worth 5 a;", 1, 16);
        behindAB("goods g worth 5 of a;", 1, 16);
        behindABC("snub b;", 3, 5);
        behindABC("snub c;", 1, 6);
        c.fault("vogue;", 1, 5);
        c.fault("price min;", 1, 9);
        c.fault("price max+1;", 1, 9);
        // 59 is the byte of ; and 43 that of +
        c.fault("fades 1 59", 1, 8);
        c.fault("price 1 43 2;", 1, 8);
        c.fault("fades 1 fades 2;", 1, 8);
        c.fault("person a rank 1 person b rank 2;", 1, 16);
    }

    /** FAULT 1: "the first byte with which no SOCIETY goes on": signs where none, or another, may stand. */
    private static void wrongSigns() {
        c.at("fault 1, signs");
        c.fault("presents all or;", 1, 15);
        c.fault("presents all and;", 1, 16);
        c.fault("presents all not;", 1, 13);
        c.fault("presents all [;", 1, 13);
        c.fault("presents or all;", 1, 9);
        c.fault("presents not;", 1, 12);
        for (String sign : new String[] {"+", "-", "*", "/", "%"}) c.fault("price 1" + sign + ";", 1, 8);
        for (String sign : new String[] {"<", ">", "="}) c.fault("presents 1" + sign + ";", 1, 11);
        c.fault("price ();", 1, 7);
        c.fault("price (1;", 1, 8);
        c.fault("price (1];", 1, 8);
        c.fault("price 1);", 1, 7);
        c.fault("price [1];", 1, 6);
        c.fault("price min(1;", 1, 11);
        c.fault("price min(1);", 1, 11);
        c.fault("price min(1,);", 1, 12);
        c.fault("price min(1,2,3);", 1, 13);
        c.fault("price min 1;", 1, 10);
        c.fault("price min[1,2];", 1, 9);
        c.fault("price 1=1;", 1, 7);
        c.fault("price all;", 1, 6);
        c.fault("price not 1;", 1, 6);
        c.fault("presents [];", 1, 10);
        c.fault("presents [1];", 1, 11);
        c.fault("presents [all;", 1, 13);
        c.fault("presents [all);", 1, 13);
        c.fault("presents (1<2);", 1, 11);
        c.fault("presents 1;", 1, 10);
        c.fault("presents 1<2<3;", 1, 12);
        c.fault("presents;", 1, 8);
        c.fault("price;", 1, 5);
        c.fault(";", 1, 0);
        c.fault("fades 1;;", 1, 8);
        c.fault("fades 1,", 1, 7);
        c.fault("fades;", 1, 5);
    }

    /** FAULT 1: "at the text's length, if it ends too soon": behind each word of a STATEMENT. */
    private static void endsTooSoon() {
        c.at("fault 1, a text that ends too soon");
        String[] statements = {"person x rank 1;", "coin x worth 1 of a knows b;", "goods x worth 1 by a;", "snub c b;", "fades 1;",
            "vogue 1;", "presents not [ 1 < 2 and all ] or min ( 1 , 2 ) = 3 ;", "price ( 1 + 2 ) * max ( 1 , 2 ) ;"};
        for (String s : statements) {
            for (int k = 1; k < s.length(); k++) {
                boolean isWhole = s.charAt(k) == ' ' || s.charAt(k) == ';' || s.charAt(k - 1) == ' ';
                if (isWhole) behindABC(s.substring(0, k), 1, k);
            }
            behindABC(s.substring(0, s.length() - 1) + "\n ", 1, s.length() + 1);
        }
    }

    /** FAULT 5: "the 8th ( [ not that is open at once .., at it". */
    private static void eightOpen() {
        c.at("fault 5, the 8th that is open at once");
        c.fine("price (((((((1)))))));", 1);
        c.fault("price ((((((((1))))))));", 5, 13);
        c.fine("presents [[[[[[[all]]]]]]];", 1);
        c.fault("presents [[[[[[[[all]]]]]]]];", 5, 16);
        c.fine("presents " + Checks.many("not ", 7) + "all;", 1);
        c.fault("presents " + Checks.many("not ", 8) + "all;", 5, 37);
        c.fine("price " + Checks.many("min(", 7) + "1" + Checks.many(",1)", 7) + ";", 1);
        c.fault("price " + Checks.many("max(", 8) + "1", 5, 37);
        c.fine("price (((((((1)))))))+(((((((1)))))));", 1);
        c.fine("presents [not [not [not [1=1]]]] and [[[[[[[all]]]]]]];", 1);
        c.fault("presents [not [not [not [(1)=1]]]];", 5, 25);
        c.fault("presents [not [not [not [not all]]]];", 5, 25);
        // what may not stand there is none that is open
        c.fault("presents " + Checks.many("not ", 7) + ";", 1, 37);
        c.fault("price (((((((1)))))))(1);", 1, 21);
    }

    /** FAULT 5: "not until its FACT ends": a not is open in all of its FACT, and no longer. */
    private static void notUntilItsFactEnds() {
        c.at("fault 5, not until its FACT ends");
        String seven = Checks.many("not ", 7);
        c.fault("presents " + seven + "(1)=1;", 5, 37);
        c.fault("presents " + seven + "1=(1);", 5, 39);
        c.fault("presents " + seven + "1+1=2*min(1,2);", 5, 46);
        c.fine("presents " + seven + "1=1 and " + seven + "1=1 or " + seven + "all;", 1);
        c.fine("presents " + Checks.many("not ", 6) + "[all] and " + Checks.many("not ", 6) + "[all];", 1);
        c.fault("presents " + Checks.many("not ", 6) + "[not all];", 5, 34);
        c.fine("presents " + Checks.many("not ", 6) + "(1)=(1);", 1);
    }

    /** "FAULTS, the first along the text". */
    private static void theFirstAlongTheText() {
        c.at("FAULTS, the first along the text");
        c.fault("person a rank 10 abcdefg #", 4, 14);
        c.fault("person a rank 1;person a rank 10;", 2, 23);
        c.fault("coin c worth 0 of x knows x", 4, 13);
        c.fault("coin c worth 1 of x worth 0", 3, 18);
        c.fault("# person", 1, 0);
        c.fault("person #;person a rank 10;", 1, 7);
        c.fault("fades 1;fades 100;fades 12345;", 4, 14);
        c.fault("presents all;presents 12345", 6, 13);
    }

    // ---- promises 4, 5, 7

    /** Promise 4: "NONE, refused (1), with a FAULT (all stays)", "The tape (it goes, refused or not)". */
    private static void refusedSociety() {
        c.at("promise 4, a refused SOCIETY");
        CoinCircle x = Checks.of(ABC + "coin d worth 3 of b knows a;fades 9;vogue 50;goods g worth 1 by b;presents rank>other;");
        x.seed(77);
        x.present(1, 0);
        x.present(0, 1);
        x.days(3);
        x.pay(1, 0);
        Checks.tape(x, 0, 1, 1, 0);
        x.letters();
        x.image();
        Checks.tape(x, "person z rank 9;coin y worth 9 of z;fades 1;vogue 1;presents all;price 9;#");
        c.refused("society()", x, 1, -1, y -> y.society());
        c.due("fault(1)", x.fault(1), 73);
        c.due("end(0)", x.end(0), true);
        c.due("end(1): the tape has gone", x.end(1), false);
        c.due("goods(0, 0, 2): price stays", x.goods(0, 0, 2), 1);
        c.due("may(0, 1): presents stays", x.may(0, 1), -1);
        c.due("letter(0, 0, 0)", x.letter(0, 0, 0), 1);
        c.due("undo()", x.undo(), true);
        c.due("coin(1, 1)", x.coin(1, 1), 1);
    }

    /** Promise 4: of a refused SOCIETY nothing is left, wherever its FAULT is: no NAME is taken, nothing open, nothing told. */
    private static void nothingIsLeft() {
        c.at("promise 4, nothing is left of a refused SOCIETY");
        String[] bad = {"person a rank 1;person b rank 2;coin c worth 5 of a;snub c b;goods g worth 1 by a;fades 5;vogue 6;presents all;price 1;#",
            "presents not not not [[[[", "price (((((((9", Checks.people(10) + Checks.coins(12) + Checks.goods(10) + "person"};
        String good = "person a rank 1;person b rank 2;coin c worth 5 of a;presents [[[[[[[all]]]]]]];price (((((((8)))))));goods g worth 1 by b;";
        for (String text : bad) {
            CoinCircle x = new CoinCircle();
            for (int n = 0; n < 2; n++) {
                c.due("refused", Checks.tell(x, text), -1);
                c.due("refused once more", Checks.tell(x, text), -1);
                c.due("told", Checks.tell(x, good), 6);
                int[] want = {2, 1, 1, 0, 0, 0, 0, 0, 0, 1, 0, 1};
                for (int k = 0; k < 12; k++) c.due("has(" + k + ")", x.has(k), want[k]);
                c.due("may(0, 1)", x.may(0, 1), 1);
                c.due("goods(0, 0, 2)", x.goods(0, 0, 2), 8);
            }
        }
    }

    /** Promise 4: "Without one .. all is as told": of the third, the fourth SOCIETY as of the first. */
    private static void oneBehindTheOther() {
        c.at("promise 4, one SOCIETY behind the other");
        CoinCircle x = new CoinCircle();
        String full = Checks.people(10) + Checks.coins(12) + Checks.goods(10) + "snub ca pb;fades 5;vogue 6;presents not all;price 7;";
        for (int n = 0; n < 4; n++) {
            c.due("full", Checks.tell(x, full), 37);
            c.due("has(7)", x.has(7), 1);
            c.due("empty", Checks.tell(x, ""), 0);
            for (int k = 0; k < 11; k++) c.due("has(" + k + ")", x.has(k), 0);
            c.due("three", Checks.tell(x, ABC + "goods g worth 2 by b;"), 4);
            c.due("may(0, 1)", x.may(0, 1), 1);
            c.due("goods(0, 0, 2)", x.goods(0, 0, 2), 2);
        }
    }

    /** Promise 4: "Without one it is DAY 0, all is as told, no ACT can be undone; the seed stays". */
    private static void newSociety() {
        c.at("promise 4, a new SOCIETY");
        CoinCircle x = Checks.of(ABC + "snub c b;fades 3;vogue 4;presents not all;price 9;goods g worth 2 by b;");
        x.seed(77);
        c.due("another one", Checks.tell(x, ABC), 3);
        x.days(5);
        x.present(0, 1);
        x.pay(0, 1);
        Checks.tape(x, 0, 1);
        x.letters();
        c.due("society()", Checks.tell(x, ABC + "goods g worth 2 by b;"), 4);
        c.due("end(1): the tape has gone", x.end(1), false);
        int[] want = {2, 1, 1, 0, 0, 0, 0, 0, 0, 1, 0, 77};
        for (int k = 0; k < 12; k++) c.due("has(" + k + ")", x.has(k), want[k]);
        c.due("met(0, 0)", x.met(0, 0), 0);
        c.due("may(0, 1)", x.may(0, 1), 1);
        c.due("goods(0, 0, 2)", x.goods(0, 0, 2), 2);
        c.due("letterIs(0)", x.letterIs(0), -1);
        c.refused("undo()", x, 4, 0, y -> y.undo() ? 1 : 0);
    }

    /** Terms II: "it has MET all whom it knows on DAY 0", in a new SOCIETY, too, whatever was MET in the one ahead. */
    private static void newSocietyHasMetOnDay0() {
        c.at("promise 4, a new SOCIETY has MET on DAY 0");
        StringBuilder s = new StringBuilder(Checks.people(10));
        for (char k = 'a'; k <= 'l'; k++) s.append("coin c").append(k).append(" worth 1 of pa knows pb pc pd pe pf pg ph pi pj;");
        CoinCircle x = Checks.of(s.toString());
        x.days(7);
        for (int k = 0; k < 12; k++) x.pay(k, 1 + k % 9);
        c.due("MET on DAY 7", x.met(11, 3), 7);
        int[] late = new int[2 + 12 * 11];
        late[1] = 9;
        for (int k = 2; k < late.length; k++) late[k] = (k - 2) % 11 == 0 ? 0 : 2;
        Checks.tape(x, Checks.withCheck(late));
        c.due("on()", x.on(), true);
        c.due("MET on DAY 9", x.met(10, 9), 9);
        c.due("society()", Checks.tell(x, s.toString()), 22);
        for (int coin = 0; coin < 12; coin++) {
            for (int person = 0; person < 10; person++) c.due("met(" + coin + ", " + person + ")", x.met(coin, person), 0);
        }
    }

    /** Promise 5: "0 without, and ahead of any", "NONE without", "NONE for another what". */
    private static void faultAsked() {
        c.at("promise 5");
        CoinCircle x = new CoinCircle();
        int[] others = {-1, 2, 3, MOST, LEAST};
        c.due("fault(0), ahead of any", x.fault(0), 0);
        c.due("fault(1), ahead of any", x.fault(1), -1);
        for (int what : others) c.due("fault(" + what + ")", x.fault(what), -1);
        Checks.tell(x, "fades 100;");
        c.due("fault(0)", x.fault(0), 4);
        c.due("fault(1)", x.fault(1), 6);
        for (int what : others) c.due("fault(" + what + ")", x.fault(what), -1);
        Checks.tell(x, "#");
        c.due("fault(0), the latest", x.fault(0), 1);
        c.due("fault(1), the latest", x.fault(1), 0);
        x.days(1);
        c.due("fault(0), till the next one", x.fault(0), 1);
        Checks.tell(x, "");
        c.due("fault(0), without", x.fault(0), 0);
        c.due("fault(1), without", x.fault(1), -1);
    }

    /** Promise 7: "Letter k (0 .. 5)", "1 .. 26; 0 behind it", "NONE when there is none such". */
    private static void letters() {
        c.at("promise 7");
        CoinCircle x = Checks.of("person a rank 1;person bcdefz rank 1;coin y worth 1 of a;goods zz worth 1 by a;");
        int[] b = {2, 3, 4, 5, 6, 26};
        for (int k = 0; k < 6; k++) {
            c.due("letter(0, 0, " + k + ")", x.letter(0, 0, k), k == 0 ? 1 : 0);
            c.due("letter(0, 1, " + k + ")", x.letter(0, 1, k), b[k]);
            c.due("letter(1, 0, " + k + ")", x.letter(1, 0, k), k == 0 ? 25 : 0);
            c.due("letter(2, 0, " + k + ")", x.letter(2, 0, k), k < 2 ? 26 : 0);
        }
        for (int k : new int[] {-1, 6, 7, MOST, LEAST}) c.asked("letter(0, 0, " + k + ")", x, -1, y -> y.letter(0, 0, k));
        for (int k : new int[] {-1, 3, MOST, LEAST}) c.asked("letter(" + k + ", 0, 0)", x, -1, y -> y.letter(k, 0, 0));
        int[][] none = {{0, 2}, {1, 1}, {2, 1}, {0, -1}, {1, -1}, {2, -1}, {0, MOST}, {0, LEAST}};
        for (int[] n : none) c.due("letter(" + n[0] + ", " + n[1] + ", 0)", x.letter(n[0], n[1], 0), -1);
        CoinCircle full = Checks.of(Checks.people(10) + Checks.coins(12) + Checks.goods(10));
        c.due("the last PERSON", full.letter(0, 9, 1), 10);
        c.due("the last COIN", full.letter(1, 11, 1), 12);
        c.due("the last GOODS", full.letter(2, 9, 1), 10);
        c.due("behind the last PERSON", full.letter(0, 10, 1), -1);
        c.due("behind the last COIN", full.letter(1, 12, 1), -1);
        c.due("behind the last GOODS", full.letter(2, 10, 1), -1);
    }

    private static void statements() {
        noStatement();
        eightyStatements();
        eightyOneStatements();
        ranks();
        tenPeople();
        worths();
        twelveCoins();
        knows();
        knowsUnlikeOnes();
        goodsWorths();
        tenGoods();
        snubs();
        snubbedAtFirst();
        fades();
        vogue();
        theLastOneCounts();
        oneEach();
    }

    private static void formulas() {
        signs();
        fromTheLeft();
        division();
        whatIsLeft();
        byNothing();
        tooMuch();
        tooLittle();
        minAndMax();
        wordsOfPresents();
        wordsOfPrice();
    }

    private static void words() {
        nameLengths();
        unlikeNames();
        toldAhead();
        numberLengths();
        numbersThatCannotBe();
        blanks();
        lettersAndDigits();
        wantingBlanks();
        ownWords();
    }

    private static void faults() {
        wholeWords();
        wantingWords();
        wrongSigns();
        endsTooSoon();
        eightOpen();
        notUntilItsFactEnds();
        theFirstAlongTheText();
    }

    public static void main(String[] args) {
        statements();
        formulas();
        words();
        faults();
        refusedSociety();
        nothingIsLeft();
        oneBehindTheOther();
        newSociety();
        newSocietyHasMetOnDay0();
        faultAsked();
        letters();
        c.finish();
    }
}
