/** The edges of what is asked: a method for each sentence of terms III and of promises 6, 8 to 13, 22 to 24 and 27 to 29 that names one. */
public final class EdgeAskTest {
    private static final Checks c = new Checks();
    private static final String PEOPLE = "person a rank 3;person b rank 1;person d rank 2;person e rank 0;person f rank 1;";
    private static final String TOWN = PEOPLE + "coin p worth 10 of a knows b;coin q worth 5 of a;coin r worth 4 of b knows a d;"
        + "snub q d;goods g worth 8 by b;presents rank>other;";
    private static final int MOST = Integer.MAX_VALUE;
    private static final int LEAST = Integer.MIN_VALUE;
    /** Numbers of which no PERSON, COIN or GOODS of any SOCIETY is one. */
    private static final int[] NONE_SUCH = {-1, -2, 12, 31, 32, 33, 64, MOST, LEAST};

    private static String town(String coins) { return PEOPLE + coins; }

    /** Twelve COINS worth 99 of pj, who is the last of ten PEOPLE, each known by all. */
    private static String full() {
        StringBuilder s = new StringBuilder(Checks.people(10));
        for (char k = 'a'; k <= 'l'; k++) s.append("coin c").append(k).append(" worth 99 of pj knows pa pb pc pd pe pf pg ph pi;");
        return s.toString();
    }

    // ---- has, person, coin, met, may, goods, spend

    /** Promise 6: "NONE for others". */
    private static void hasOthers() {
        c.at("promise 6, others");
        for (int what : new int[] {-1, 12, 13, MOST, LEAST}) {
            c.asked("has(" + what + ")", Checks.of(TOWN), -1, x -> x.has(what));
            c.asked("has(" + what + "), a new one", new CoinCircle(), -1, x -> x.has(what));
        }
    }

    /** Promise 6: "How many there are": of an empty SOCIETY, of the fullest one. */
    private static void hasLeastAndMost() {
        c.at("promise 6, the least and the most");
        CoinCircle empty = Checks.of("");
        for (int what = 0; what < 11; what++) c.due("has(" + what + ")", empty.has(what), 0);
        CoinCircle x = Checks.of(full() + "goods ga worth 1 by pa;fades 99;vogue 100;");
        int[] want = {10, 12, 1, 99, 100, 0, 12 * 9 * 99, 0, 12, 0, 0, 1};
        for (int what = 0; what < 12; what++) c.due("has(" + what + ")", x.has(what), want[what]);
        for (int k = 0; k < 10; k++) x.days(99);
        int[] late = {10, 12, 1, 99, 100, 990, 0, 0, 0, 512, 10, 1};
        for (int what = 0; what < 12; what++) c.due("has(" + what + ")", x.has(what), late[what]);
    }

    /** Terms III, FLOW: "each as often as there are others than who holds it whom it KNOWS": none for who holds it. */
    private static void flow() {
        c.at("terms III, FLOW");
        c.due("nobody else", Checks.of(town("coin p worth 10 of a;")).has(6), 0);
        c.due("one", Checks.of(town("coin p worth 10 of a knows b;")).has(6), 10);
        CoinCircle x = Checks.of(town("coin p worth 10 of a knows b;coin q worth 7 of a knows b d e f;"));
        c.due("two COINS", x.has(6), 10 + 28);
        x.pay(0, 1);
        c.due("PAID, it knows who held it", x.has(6), 10 + 28);
    }

    /** Promise 6: "7 snubs", a COIN and a PERSON each. */
    private static void howManySnubs() {
        c.at("promise 6, snubs");
        CoinCircle x = Checks.of(town("coin p worth 10 of a;coin q worth 7 of a;snub p b;snub p d;snub q d;presents rank>other;"));
        c.due("has(7)", x.has(7), 3);
        c.due("coin(0, 3)", x.coin(0, 3), 2 | 4);
        c.due("present(1, 1)", x.present(1, 1), 1);
        c.due("has(7)", x.has(7), 3);
    }

    /** Promise 6: "8 COINS that KNOW all PEOPLE": of one PERSON each COIN does. */
    private static void knowAllPeople() {
        c.at("promise 6, COINS that KNOW all PEOPLE");
        CoinCircle one = Checks.of("person a rank 1;coin p worth 1 of a;coin q worth 1 of a;");
        c.due("one PERSON", one.has(8), 2);
        c.due("his purse is USELESS all the same", one.has(9), 1);
        CoinCircle x = Checks.of("person a rank 1;person b rank 1;person d rank 1;coin p worth 1 of a knows b;coin q worth 1 of a knows b d;");
        c.due("has(8)", x.has(8), 1);
        c.due("present(0, 2)", x.present(0, 2), 1);
        c.due("has(8)", x.has(8), 2);
    }

    /** Terms III: "USELESS is a purse, if its COINS are some, and none KNOWS anybody else". */
    private static void uselessPurses() {
        c.at("terms III, USELESS");
        CoinCircle x = Checks.of(town("coin p worth 1 of a;coin q worth 1 of a;coin r worth 1 of b;coin s worth 1 of b knows a;"
            + "coin t worth 1 of f;"));
        c.due("has(9)", x.has(9), 1 | 16);
        int[] want = {1, 0, 0, 0, 1};
        for (int k = 0; k < 5; k++) c.due("person(" + k + ", 5)", x.person(k, 5), want[k]);
        x.present(1, 1);
        c.due("one that KNOWS somebody is enough", x.person(0, 5), 0);
        x.pay(3, 0);
        c.due("what is left to b", x.person(1, 5), 1);
    }

    /** Promise 8: "NONE when there is none such, or for others"; promise 9: likewise. */
    private static void personAndCoinOthers() {
        c.at("promise 8, none such, others");
        for (int none : NONE_SUCH) {
            for (int what = 0; what < 6; what++) c.due("person(" + none + ", " + what + ")", Checks.of(TOWN).person(none, what), -1);
            c.asked("person(" + none + ", 0)", Checks.of(TOWN), -1, x -> x.person(none, 0));
        }
        c.asked("behind the last one", Checks.of(TOWN), -1, x -> x.person(5, 0));
        c.due("the last one", Checks.of(TOWN).person(4, 0), 1);
        for (int what : new int[] {-1, 6, MOST, LEAST}) c.asked("person(0, " + what + ")", Checks.of(TOWN), -1, x -> x.person(0, what));
        c.due("a new one", new CoinCircle().person(0, 0), -1);
        c.at("promise 9, none such, others");
        for (int none : NONE_SUCH) {
            for (int what = 0; what < 5; what++) c.due("coin(" + none + ", " + what + ")", Checks.of(TOWN).coin(none, what), -1);
        }
        c.asked("behind the last one", Checks.of(TOWN), -1, x -> x.coin(3, 0));
        c.due("the last one", Checks.of(TOWN).coin(2, 0), 4);
        for (int what : new int[] {-1, 5, MOST, LEAST}) c.asked("coin(0, " + what + ")", Checks.of(TOWN), -1, x -> x.coin(0, what));
        c.due("a new one", new CoinCircle().coin(0, 0), -1);
    }

    /** Promise 8: of a PERSON without COINS, of one with all twelve. */
    private static void personLeastAndMost() {
        c.at("promise 8, the least and the most");
        CoinCircle x = Checks.of(TOWN);
        int[] nobody = {1, 0, 0, 0, 0, 0};
        for (int what = 0; what < 6; what++) c.due("person(4, " + what + ")", x.person(4, what), nobody[what]);
        CoinCircle y = Checks.of(full());
        int[] all = {1, 4095, 12 * 99, 4095, 0, 0};
        int[] other = {1, 0, 0, 4095, 0, 0};
        for (int what = 0; what < 6; what++) {
            c.due("person(9, " + what + ")", y.person(9, what), all[what]);
            c.due("person(0, " + what + ")", y.person(0, what), other[what]);
        }
        CoinCircle z = Checks.of(Checks.people(2) + Checks.coins(12) + "presents not all;");
        for (int k = 0; k < 12; k++) z.present(k, 1);
        c.due("he snubs all", z.person(1, 4), 4095);
        c.due("who holds them snubs none", z.person(0, 4), 0);
    }

    /** Promise 9: "4 how many it knows": who holds it counts. */
    private static void coinLeastAndMost() {
        c.at("promise 9, the least and the most");
        CoinCircle x = Checks.of(TOWN);
        int[] q = {5, 0, 1, 4, 1};
        for (int what = 0; what < 5; what++) c.due("coin(1, " + what + ")", x.coin(1, what), q[what]);
        CoinCircle y = Checks.of(full());
        int[] all = {99, 9, 1023, 0, 10};
        for (int what = 0; what < 5; what++) c.due("coin(11, " + what + ")", y.coin(11, what), all[what]);
    }

    /** Promise 10: "NONE when it does not, or there are none such". */
    private static void met() {
        c.at("promise 10, none such");
        c.asked("it does not KNOW him", Checks.of(TOWN), -1, x -> x.met(0, 2));
        c.asked("he SNUBS it", Checks.of(TOWN), -1, x -> x.met(1, 2));
        for (int none : NONE_SUCH) {
            c.asked("met(" + none + ", 0)", Checks.of(TOWN), -1, x -> x.met(none, 0));
            c.asked("met(0, " + none + ")", Checks.of(TOWN), -1, x -> x.met(0, none));
        }
        c.due("behind the last COIN", Checks.of(TOWN).met(3, 0), -1);
        c.due("behind the last PERSON", Checks.of(TOWN).met(0, 5), -1);
        c.due("a new one", new CoinCircle().met(0, 0), -1);
        CoinCircle x = Checks.of(TOWN + "fades 2;");
        Checks.passDays(x, 998);
        c.due("forgotten", x.met(0, 1), -1);
        c.due("who holds it, on DAY 0", x.met(0, 0), 0);
        x.days(1);
        c.due("present(0, 1)", x.present(0, 1), 1);
        c.due("met(0, 1)", x.met(0, 1), 999);
    }

    /** Promise 11: "NONE when it can't be PRESENTED to him, or there are none such"; nothing is changed by it. */
    private static void may() {
        c.at("promise 11, none such");
        c.asked("to who holds it", Checks.of(TOWN), -1, x -> x.may(0, 0));
        c.asked("to whom it KNOWS", Checks.of(TOWN), -1, x -> x.may(0, 1));
        c.asked("to who SNUBS it", Checks.of(TOWN), -1, x -> x.may(1, 2));
        for (int none : NONE_SUCH) {
            c.asked("may(" + none + ", 0)", Checks.of(TOWN), -1, x -> x.may(none, 0));
            c.asked("may(0, " + none + ")", Checks.of(TOWN), -1, x -> x.may(0, none));
        }
        c.due("behind the last COIN", Checks.of(TOWN).may(3, 0), -1);
        c.due("behind the last PERSON", Checks.of(TOWN).may(0, 5), -1);
        c.due("a new one", new CoinCircle().may(0, 0), -1);
        c.at("promise 11, 1 or 0");
        c.asked("the TEST holds", Checks.of(TOWN), 1, x -> x.may(0, 2));
        c.asked("of like rank it fails", Checks.of(TOWN), 0, x -> x.may(2, 4));
    }

    /** Promise 12: "NONE when there are none such, or for others": GOODS, PERSON, each what. */
    private static void goods() {
        c.at("promise 12, none such, others");
        for (int none : NONE_SUCH) {
            for (int what = 0; what < 3; what++) {
                CoinCircle x = Checks.of(TOWN);
                c.due("goods(" + none + ", 0, " + what + ")", x.goods(none, 0, what), -1);
                c.due("goods(0, " + none + ", " + what + ")", x.goods(0, none, what), -1);
            }
        }
        for (int what = 0; what < 3; what++) {
            int w = what;
            c.asked("behind the last GOODS", Checks.of(TOWN), -1, x -> x.goods(1, 0, w));
            c.asked("behind the last PERSON", Checks.of(TOWN), -1, x -> x.goods(0, 5, w));
            c.asked("the last PERSON", Checks.of(TOWN), new int[] {8, 1, 8}[w], x -> x.goods(0, 4, w));
            c.asked("who sells them", Checks.of(TOWN), new int[] {8, 1, 8}[w], x -> x.goods(0, 1, w));
            c.due("a new one", new CoinCircle().goods(0, 0, w), -1);
        }
        for (int what : new int[] {-1, 3, MOST, LEAST}) c.asked("goods(0, 0, " + what + ")", Checks.of(TOWN), -1, x -> x.goods(0, 0, what));
    }

    /** Promise 13: "NONE when there are none such, or they are one"; terms III: "worth of his COINS that KNOW that one". */
    private static void spend() {
        c.at("promise 13, none such, one");
        for (int one = 0; one < 5; one++) {
            int p = one;
            c.asked("spend(" + p + ", " + p + ")", Checks.of(TOWN), -1, x -> x.spend(p, p));
        }
        for (int none : NONE_SUCH) {
            c.asked("spend(" + none + ", 0)", Checks.of(TOWN), -1, x -> x.spend(none, 0));
            c.asked("spend(0, " + none + ")", Checks.of(TOWN), -1, x -> x.spend(0, none));
        }
        c.due("behind the last one", Checks.of(TOWN).spend(5, 0), -1);
        c.due("behind the last one", Checks.of(TOWN).spend(0, 5), -1);
        c.due("a new one", new CoinCircle().spend(0, 1), -1);
        c.at("promise 13, CAN SPEND");
        c.due("no COINS", Checks.of(TOWN).spend(4, 0), 0);
        c.due("none that KNOWS him", Checks.of(TOWN).spend(0, 3), 0);
        c.due("one of two", Checks.of(TOWN).spend(0, 1), 10);
        c.due("all of them", Checks.of(full()).spend(9, 0), 12 * 99);
    }

    /** Promises 6, 8 to 13: what is asked behind ACTS is as all is now, not as it was told. */
    private static void askedBehindActs() {
        c.at("promises 6, 8 to 13, as all is now");
        CoinCircle x = Checks.of(PEOPLE + "coin p worth 10 of a knows b;coin q worth 5 of a;coin r worth 4 of b;snub r e;goods g worth 8 by b;"
            + "presents rank>other;price circle*100+holds*10+day;");
        x.days(2);
        x.present(1, 1);
        x.present(2, 0);
        x.pay(0, 1);
        // b: p and r; a: q, which knows b
        int[] a = {3, 2, 5, 1 | 2, 4, 0};
        int[] b = {1, 1 | 4, 14, 1 | 2 | 4, 0, 0};
        int[] e = {0, 0, 0, 0, 4, 0};
        for (int what = 0; what < 6; what++) {
            c.due("person(0, " + what + ")", x.person(0, what), a[what]);
            c.due("person(1, " + what + ")", x.person(1, what), b[what]);
            c.due("person(3, " + what + ")", x.person(3, what), e[what]);
        }
        c.due("coin(1, 4)", x.coin(1, 4), 2);
        c.due("has(6)", x.has(6), 15);
        c.due("has(7)", x.has(7), 2);
        c.due("spend(0, 1)", x.spend(0, 1), 5);
        c.due("spend(1, 0)", x.spend(1, 0), 10);
        c.due("goods(0, 0, 2)", x.goods(0, 0, 2), 112);
        c.due("may(0, 3): b is higher", x.may(0, 3), 1);
        c.due("may(1, 3): a is higher", x.may(1, 3), 1);
        c.due("introduce(0, 3, 5, 1)", x.introduce(0, 3, 5, 1), 2);
        c.due("introduce(1, 3, 10, 2)", x.introduce(1, 3, 10, 2), 10);
        c.due("introduce(1, 0, 10, 2)", x.introduce(1, 0, 10, 2), 10);
        c.due("introduce(1, 0, 11, 0)", x.introduce(1, 0, 11, 0), -1);
        c.due("fair(0, 1)", x.fair(0, 1), 5);
        c.due("fair(1, 0)", x.fair(1, 0), 1);
        c.due("fair(1, 1)", x.fair(1, 1), 6);
        c.due("comes(0, 0, 0)", x.comes(0, 0, 0), 0);
        c.due("best(2, 0): b and e, who snubs r", x.best(2, 0), 2 | 8);
        c.due("best(2, 1)", x.best(2, 1), 15 + 10);
    }

    /** Terms I: "the COIN's worth, the rank of who holds it .., how many COINS he holds": holds, not knows, whoever asks. */
    private static void worthAndHolds() {
        c.at("terms I, worth and holds of presents");
        // a holds p alone; q and r know him
        String text = PEOPLE + "coin p worth 6 of a;coin q worth 7 of b knows a;coin r worth 8 of b knows a;presents ";
        c.due("holds", Checks.of(text + "holds=1;").may(0, 2), 1);
        c.due("holds", Checks.of(text + "holds=2;").may(2, 2), 1);
        for (int coin = 0; coin < 3; coin++) {
            CoinCircle x = Checks.of(text + "worth=" + (6 + coin) + ";");
            int[] want = {3, 3, 3};
            want[coin] = 0;
            for (int k = 0; k < 3; k++) {
                c.due("may(" + k + ", 3)", x.may(k, 3), want[k] == 0 ? 1 : 0);
                c.due("comes(" + k + ", 3, NONE)", x.comes(k, 3, -1), want[k] == 0 ? 2 : -1);
            }
            Checks.tape(x, 0, 3, 1, 3, 2, 3);
            c.due("letters()", x.letters(), 2);
            for (int k = 0; k < 3; k++) c.due("letterIs(" + k + ")", x.letterIs(k), want[k]);
        }
        // of COINS that know him, but which another one holds, none is PRESENTED
        CoinCircle y = Checks.of(text + "all;");
        c.due("introduce(0, 2, 6, 1)", y.introduce(0, 2, 6, 1), 1);
        c.due("introduce(0, 2, 7, 1)", y.introduce(0, 2, 7, 1), -1);
    }

    // ---- INTRODUCTIONS

    private static final String PURSE = PEOPLE + "coin p worth 5 of a;coin q worth 7 of a;coin r worth 5 of a;coin s worth 7 of a;"
        + "coin t worth 9 of a knows b;coin u worth 50 of a;coin v worth 40 of a;coin w worth 30 of f;snub u b;presents worth<40;";

    private static void introduced(int sum, int count, int coins, int spends) {
        CoinCircle x = Checks.of(PURSE);
        c.due("introduce(0, 1, " + sum + ", 0)", x.introduce(0, 1, sum, 0), count);
        c.due("introduce(0, 1, " + sum + ", 1)", x.introduce(0, 1, sum, 1), coins);
        c.due("introduce(0, 1, " + sum + ", 2)", x.introduce(0, 1, sum, 2), spends);
    }

    /** Promise 22: "NONE when all are too few, there are none such, they are one, or for others", "a sum (0 and on)". */
    private static void introduceNone() {
        c.at("promise 22, none");
        for (int what = 0; what < 3; what++) {
            int w = what;
            c.asked("all are one too few", Checks.of(PURSE), -1, x -> x.introduce(0, 1, 34, w));
            c.asked("all are too few", Checks.of(PURSE), -1, x -> x.introduce(0, 1, MOST, w));
            c.asked("below 0", Checks.of(PURSE), -1, x -> x.introduce(0, 1, -1, w));
            c.asked("below 0", Checks.of(PURSE), -1, x -> x.introduce(0, 1, LEAST, w));
            c.asked("one", Checks.of(PURSE), -1, x -> x.introduce(0, 0, 0, w));
            c.asked("no COINS", Checks.of(PURSE), -1, x -> x.introduce(3, 0, 1, w));
            c.asked("behind the last one", Checks.of(PURSE), -1, x -> x.introduce(5, 0, 0, w));
            c.asked("behind the last one", Checks.of(PURSE), -1, x -> x.introduce(0, 5, 0, w));
        }
        for (int none : NONE_SUCH) {
            c.asked("introduce(" + none + ", 0, 0, 0)", Checks.of(PURSE), -1, x -> x.introduce(none, 0, 0, 0));
            c.asked("introduce(0, " + none + ", 0, 0)", Checks.of(PURSE), -1, x -> x.introduce(0, none, 0, 0));
        }
        for (int what : new int[] {-1, 3, MOST, LEAST}) c.asked("what " + what, Checks.of(PURSE), -1, x -> x.introduce(0, 1, 0, what));
        c.due("a new one", new CoinCircle().introduce(0, 1, 0, 0), -1);
    }

    /** Promise 22: a sum of 0, a sum that he CAN SPEND already: no COINS. */
    private static void introduceNothing() {
        c.at("promise 22, nothing to be PRESENTED");
        introduced(0, 0, 0, 9);
        introduced(9, 0, 0, 9);
        c.asked("no COINS, no sum", Checks.of(PURSE), 0, x -> x.introduce(3, 0, 0, 0));
        c.asked("no COINS, no sum", Checks.of(PURSE), 0, x -> x.introduce(3, 0, 0, 1));
        c.asked("no COINS, no sum", Checks.of(PURSE), 0, x -> x.introduce(3, 0, 0, 2));
    }

    /** Terms III: "the fewest of his COINS ..; of like ones the most worth, then the least bits"; "with success". */
    private static void introduceTheFewest() {
        c.at("terms III, INTRODUCTIONS");
        introduced(10, 1, 2, 16);
        introduced(16, 1, 2, 16);
        introduced(17, 2, 2 | 8, 23);
        introduced(23, 2, 2 | 8, 23);
        introduced(24, 3, 1 | 2 | 8, 28);
        introduced(28, 3, 1 | 2 | 8, 28);
        introduced(29, 4, 1 | 2 | 4 | 8, 33);
        introduced(33, 4, 1 | 2 | 4 | 8, 33);
        CoinCircle all = Checks.of(Checks.people(2) + Checks.coins(12));
        c.due("twelve", all.introduce(0, 1, 12, 1), 4095);
        c.due("eleven", all.introduce(0, 1, 11, 1), 2047);
        c.due("thirteen", all.introduce(0, 1, 13, 0), -1);
    }

    /** Terms III: "each as all is now": holds, circle do not change from one to the next. */
    private static void introduceAsAllIsNow() {
        c.at("terms III, INTRODUCTIONS as all is now");
        CoinCircle x = Checks.of(town("coin p worth 1 of a knows d;coin q worth 1 of a knows d;coin r worth 8 of a;presents circle=2 and holds=3;"));
        c.asked("both", x, 3, y -> y.introduce(0, 1, 2, 1));
        c.due("not the third one", x.introduce(0, 1, 3, 1), -1);
    }

    // ---- COMES

    private static void way(CoinCircle x, int coin, int person, int... acts) {
        c.due("comes(" + coin + ", " + person + ", NONE)", x.comes(coin, person, -1), acts.length);
        for (int k = 0; k < acts.length; k++) c.due("comes(" + coin + ", " + person + ", " + k + ")", x.comes(coin, person, k), acts[k]);
        c.due("behind the last one", x.comes(coin, person, acts.length), -1);
    }

    /** Promise 23: "NONE when it can't, there are none such, or for others". */
    private static void comesNone() {
        c.at("promise 23, none");
        String text = PEOPLE + "coin p worth 1 of a knows b;coin q worth 1 of a;presents not all;";
        for (int k : new int[] {-1, 0, 1}) {
            c.asked("it can't", Checks.of(text), -1, x -> x.comes(0, 2, k));
            c.asked("it can't", Checks.of(text), -1, x -> x.comes(1, 1, k));
            for (int none : NONE_SUCH) {
                c.asked("comes(" + none + ", 0, " + k + ")", Checks.of(text), -1, x -> x.comes(none, 0, k));
                c.asked("comes(0, " + none + ", " + k + ")", Checks.of(text), -1, x -> x.comes(0, none, k));
            }
            c.asked("behind the last COIN", Checks.of(text), -1, x -> x.comes(2, 0, k));
            c.asked("behind the last PERSON", Checks.of(text), -1, x -> x.comes(0, 5, k));
            c.due("a new one", new CoinCircle().comes(0, 0, k), -1);
        }
        for (int k : new int[] {-2, 1, 2, 18, 19, 20, 21, MOST, LEAST}) {
            c.asked("comes(0, 1, " + k + ")", Checks.of(text), -1, x -> x.comes(0, 1, k));
        }
        c.asked("comes(0, 1, 0)", Checks.of(text), 1, x -> x.comes(0, 1, 0));
    }

    /** Promise 23: "0 when he holds it". */
    private static void comesToWhoHoldsIt() {
        c.at("promise 23, who holds it");
        way(Checks.of(PEOPLE + "coin p worth 1 of a knows b;"), 0, 0);
        way(Checks.of("person a rank 1;coin p worth 1 of a;presents not all;"), 0, 0);
        CoinCircle x = Checks.of(PEOPLE + "coin p worth 1 of a knows b;");
        x.pay(0, 1);
        way(x, 0, 1);
        way(x, 0, 0, 0);
    }

    /** Promise 23: "he to whom it is PAID; 10 and he to whom it is PRESENTED": the first PERSON, the last of ten. */
    private static void comesToTheFirstAndTheLast() {
        c.at("promise 23, PERSON 0 and PERSON 9");
        String ten = Checks.people(10);
        way(Checks.of(ten + "coin p worth 1 of pb;"), 0, 0, 10, 0);
        way(Checks.of(ten + "coin p worth 1 of pb;"), 0, 9, 19, 9);
        way(Checks.of(ten + "coin p worth 1 of pj knows pa;"), 0, 0, 0);
    }

    /** Terms III: "of like ones the first: act by act PAID ahead of PRESENTED, then by PEOPLE". */
    private static void comesByTheFirst() {
        c.at("terms III, COMES by the first of like ways");
        String five = "person a rank 0;person b rank 1;person d rank 1;person e rank 5;person f rank 1;";
        // all of rank 1 may present it to e: PAID to b, d or f at first; b is the first
        way(Checks.of(five + "coin p worth 1 of a knows f d b;presents rank=1;"), 0, 3, 1, 13, 3);
        way(Checks.of(five + "coin p worth 1 of a knows f d;presents rank=1;"), 0, 3, 2, 13, 3);
        // a may present it to b, d and f at once, and each of these to e: by PEOPLE
        way(Checks.of(five + "coin p worth 1 of a;presents other=1 or rank=1;"), 0, 3, 11, 1, 13, 3);
        way(Checks.of(five + "coin p worth 1 of a;snub p b;presents other=1 or rank=1;"), 0, 3, 12, 2, 13, 3);
        // f may present it to b, and so may a ahead of that: PAID to f first, though b is the first of the PEOPLE
        way(Checks.of(five + "coin p worth 1 of a knows f;presents circle=2 and other<5 or circle=3 and rank=1;"), 0, 3, 4, 11, 13, 3);
    }

    /** Terms III: "by the fewest ACTS", "(who holds it, holds, circle as it is then)". */
    private static void comesByTheFewest() {
        c.at("terms III, COMES by the fewest");
        String five = "person a rank 0;person b rank 1;person d rank 2;person e rank 3;person f rank 0;";
        way(Checks.of(five + "coin p worth 1 of a knows b;"), 0, 3, 13, 3);
        way(Checks.of(five + "coin p worth 1 of a knows b d;presents rank=2 or other=2;"), 0, 3, 2, 13, 3);
        way(Checks.of(five + "coin p worth 1 of a;presents other=rank+1;"), 0, 3, 11, 1, 12, 2, 13, 3);
        // a holds two; of b's COINS it would be the third, of d's the first
        String holds = five + "coin p worth 1 of a knows b d;coin q worth 1 of a;coin r worth 1 of b;coin s worth 1 of b;presents holds=";
        way(Checks.of(holds + "1;"), 0, 3, 2, 13, 3);
        way(Checks.of(holds + "2;"), 0, 3, 13, 3);
        way(Checks.of(holds + "3;"), 0, 3, 1, 13, 3);
        c.due("nobody would hold four", Checks.of(holds + "4;").comes(0, 3, -1), -1);
        // circle is as it is then, whoever holds it: b, d or e
        String circle = "person a rank 0;person b rank 1;person d rank 2;person e rank 3;person f rank 4;coin p worth 1 of a knows b;presents ";
        way(Checks.of(circle + "rank=1 and circle=2;"), 0, 3, 1, 13, 3);
        way(Checks.of(circle + "rank=1 and other=2 and circle=2 or rank=2 and circle=3;"), 0, 3, 1, 12, 2, 13, 3);
        way(Checks.of(circle + "rank=1 and other=3 and circle=2 or rank=3 and circle=3;"), 0, 4, 1, 13, 3, 14, 4);
        way(Checks.of(circle + "rank=1 and other=2 and circle=2 or rank=0 and other=3 and circle=3 or rank=3 and other=4 and circle=4;"), 0, 4,
            1, 12, 0, 13, 3, 14, 4);
        // b presents it to f, then a, who holds two again, presents it to e
        way(Checks.of(holds + "3 and other=0 or holds=2 and circle=4;"), 0, 3, 1, 14, 0, 13, 3);
    }

    /** Terms III: "the DAY staying": nothing fades on the way, and all stays as it is. */
    private static void comesOnThisDay() {
        c.at("terms III, COMES, the DAY staying");
        CoinCircle x = Checks.of("person a rank 0;person b rank 1;person d rank 2;coin p worth 1 of a;fades 1;presents other=rank+1 and day=4;");
        c.asked("not on DAY 0", x, -1, y -> y.comes(0, 2, -1));
        x.days(4);
        c.asked("on DAY 4", x, 4, y -> y.comes(0, 2, -1));
        x.days(1);
        c.asked("not on DAY 5", x, -1, y -> y.comes(0, 2, -1));
    }

    // ---- BEST TEA

    /** Promise 24: "NONE when n is not 2 to 4, there are not so many, or for others". */
    private static void bestNone() {
        c.at("promise 24, none");
        for (int n : new int[] {-1, 0, 1, 5, 6, 31, 32, MOST, LEAST}) {
            c.asked("best(" + n + ", 0)", Checks.of(TOWN), -1, x -> x.best(n, 0));
            c.asked("best(" + n + ", 1)", Checks.of(TOWN), -1, x -> x.best(n, 1));
        }
        for (int what : new int[] {-1, 2, MOST, LEAST}) c.asked("best(2, " + what + ")", Checks.of(TOWN), -1, x -> x.best(2, what));
        for (int n = 2; n <= 4; n++) {
            int m = n;
            CoinCircle few = Checks.of(Checks.people(n - 1));
            c.asked("there are not " + n, few, -1, x -> x.best(m, 0));
            c.asked("there are not " + n, few, -1, x -> x.best(m, 1));
            CoinCircle many = Checks.of(Checks.people(n));
            c.asked("there are just " + n, many, (1 << n) - 1, x -> x.best(m, 0));
            c.asked("there are just " + n, many, 0, x -> x.best(m, 1));
        }
        c.due("a new one", new CoinCircle().best(2, 0), -1);
    }

    /** Terms III: "by whose TEA the FLOW is most; of like ones the first by least bits". */
    private static void bestOfLikeOnes() {
        c.at("terms III, BEST TEA");
        String ten = Checks.people(10);
        CoinCircle x = Checks.of(ten);
        c.due("all alike", x.best(2, 0), 3);
        c.due("all alike", x.best(3, 0), 7);
        c.due("all alike", x.best(4, 0), 15);
        CoinCircle y = Checks.of(ten + "coin p worth 9 of pj;");
        c.due("whoever is there with pj", y.best(2, 0), 512 | 1);
        c.due("whoever is there with pj", y.best(4, 0), 512 | 7);
        c.due("FLOW", y.best(4, 1), 27);
        CoinCircle z = Checks.of(ten + "coin p worth 9 of pj knows pa pb pc pd pe pf pg;coin q worth 1 of pa knows pb;");
        c.asked("the most is not the first", z, 512 | 128, w -> w.best(2, 0));
        c.asked("the FLOW then, with all that was", z, 8 * 9 + 1, w -> w.best(2, 1));
        c.asked("the last ones", z, 512 | 256 | 128, w -> w.best(3, 0));
    }

    // ---- FAIR

    /** Promise 27: "NONE when there is none such, or for others". */
    private static void fairNone() {
        c.at("promise 27, none");
        for (int none : NONE_SUCH) {
            c.asked("fair(" + none + ", 0)", Checks.of(TOWN), -1, x -> x.fair(none, 0));
            c.asked("fair(" + none + ", 1)", Checks.of(TOWN), -1, x -> x.fair(none, 1));
        }
        c.asked("behind the last one", Checks.of(TOWN), -1, x -> x.fair(5, 0));
        for (int what : new int[] {-1, 2, MOST, LEAST}) c.asked("fair(0, " + what + ")", Checks.of(TOWN), -1, x -> x.fair(0, what));
        c.due("a new one", new CoinCircle().fair(0, 0), -1);
    }

    private static void fair(String coins, int purse, int differ) {
        CoinCircle x = Checks.of(PEOPLE + coins);
        c.asked("fair(0, 0) of " + coins, x, purse, y -> y.fair(0, 0));
        c.asked("fair(0, 1) of " + coins, x, differ, y -> y.fair(0, 1));
    }

    /** Terms III: "parted into two purses so that they differ least in worth; of like ones the least bits of the first one". */
    private static void fairPurses() {
        c.at("terms III, FAIR");
        fair("", 0, 0);
        fair("coin p worth 9 of a;", 0, 9);
        fair("coin p worth 9 of b;coin q worth 4 of a;", 0, 4);
        fair("coin p worth 9 of b knows a;coin q worth 4 of a;coin r worth 3 of a;", 2, 1);
        fair("coin p worth 9 of a;coin q worth 9 of a;", 1, 0);
        fair("coin p worth 9 of a;coin q worth 8 of a;", 1, 1);
        fair("coin p worth 8 of a;coin q worth 9 of a;", 1, 1);
        // 1+9 and 4+6 are bits 9 and 6; 1+4 is farther off
        fair("coin p worth 1 of a;coin q worth 4 of a;coin r worth 6 of a;coin s worth 9 of a;", 6, 0);
        fair("coin p worth 99 of a;coin q worth 1 of a;coin r worth 1 of a;", 1, 97);
        CoinCircle all = Checks.of(Checks.people(2) + Checks.coins(12));
        c.due("twelve alike", all.fair(0, 0), 63);
        c.due("twelve alike", all.fair(0, 1), 0);
        c.due("no COINS", all.fair(1, 0), 0);
        c.due("no COINS", all.fair(1, 1), 0);
        c.due("all of the most worth", Checks.of(full()).fair(9, 0), 63);
        CoinCircle last = Checks.of(Checks.people(1) + Checks.coins(11) + "coin x worth 99 of pa;");
        c.due("all but the last one", last.fair(0, 0), 2047);
        c.due("all but the last one", last.fair(0, 1), 88);
    }

    // ---- AHEAD

    private static final String FADING = PEOPLE + "coin p worth 1 of a knows b;coin q worth 1 of d knows a b;";

    /** Promise 28: "n DAYS AHEAD (0 .. 60)", "NONE when there are none such". */
    private static void laterNone() {
        c.at("promise 28, none");
        for (int n : new int[] {-1, 61, 62, 100, MOST, LEAST}) c.asked("later(0, " + n + ")", Checks.of(FADING), -1, x -> x.later(0, n));
        for (int none : NONE_SUCH) c.asked("later(" + none + ", 0)", Checks.of(FADING), -1, x -> x.later(none, 0));
        c.asked("behind the last one", Checks.of(FADING), -1, x -> x.later(2, 0));
        c.due("a new one", new CoinCircle().later(0, 0), -1);
        c.asked("the first", Checks.of(FADING + "fades 60;"), 3, x -> x.later(0, 59));
        c.asked("the last", Checks.of(FADING + "fades 60;"), 1, x -> x.later(0, 60));
        c.asked("this DAY", Checks.of(FADING + "fades 1;"), 7, x -> x.later(1, 0));
        c.asked("the next one", Checks.of(FADING + "fades 1;"), 4, x -> x.later(1, 1));
        c.asked("never", Checks.of(FADING), 7, x -> x.later(1, 60));
    }

    /** Terms III, AHEAD: "DAYS as they go by from now on (0: this one": from now on, however often it is asked. */
    private static void laterFromNowOn() {
        c.at("terms III, AHEAD from now on");
        CoinCircle x = Checks.of(FADING + "fades 10;");
        x.days(4);
        x.present(0, 2);
        x.pay(1, 1);
        for (int n = 0; n < 2; n++) {
            c.asked("0 from DAY 4", x, 7, y -> y.later(0, 0));
            c.asked("5 from DAY 4", x, 7, y -> y.later(0, 5));
            c.asked("6 from DAY 4: b, told, is forgotten", x, 5, y -> y.later(0, 6));
            c.asked("9 from DAY 4", x, 5, y -> y.later(0, 9));
            c.asked("10 from DAY 4: d is forgotten", x, 1, y -> y.later(0, 10));
            c.asked("60 from DAY 4", x, 1, y -> y.later(0, 60));
            c.asked("a is forgotten", x, 6, y -> y.later(1, 6));
            c.asked("d, who paid, is forgotten", x, 2, y -> y.later(1, 10));
            c.asked("the first USELESS purse", x, 14, y -> y.useless(0));
            c.asked("whose", x, 0, y -> y.useless(1));
        }
        x.undo();
        x.undo();
        c.asked("undone", x, 1, y -> y.later(0, 6));
        c.asked("undone", x, 10, y -> y.useless(0));
    }

    /** Terms III, AHEAD: "not beyond DAY 999". */
    private static void laterBeyondDay999() {
        c.at("terms III, AHEAD not beyond DAY 999");
        CoinCircle x = Checks.of(FADING);
        Checks.passDays(x, 939);
        c.asked("60 from DAY 939", x, 3, y -> y.later(0, 60));
        x.days(1);
        c.asked("60 from DAY 940", x, -1, y -> y.later(0, 60));
        c.asked("59 from DAY 940", x, 3, y -> y.later(0, 59));
        x.days(59);
        c.asked("0 from DAY 999", x, 3, y -> y.later(0, 0));
        c.asked("1 from DAY 999", x, -1, y -> y.later(0, 1));
    }

    /** Promise 29: "NONE without, or for others"; "the first of these". */
    private static void useless() {
        c.at("promise 29");
        c.asked("without COINS", Checks.of(PEOPLE + "fades 1;"), -1, x -> x.useless(0));
        c.asked("without COINS", Checks.of(PEOPLE + "fades 1;"), -1, x -> x.useless(1));
        c.asked("never", Checks.of(FADING), -1, x -> x.useless(0));
        c.asked("never", Checks.of(FADING), -1, x -> x.useless(1));
        for (int what : new int[] {-1, 2, MOST, LEAST}) c.asked("useless(" + what + ")", Checks.of(FADING + "fades 1;"), -1, x -> x.useless(what));
        c.asked("this DAY", Checks.of(FADING + "coin r worth 1 of f;"), 0, x -> x.useless(0));
        c.asked("this DAY", Checks.of(FADING + "coin r worth 1 of f;"), 4, x -> x.useless(1));
        c.asked("two on one DAY", Checks.of(FADING + "fades 7;"), 7, x -> x.useless(0));
        c.asked("two on one DAY: the first", Checks.of(FADING + "fades 7;"), 0, x -> x.useless(1));
        CoinCircle y = Checks.of(FADING + "fades 7;");
        y.days(3);
        y.pay(0, 1);
        c.asked("d's fades ahead of b's", y, 7, x -> x.useless(0));
        c.asked("d's fades ahead of b's", y, 2, x -> x.useless(1));
    }

    /** Terms III, AHEAD: "60 at most, not beyond DAY 999". */
    private static void uselessSixtyAhead() {
        c.at("promise 29, 60 DAYS AHEAD");
        c.asked("in 60 DAYS", Checks.of(FADING + "fades 60;"), 60, x -> x.useless(0));
        c.asked("in 60 DAYS", Checks.of(FADING + "fades 60;"), 0, x -> x.useless(1));
        c.asked("in 61 DAYS", Checks.of(FADING + "fades 61;"), -1, x -> x.useless(0));
        c.asked("in 61 DAYS", Checks.of(FADING + "fades 61;"), -1, x -> x.useless(1));
        // DAY 950: MET now, it fades on DAY 999, or one DAY behind that
        for (int fades = 49; fades <= 50; fades++) {
            CoinCircle x = Checks.of(PEOPLE + "coin p worth 1 of a;fades " + fades + ";");
            Checks.passDays(x, 950);
            x.present(0, 1);
            c.asked("from DAY 950 in " + fades, x, fades == 49 ? 999 : -1, y -> y.useless(0));
        }
        CoinCircle last = Checks.of(PEOPLE + "coin p worth 1 of b;");
        Checks.passDays(last, 999);
        c.asked("on DAY 999", last, 999, y -> y.useless(0));
        c.asked("on DAY 999", last, 1, y -> y.useless(1));
    }

    private static void standing() {
        hasOthers();
        hasLeastAndMost();
        flow();
        howManySnubs();
        knowAllPeople();
        uselessPurses();
        personAndCoinOthers();
        personLeastAndMost();
        coinLeastAndMost();
        met();
        may();
        goods();
        spend();
        askedBehindActs();
        worthAndHolds();
    }

    private static void ways() {
        introduceNone();
        introduceNothing();
        introduceTheFewest();
        introduceAsAllIsNow();
        comesNone();
        comesToWhoHoldsIt();
        comesToTheFirstAndTheLast();
        comesByTheFirst();
        comesByTheFewest();
        comesOnThisDay();
        bestNone();
        bestOfLikeOnes();
    }

    public static void main(String[] args) {
        standing();
        ways();
        fairNone();
        fairPurses();
        laterNone();
        laterFromNowOn();
        laterBeyondDay999();
        useless();
        uselessSixtyAhead();
        c.finish();
    }
}
