/** What is asked of an object: promises 1 to 3, 6, 8 to 13, 22 to 24 and 27 to 29, and 33 with the constant. */
public final class AskTest {
    private static final Checks c = new Checks();
    private static final String PEOPLE = "person a rank 3;person b rank 1;person d rank 2;person e rank 0;";
    private static final String TOWN = PEOPLE
        + "coin p worth 10 of a knows b;coin q worth 5 of a;coin r worth 4 of b knows a d;coin s worth 3 of b knows a d e;"
        + "goods g worth 8 by b;goods h worth 3 by d;snub q d;snub q e;snub r e;fades 5;vogue 30;"
        + "presents rank+circle>other+2;price worth+other-circle;";

    private static void newObject() {
        c.at("promise 1");
        CoinCircle x = new CoinCircle();
        for (int k = 0; k < 11; k++) c.due("has(" + k + ")", x.has(k), 0);
        c.due("has(11)", x.has(11), 1);
        c.due("image()", x.image(), 3);
        c.due("letter(0, 0, 0)", x.letter(0, 0, 0), -1);
        c.due("person(0, 0)", x.person(0, 0), -1);
        c.due("coin(0, 0)", x.coin(0, 0), -1);
        c.due("goods(0, 0, 0)", x.goods(0, 0, 0), -1);
        c.due("best(2, 1)", x.best(2, 1), -1);
        c.due("tea(3)", x.tea(3), -1);
        c.due("useless(1)", x.useless(1), -1);
        c.due("present(0, 0)", x.present(0, 0), -1);
        c.due("buy(0, 0, 0)", x.buy(0, 0, 0), -1);
        c.due("days(1)", x.days(1), 0);
        c.due("calls(50)", x.calls(50), 0);
        c.due("has(5)", x.has(5), 51);
        c.at("constants");
        c.due("NONE", CoinCircle.NONE, -1);
    }

    private static void tape() {
        c.at("promise 2");
        CoinCircle x = new CoinCircle();
        for (int k = 1; k <= 80; k++) c.due("feed", x.feed(k, 0, -1, 1 << 31, 5), 20 * k);
        c.due("feed", x.feed(1, 2, 3, 4, 5), -1);
        c.due("status(0)", x.status(0), 1);
        c.due("end(1581)", x.end(1581), true);
        c.due("feed", x.feed(1, 2, 3, 4, 5), -1);
        c.due("end(1580)", x.end(1580), true);
        c.due("feed", x.feed(1, 2, 3, 4, 5), 1600);
        x.end(0);
        // "fade", "s 1;", "vogu", "e 2;", " \n  "
        c.due("feed", x.feed(0x66616465, 0x7320313b, 0x766f6775, 0x6520323b, 0x200a2020), 20);
        c.due("society()", x.society(), 2);
        c.due("has(3)", x.has(3), 1);
        c.due("has(4)", x.has(4), 2);
        c.at("promise 3");
        c.due("end(0)", x.end(0), true);
        c.due("end(1)", x.end(1), false);
        c.due("end(-1)", x.end(-1), false);
        c.due("end(" + Integer.MIN_VALUE + ")", x.end(Integer.MIN_VALUE), false);
        c.due("status(0)", x.status(0), 5);
        x.feed(0x66616465, 0x7320313b, 0x766f6775, 0x6520323b, 0x23232323);
        c.due("end(21)", x.end(21), false);
        c.due("end(20)", x.end(20), true);
        c.due("end(16)", x.end(16), true);
        c.due("end(17)", x.end(17), false);
        c.due("end(8)", x.end(8), true);
        c.due("society()", x.society(), 1);
        c.due("end(1)", x.end(1), false);
    }

    private static void has() {
        c.at("promise 6");
        CoinCircle x = Checks.of(TOWN);
        int[] want = {4, 4, 2, 5, 30, 0, 10 + 0 + 8 + 9, 3, 1, 0, 0, 1};
        for (int k = 0; k < want.length; k++) c.due("has(" + k + ")", x.has(k), want[k]);
        c.due("has(12)", x.has(12), -1);
        c.due("has(-1)", x.has(-1), -1);
        x.days(5);
        c.due("has(5)", x.has(5), 5);
        c.due("has(6)", x.has(6), 0);
        c.due("has(8)", x.has(8), 0);
        c.due("has(9)", x.has(9), 3);
        c.due("has(10)", x.has(10), 1);
    }

    private static void person() {
        c.at("promise 8");
        CoinCircle x = Checks.of(TOWN);
        int[] a = {3, 3, 15, 13 | 2, 0, 0};
        int[] b = {1, 12, 7, 13, 0, 0};
        int[] d = {2, 0, 0, 12, 2, 0};
        for (int k = 0; k < 6; k++) {
            c.due("person(0, " + k + ")", x.person(0, k), a[k]);
            c.due("person(1, " + k + ")", x.person(1, k), b[k]);
            c.due("person(2, " + k + ")", x.person(2, k), d[k]);
        }
        c.due("person(3, 4)", x.person(3, 4), 6);
        c.due("person(0, 6)", x.person(0, 6), -1);
        c.due("person(0, -1)", x.person(0, -1), -1);
        c.due("person(4, 0)", x.person(4, 0), -1);
        c.due("person(-1, 0)", x.person(-1, 0), -1);
        x.days(5);
        c.due("person(0, 5)", x.person(0, 5), 1);
        c.due("person(2, 5): no COINS", x.person(2, 5), 0);
    }

    private static void coin() {
        c.at("promise 9");
        CoinCircle x = Checks.of(TOWN);
        int[] q = {5, 0, 1, 12, 1};
        int[] s = {3, 1, 15, 0, 4};
        for (int k = 0; k < 5; k++) {
            c.due("coin(1, " + k + ")", x.coin(1, k), q[k]);
            c.due("coin(3, " + k + ")", x.coin(3, k), s[k]);
        }
        c.due("coin(0, 5)", x.coin(0, 5), -1);
        c.due("coin(0, -1)", x.coin(0, -1), -1);
        c.due("coin(4, 0)", x.coin(4, 0), -1);
        c.due("coin(-1, 0)", x.coin(-1, 0), -1);
    }

    private static void met() {
        c.at("promise 10");
        CoinCircle x = Checks.of(TOWN);
        c.due("met(0, 1)", x.met(0, 1), 0);
        c.due("met(0, 0)", x.met(0, 0), 0);
        c.due("met(0, 2)", x.met(0, 2), -1);
        c.due("met(4, 0)", x.met(4, 0), -1);
        c.due("met(-1, 0)", x.met(-1, 0), -1);
        c.due("met(0, 4)", x.met(0, 4), -1);
        c.due("met(0, -1)", x.met(0, -1), -1);
        x.days(2);
        c.due("present(0, 2)", x.present(0, 2), 1);
        c.due("met(0, 2)", x.met(0, 2), 2);
        c.due("met(0, 0)", x.met(0, 0), 0);
        x.days(1);
        c.due("pay(0, 1)", x.pay(0, 1), true);
        c.due("met(0, 0)", x.met(0, 0), 3);
        c.due("met(0, 1)", x.met(0, 1), 3);
        c.due("met(0, 2)", x.met(0, 2), 2);
        x.days(5);
        c.due("met(0, 2)", x.met(0, 2), -1);
        c.due("met(0, 0)", x.met(0, 0), -1);
        c.due("met(0, 1)", x.met(0, 1), 3);
    }

    private static void may() {
        c.at("promise 11");
        CoinCircle x = Checks.of(TOWN);
        c.due("may(0, 2)", x.may(0, 2), 1);
        c.due("may(1, 1)", x.may(1, 1), 1);
        c.due("may(0, 1): it KNOWS him", x.may(0, 1), -1);
        c.due("may(0, 0): he holds it", x.may(0, 0), -1);
        c.due("may(1, 2): he SNUBS it", x.may(1, 2), -1);
        c.due("may(4, 0)", x.may(4, 0), -1);
        c.due("may(0, 4)", x.may(0, 4), -1);
        c.due("may(-1, -1)", x.may(-1, -1), -1);
        CoinCircle y = Checks.of(PEOPLE + "coin p worth 10 of b;presents other<2 and worth=10 and holds=1 and day>1;");
        c.due("may(0, 3)", y.may(0, 3), 0);
        y.days(2);
        c.due("may(0, 3)", y.may(0, 3), 1);
        c.due("may(0, 2)", y.may(0, 2), 0);
        c.due("may stays", y.coin(0, 3), 0);
        CoinCircle z = Checks.of(PEOPLE + "coin p worth 10 of b;");
        c.due("without presents", z.may(0, 0), 1);
    }

    private static void goods() {
        c.at("promise 12");
        CoinCircle x = Checks.of(TOWN);
        c.due("goods(0, 0, 0)", x.goods(0, 0, 0), 8);
        c.due("goods(0, 0, 1)", x.goods(0, 0, 1), 1);
        c.due("goods(0, 0, 2)", x.goods(0, 0, 2), 8 + 1 - 1);
        c.due("goods(0, 1, 2): the seller", x.goods(0, 1, 2), 8 + 1 - 2);
        c.due("goods(0, 2, 2)", x.goods(0, 2, 2), 8 + 1);
        c.due("goods(1, 1, 2)", x.goods(1, 1, 2), 3 + 2 - 2);
        c.due("goods(2, 0, 0)", x.goods(2, 0, 0), -1);
        c.due("goods(-1, 0, 0)", x.goods(-1, 0, 0), -1);
        c.due("goods(0, 0, 3)", x.goods(0, 0, 3), -1);
        c.due("goods(0, 0, -1)", x.goods(0, 0, -1), -1);
        for (int what = 0; what < 3; what++) {
            c.due("goods(0, 3, " + what + ")", x.goods(0, 3, what), new int[] {8, 1, 9}[what]);
            c.due("goods(0, 4, " + what + "): no such PERSON", x.goods(0, 4, what), -1);
            c.due("goods(0, -1, " + what + "): no such PERSON", x.goods(0, -1, what), -1);
            c.due("goods(2, 0, " + what + "): no such GOODS", x.goods(2, 0, what), -1);
        }
        CoinCircle y = Checks.of(PEOPLE + "coin p worth 10 of a;coin q worth 1 of a;goods g worth 9 by d;"
            + "price rank*100+holds*10+day;");
        y.days(3);
        c.due("rank, holds, day", y.goods(0, 0, 2), 323);
    }

    private static void spend() {
        c.at("promise 13");
        CoinCircle x = Checks.of(TOWN);
        c.due("spend(0, 1)", x.spend(0, 1), 10);
        c.due("spend(1, 0)", x.spend(1, 0), 7);
        c.due("spend(1, 3)", x.spend(1, 3), 3);
        c.due("spend(0, 2)", x.spend(0, 2), 0);
        c.due("spend(2, 0)", x.spend(2, 0), 0);
        c.due("spend(0, 0)", x.spend(0, 0), -1);
        c.due("spend(0, 4)", x.spend(0, 4), -1);
        c.due("spend(4, 0)", x.spend(4, 0), -1);
        c.due("spend(-1, 0)", x.spend(-1, 0), -1);
    }

    private static void introduce() {
        c.at("promise 22");
        CoinCircle x = Checks.of(PEOPLE + "coin p worth 5 of a;coin q worth 7 of a;coin r worth 5 of a;coin s worth 7 of a;"
            + "coin t worth 9 of a knows b;coin u worth 50 of a;coin v worth 40 of a;coin w worth 30 of b;snub u b;presents worth<40;");
        int[][] want = {{0, 0, 0, 9}, {9, 0, 0, 9}, {10, 1, 2, 16}, {14, 1, 2, 16}, {17, 2, 10, 23}, {23, 2, 10, 23},
            {24, 3, 11, 28}, {28, 3, 11, 28}, {29, 4, 15, 33}, {33, 4, 15, 33}};
        for (int[] w : want) {
            for (int k = 0; k < 3; k++) c.due("introduce(0, 1, " + w[0] + ", " + k + ")", x.introduce(0, 1, w[0], k), w[1 + k]);
        }
        c.due("all too few", x.introduce(0, 1, 34, 0), -1);
        c.due("all too few", x.introduce(0, 1, Integer.MAX_VALUE, 0), -1);
        c.due("below 0", x.introduce(0, 1, -1, 0), -1);
        c.due("other what", x.introduce(0, 1, 1, 3), -1);
        c.due("other what", x.introduce(0, 1, 1, -1), -1);
        c.due("one", x.introduce(0, 0, 1, 0), -1);
        c.due("none such", x.introduce(4, 0, 1, 0), -1);
        c.due("none such", x.introduce(0, 4, 1, 0), -1);
        c.due("no COINS, no sum", x.introduce(2, 0, 0, 2), 0);
        c.due("no COINS", x.introduce(2, 0, 1, 0), -1);
    }

    private static void way(CoinCircle x, int coin, int person, int... acts) {
        c.due("comes(" + coin + ", " + person + ", NONE)", x.comes(coin, person, -1), acts.length);
        for (int k = 0; k < acts.length; k++) c.due("comes(" + coin + ", " + person + ", " + k + ")", x.comes(coin, person, k), acts[k]);
        c.due("behind the last", x.comes(coin, person, acts.length), -1);
    }

    private static void comes() {
        c.at("promise 23");
        CoinCircle x = Checks.of("person a rank 0;person b rank 1;person d rank 2;person e rank 3;"
            + "coin p worth 1 of a;coin q worth 1 of a knows b d;coin r worth 1 of d;coin s worth 1 of b knows e;snub r b;"
            + "presents other=rank+1;");
        way(x, 0, 0);
        way(x, 0, 1, 11, 1);
        way(x, 0, 2, 11, 1, 12, 2);
        way(x, 0, 3, 11, 1, 12, 2, 13, 3);
        way(x, 1, 3, 2, 13, 3);
        way(x, 1, 1, 1);
        way(x, 3, 3, 3);
        way(x, 3, 2, 12, 2);
        c.due("he SNUBS it", x.comes(2, 1, -1), -1);
        c.due("too high", x.comes(2, 0, -1), -1);
        c.due("too high", x.comes(2, 0, 0), -1);
        c.due("none such", x.comes(4, 0, -1), -1);
        c.due("none such", x.comes(0, 4, -1), -1);
        c.due("others", x.comes(0, 1, -2), -1);
        c.due("others", x.comes(0, 1, Integer.MAX_VALUE), -1);
        c.due("all stays", x.coin(0, 2), 1);
        CoinCircle y = Checks.of("person a rank 0;person b rank 0;person d rank 0;person e rank 5;"
            + "coin p worth 1 of a;coin q worth 1 of b;presents circle=1 and other<5 and holds=1 or other=5 and holds=2;");
        // a, who holds it alone, reaches b or d; to e only b can present it, who holds two then
        way(y, 0, 3, 11, 1, 13, 3);
        CoinCircle z = Checks.of("person a rank 0;person b rank 0;person d rank 0;person e rank 5;coin p worth 1 of a knows b d;"
            + "presents rank=0 and circle>2;");
        // PAID ahead of PRESENTED: by b, who is told ahead of d
        way(z, 0, 3, 13, 3);
        CoinCircle w = Checks.of("person a rank 0;person b rank 1;person d rank 1;person e rank 5;coin p worth 1 of a knows b d;"
            + "presents rank=1;");
        way(w, 0, 3, 1, 13, 3);
        CoinCircle v = Checks.of("person a rank 0;person b rank 1;coin p worth 1 of b;");
        way(v, 0, 0, 10, 0);
    }

    private static void best() {
        c.at("promise 24");
        CoinCircle x = Checks.of(PEOPLE + "coin p worth 10 of a;coin q worth 8 of b;coin r worth 8 of d;coin s worth 50 of e;"
            + "presents worth<50 and circle<3;");
        c.due("best(2, 0)", x.best(2, 0), 3);
        c.due("best(2, 1)", x.best(2, 1), 18);
        c.due("best(3, 0)", x.best(3, 0), 7);
        c.due("best(3, 1)", x.best(3, 1), 52);
        c.due("best(4, 0)", x.best(4, 0), 15);
        c.due("best(4, 1): circle is as it gets", x.best(4, 1), 52);
        c.due("best(1, 0)", x.best(1, 0), -1);
        c.due("best(5, 0)", x.best(5, 0), -1);
        c.due("best(2, 2)", x.best(2, 2), -1);
        c.due("best(2, -1)", x.best(2, -1), -1);
        c.due("all stays", x.has(6), 0);
        CoinCircle y = Checks.of("person a rank 1;person b rank 1;coin p worth 1 of a knows b;");
        c.due("nothing to win", y.best(2, 0), 3);
        c.due("nothing to win", y.best(2, 1), 1);
        c.due("not so many", y.best(3, 0), -1);
    }

    private static void fair() {
        c.at("promise 27");
        CoinCircle x = Checks.of(PEOPLE + "coin p worth 10 of a;coin q worth 5 of a;coin r worth 3 of a;coin s worth 9 of b;"
            + "coin t worth 3 of a;coin u worth 7 of d;coin v worth 2 of d;coin w worth 5 of d;");
        c.due("fair(0, 0)", x.fair(0, 0), 1);
        c.due("fair(0, 1)", x.fair(0, 1), 1);
        c.due("fair(1, 0)", x.fair(1, 0), 0);
        c.due("fair(1, 1)", x.fair(1, 1), 9);
        c.due("fair(2, 0)", x.fair(2, 0), 32);
        c.due("fair(2, 1)", x.fair(2, 1), 0);
        c.due("fair(3, 0)", x.fair(3, 0), 0);
        c.due("fair(3, 1)", x.fair(3, 1), 0);
        c.due("fair(4, 0)", x.fair(4, 0), -1);
        c.due("fair(-1, 0)", x.fair(-1, 0), -1);
        c.due("fair(0, 2)", x.fair(0, 2), -1);
        c.due("fair(0, -1)", x.fair(0, -1), -1);
    }

    private static void later() {
        c.at("promise 28");
        CoinCircle x = Checks.of(TOWN);
        x.days(3);
        x.present(0, 2);
        c.due("later(0, 0)", x.later(0, 0), 7);
        c.due("later(0, 1)", x.later(0, 1), 7);
        c.due("later(0, 2)", x.later(0, 2), 5);
        c.due("later(0, 4)", x.later(0, 4), 5);
        c.due("later(0, 5)", x.later(0, 5), 1);
        c.due("later(0, 60)", x.later(0, 60), 1);
        c.due("later(0, 61)", x.later(0, 61), -1);
        c.due("later(0, -1)", x.later(0, -1), -1);
        c.due("later(4, 0)", x.later(4, 0), -1);
        c.due("later(-1, 0)", x.later(-1, 0), -1);
        c.due("all stays", x.coin(0, 2), 7);
        CoinCircle y = Checks.of(PEOPLE + "coin p worth 1 of a knows b;");
        c.due("it never fades", y.later(0, 60), 3);
        for (int k = 0; k < 9; k++) y.days(100);
        c.due("later(0, 60)", y.later(0, 60), 3);
        y.days(40);
        c.due("later(0, 59)", y.later(0, 59), 3);
        c.due("later(0, 60) beyond DAY 999", y.later(0, 60), -1);
    }

    private static void useless() {
        c.at("promise 29");
        CoinCircle x = Checks.of(TOWN);
        c.due("useless(0)", x.useless(0), 5);
        c.due("useless(1)", x.useless(1), 0);
        x.days(2);
        x.present(0, 2);
        c.due("useless(0)", x.useless(0), 5);
        c.due("useless(1)", x.useless(1), 1);
        x.days(1);
        c.due("useless(0)", x.useless(0), 5);
        c.due("useless(2)", x.useless(2), -1);
        c.due("useless(-1)", x.useless(-1), -1);
        c.due("all stays", x.has(5), 3);
        CoinCircle y = Checks.of(PEOPLE + "coin p worth 1 of a knows b;");
        c.due("never", y.useless(0), -1);
        c.due("never", y.useless(1), -1);
        c.due("fades 61", Checks.tell(y, "fades 61;" + PEOPLE + "coin p worth 1 of a knows b;"), 6);
        c.due("beyond 60", y.useless(0), -1);
        y.days(1);
        c.due("at 60", y.useless(0), 61);
        c.due("fades 99", Checks.tell(y, "fades 99;" + PEOPLE + "coin p worth 1 of b knows a;"), 6);
        for (int k = 0; k < 10; k++) y.days(95);
        c.due("useless now", y.useless(0), 950);
        c.due("useless now", y.useless(1), 1);
        y.present(0, 0);
        c.due("beyond DAY 999", y.useless(0), -1);
    }

    private static void status() {
        c.at("promise 33");
        CoinCircle x = Checks.of(TOWN);
        x.end(-1);
        Checks.tell(x, "x");
        Checks.tell(x, "x");
        x.present(0, 0);
        x.pay(0, 0);
        x.pay(9, 9);
        x.buy(0, 9, 0);
        x.tea(1);
        x.tea(0);
        x.tea(-1);
        x.days(0);
        x.calls(0);
        x.undo();
        x.undo();
        x.calls(51);
        x.seed(-1);
        x.letters();
        x.on();
        x.on();
        x.letters();
        x.seed(-5);
        for (int k = 0; k < 6; k++) c.due("status(" + k + ")", x.status(k), 1 + k);
        c.due("status(6)", x.status(6), -1);
        c.due("status(-1)", x.status(-1), -1);
    }

    public static void main(String[] args) {
        newObject();
        tape();
        has();
        person();
        coin();
        met();
        may();
        goods();
        spend();
        introduce();
        comes();
        best();
        fair();
        later();
        useless();
        status();
        c.finish();
    }
}
