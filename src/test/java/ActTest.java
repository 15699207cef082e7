/** What changes a circle: promises 14 to 21, 25, 26 and 30 to 32. */
public final class ActTest {
    private static final Checks c = new Checks();
    private static final String PEOPLE = "person a rank 3;person b rank 1;person d rank 2;person e rank 0;";

    private static void present() {
        c.at("promise 14");
        CoinCircle x = Checks.of(PEOPLE + "coin p worth 10 of a knows b;coin q worth 5 of b;snub p e;presents circle<3 and rank>other;");
        x.days(4);
        c.due("present(0, 2)", x.present(0, 2), 1);
        c.due("coin(0, 2)", x.coin(0, 2), 7);
        c.due("met(0, 2)", x.met(0, 2), 4);
        c.due("met(0, 0) stays", x.met(0, 0), 0);
        c.due("present(1, 0)", x.present(1, 0), 0);
        c.due("coin(1, 3)", x.coin(1, 3), 1);
        c.due("coin(1, 2)", x.coin(1, 2), 2);
        c.due("has(10): both are ACTS", x.has(10), 3);
        c.due("status(2)", x.status(2), 0);
        c.due("again", x.present(1, 0), -1);
        c.due("it KNOWS him", x.present(0, 1), -1);
        c.due("he holds it", x.present(0, 0), -1);
        c.due("he SNUBS it", x.present(0, 3), -1);
        c.due("none such", x.present(2, 0), -1);
        c.due("none such", x.present(0, 4), -1);
        c.due("none such", x.present(-1, 0), -1);
        c.due("none such", x.present(0, -1), -1);
        c.due("status(2)", x.status(2), 8);
        c.due("has(10)", x.has(10), 3);
        x.days(100);
        c.due("SNUBS for good", x.person(0, 4), 2);
    }

    private static void pay() {
        c.at("promise 15");
        CoinCircle x = Checks.of(PEOPLE + "coin p worth 10 of a knows b;coin q worth 5 of b;fades 6;");
        x.days(4);
        c.due("pay(0, 1)", x.pay(0, 1), true);
        c.due("coin(0, 1)", x.coin(0, 1), 1);
        c.due("coin(0, 2)", x.coin(0, 2), 3);
        c.due("met(0, 0)", x.met(0, 0), 4);
        c.due("met(0, 1)", x.met(0, 1), 4);
        c.due("he holds it", x.pay(0, 1), false);
        c.due("it does not KNOW him", x.pay(0, 2), false);
        c.due("none such", x.pay(2, 0), false);
        c.due("none such", x.pay(-1, 0), false);
        c.due("none such", x.pay(0, 4), false);
        c.due("none such", x.pay(0, -1), false);
        c.due("status(2)", x.status(2), 6);
        c.due("has(10)", x.has(10), 2);
        c.due("days(5)", x.days(5), 0);
        c.due("back", x.pay(0, 0), true);
        c.due("days(1)", x.days(1), 0);
        c.due("person(1, 1)", x.person(1, 1), 2);
        c.due("person(0, 1)", x.person(0, 1), 1);
    }

    private static void buy() {
        c.at("promise 16");
        CoinCircle x = Checks.of(PEOPLE + "coin p worth 20 of a knows b;coin q worth 6 of b knows a;coin r worth 4 of b knows a;"
            + "coin s worth 5 of b knows a;coin t worth 5 of b knows a;coin u worth 10 of b;coin v worth 2 of a;"
            + "goods g worth 10 by b;goods h worth 20 by b;goods i worth 0 by b;goods j worth 13 by b;");
        x.days(3);
        c.due("too little", x.buy(0, 0, 0), -1);
        c.due("v does not KNOW b", x.buy(0, 0, 65), -1);
        c.due("b's COIN", x.buy(0, 0, 3), -1);
        c.due("no such COIN", x.buy(0, 0, 1 | 1 << 7), -1);
        c.due("no such COIN", x.buy(0, 0, 1 | 1 << 31), -1);
        c.due("the seller", x.buy(1, 0, 2), -1);
        c.due("none such", x.buy(4, 0, 1), -1);
        c.due("none such", x.buy(-1, 0, 1), -1);
        c.due("none such", x.buy(0, 4, 1), -1);
        c.due("none such", x.buy(0, -1, 1), -1);
        c.due("no CHANGE of 7", x.buy(0, 3, 1), -1);
        c.due("status(3)", x.status(3), 11);
        c.due("has(10)", x.has(10), 1);
        c.due("two pairs are 10; the least bits", x.buy(0, 0, 1), 6);
        c.due("coin(0, 1)", x.coin(0, 1), 1);
        c.due("coin(1, 1)", x.coin(1, 1), 0);
        c.due("coin(2, 1)", x.coin(2, 1), 0);
        c.due("coin(3, 1)", x.coin(3, 1), 1);
        c.due("met(0, 0)", x.met(0, 0), 3);
        c.due("met(0, 1)", x.met(0, 1), 3);
        c.due("met(1, 0)", x.met(1, 0), 3);
        c.due("met(1, 1)", x.met(1, 1), 3);
        c.due("met(3, 0)", x.met(3, 0), 0);
        c.due("one ACT", x.has(10), 2);
        c.due("undo()", x.undo(), true);
        c.due("just so much", x.buy(0, 1, 1), 0);
        c.due("undo()", x.undo(), true);
        c.due("u KNOWS a", x.present(5, 0), 1);
        c.due("the fewest", x.buy(0, 0, 1), 32);
        c.due("undo()", x.undo(), true);
        c.due("for nothing", x.buy(0, 2, 0), 0);
        c.due("one ACT", x.has(10), 3);
        c.due("three COINS are 20, not four", x.buy(0, 2, 1), 38);
        CoinCircle y = Checks.of(PEOPLE + "coin p worth 20 of a knows b;coin q worth 20 of a knows b;goods g worth 9 by b;price 20;");
        c.due("what is given is not CHANGE", y.buy(0, 0, 3), -1);
        c.due("dear", y.buy(0, 0, 2), 0);
    }

    private static void tea() {
        c.at("promise 17");
        CoinCircle x = Checks.of(PEOPLE + "coin p worth 10 of a;coin q worth 5 of b;coin r worth 1 of e;snub q a;presents circle<3 and worth>3;");
        c.due("one", x.tea(1), -1);
        c.due("nobody", x.tea(0), -1);
        c.due("none such", x.tea(16 | 3), -1);
        c.due("none such", x.tea(1 << 31 | 3), -1);
        c.due("status(3)", x.status(3), 4);
        c.due("has(10)", x.has(10), 0);
        x.days(2);
        c.due("tea(15)", x.tea(15), 4);
        c.due("p: b and d, then its circle is 3", x.coin(0, 2), 7);
        c.due("q: not a, d and e", x.coin(1, 2), 14);
        c.due("r: the TEST fails, nobody SNUBS", x.coin(2, 3), 0);
        c.due("r", x.coin(2, 2), 8);
        c.due("met(0, 1)", x.met(0, 1), 2);
        c.due("again", x.tea(15), 0);
        c.due("has(10)", x.has(10), 3);
        x.undo();
        x.undo();
        c.due("tea(10)", x.tea(10), 1);
        c.due("coin(1, 2)", x.coin(1, 2), 10);
        c.due("coin(0, 2): a is not there", x.coin(0, 2), 1);
        CoinCircle y = Checks.of(PEOPLE + "person f rank 1;");
        c.due("five", y.tea(31), -1);
        c.due("four", y.tea(30), 0);
    }

    private static void days() {
        c.at("promise 18");
        CoinCircle x = Checks.of(PEOPLE + "coin p worth 10 of a knows b d;coin q worth 5 of b knows a;fades 3;");
        c.due("days(0)", x.days(0), -1);
        c.due("days(101)", x.days(101), -1);
        c.due("days(-1)", x.days(-1), -1);
        c.due("days(" + Integer.MAX_VALUE + ")", x.days(Integer.MAX_VALUE), -1);
        c.due("status(4)", x.status(4), 4);
        c.due("days(2)", x.days(2), 0);
        c.due("pay(0, 1)", x.pay(0, 1), true);
        c.due("days(1)", x.days(1), 2);
        c.due("coin(0, 2)", x.coin(0, 2), 3);
        c.due("coin(1, 2): who holds it", x.coin(1, 2), 2);
        c.due("days(100)", x.days(100), 1);
        c.due("coin(0, 2)", x.coin(0, 2), 2);
        c.due("has(5)", x.has(5), 103);
        for (int k = 0; k < 8; k++) c.due("days(100)", x.days(100), 0);
        c.due("beyond", x.days(97), -1);
        c.due("days(96)", x.days(96), 0);
        c.due("has(5)", x.has(5), 999);
        c.due("beyond", x.days(1), -1);
        c.due("beyond", x.calls(1), -1);
        c.due("status(4)", x.status(4), 7);
        CoinCircle y = Checks.of(PEOPLE + "coin p worth 10 of a knows b d;");
        c.due("never", y.days(100), 0);
        c.due("fades 1", Checks.tell(y, PEOPLE + "coin p worth 10 of a knows b d;fades 1;"), 6);
        c.due("days(1)", y.days(1), 2);
    }

    /** The x that a DRAW leaves. */
    private static long next(long x) { return (1103515245L * x + 12345L) % (1L << 31); }

    private static void calls() {
        c.at("promise 19");
        String town = PEOPLE + "coin p worth 10 of a knows b;coin q worth 5 of b;coin r worth 1 of d;snub r a;fades 9;presents other>0;";
        CoinCircle x = Checks.of(town + "vogue 100;");
        c.due("calls(0)", x.calls(0), -1);
        c.due("calls(51)", x.calls(51), -1);
        c.due("calls(-1)", x.calls(-1), -1);
        c.due("status(4)", x.status(4), 3);
        c.due("no DRAW", x.has(11), 1);
        for (int seed = 0; seed < 40; seed++) {
            x = Checks.of(town + "vogue 100;");
            x.seed(seed);
            long s = next(next(next(seed)));
            int coin = (int) (next(next(seed)) / 64 % 3);
            int person = (int) (s / 64 % 4);
            int may = x.may(coin, person);
            c.due("calls(1)", x.calls(1), may >= 0 ? 1 : 0);
            c.due("has(11)", x.has(11), (int) s);
            c.due("has(5)", x.has(5), 1);
            if (may >= 0) {
                c.due("KNOWN", x.coin(coin, 2) >> person & 1, may);
                c.due("SNUBBED", x.coin(coin, 3) >> person & 1, 1 - may);
                c.due("met", x.met(coin, person), may == 1 ? 1 : -1);
            }
            c.due("has(10)", x.has(10), 1);
            c.due("undo()", x.undo(), true);
            c.due("but the seed", x.has(11), (int) s);
            c.due("has(5)", x.has(5), 0);
        }
        x = Checks.of(town);
        x.seed(5);
        c.due("vogue 0", x.calls(2), 0);
        c.due("has(11)", x.has(11), (int) next(next(5)));
        c.due("fades meanwhile", x.calls(7), 0);
        c.due("coin(0, 2)", x.coin(0, 2), 1);
        Checks.tell(x, PEOPLE + "vogue 100;");
        x.seed(2147483647);
        c.due("without COINS", x.calls(50), 0);
        long s = 2147483647;
        for (int k = 0; k < 50; k++) s = next(s);
        c.due("has(11)", x.has(11), (int) s);
        int below = 0;
        x = Checks.of(town + "vogue 30;");
        for (int seed = 0; seed < 100; seed++) {
            x.seed(seed * 1000003);
            x.calls(1);
            long one = next(seed * 1000003);
            boolean draws = one / 64 % 100 < 30;
            if (draws) below++;
            c.due("vogue 30", x.has(11), (int) (draws ? next(next(one)) : one));
            x.undo();
        }
        c.due("both sorts", below > 10 && below < 90, true);
    }

    private static void undo() {
        c.at("promise 20");
        CoinCircle x = Checks.of(PEOPLE + "coin p worth 10 of a knows b;coin q worth 5 of b;fades 3;presents other<rank;vogue 50;");
        c.due("undo()", x.undo(), false);
        c.due("status(4)", x.status(4), 1);
        x.present(0, 2);
        x.present(1, 2);
        x.pay(0, 2);
        x.days(3);
        c.due("known", x.coin(0, 2), 4);
        c.due("undo()", x.undo(), true);
        c.due("known", x.coin(0, 2), 7);
        c.due("has(5)", x.has(5), 0);
        c.due("held", x.coin(0, 1), 2);
        c.due("undo()", x.undo(), true);
        c.due("held", x.coin(0, 1), 0);
        c.due("snubs", x.has(7), 1);
        c.due("undo()", x.undo(), true);
        c.due("snubs", x.has(7), 0);
        c.due("known", x.coin(0, 2), 7);
        c.due("undo()", x.undo(), true);
        c.due("known", x.coin(0, 2), 3);
        c.due("undo()", x.undo(), false);
        for (int k = 1; k <= 25; k++) {
            x.days(k);
            c.due("has(10)", x.has(10), Math.min(20, k));
        }
        for (int k = 25; k > 5; k--) {
            c.due("undo()", x.undo(), true);
            c.due("has(5)", x.has(5), k * (k - 1) / 2);
        }
        c.due("only 20", x.undo(), false);
        c.due("has(5)", x.has(5), 15);
        c.due("status(4)", x.status(4), 3);
    }

    private static void seed() {
        c.at("promise 21");
        CoinCircle x = new CoinCircle();
        c.due("seed(0)", x.seed(0), true);
        c.due("has(11)", x.has(11), 0);
        c.due("seed(-1)", x.seed(-1), false);
        c.due("seed(" + Integer.MIN_VALUE + ")", x.seed(Integer.MIN_VALUE), false);
        c.due("has(11)", x.has(11), 0);
        c.due("seed(" + Integer.MAX_VALUE + ")", x.seed(Integer.MAX_VALUE), true);
        c.due("has(11)", x.has(11), Integer.MAX_VALUE);
        c.due("status(5)", x.status(5), 2);
        c.due("no ACT", x.has(10), 0);
    }

    private static void letters() {
        c.at("promise 25");
        CoinCircle x = Checks.of(PEOPLE + "coin p worth 10 of a knows b;coin q worth 5 of b;snub q d;presents other>0;");
        c.due("letterIs(0)", x.letterIs(0), -1);
        Checks.tape(x, 0, 1, 1, 2, 0, 3, 0, 2, 1, 1);
        c.due("letters()", x.letters(), 4);
        c.due("the tape goes", x.end(1), false);
        c.at("promise 26");
        int[] want = {1, 2, 3, 0, 1};
        for (int k = 0; k < 5; k++) c.due("letterIs(" + k + ")", x.letterIs(k), want[k]);
        c.due("letterIs(5)", x.letterIs(5), -1);
        c.due("letterIs(-1)", x.letterIs(-1), -1);
        c.at("promise 25");
        c.due("none", x.letters(), -1);
        int[][] bad = {{0}, {0, 1, 0}, {2, 0}, {0, 4}, {0, 1, 255, 0}, {0, 255}, new int[42]};
        for (int[] rows : bad) {
            Checks.tape(x, rows);
            c.due("letters() of " + rows.length, x.letters(), -1);
            c.due("the tape goes, refused", x.end(1), false);
        }
        c.due("status(5)", x.status(5), 8);
        c.due("letterIs(0) stays", x.letterIs(0), 1);
        x.present(0, 2);
        c.due("letterIs(3), as it was then", x.letterIs(3), 0);
        Checks.tape(x, new int[40]);
        c.due("twenty", x.letters(), 20);
        c.due("letterIs(19)", x.letterIs(19), 1);
        c.due("letterIs(20)", x.letterIs(20), -1);
        Checks.tape(x, 0, 3);
        c.due("one", x.letters(), 1);
        c.due("letterIs(1)", x.letterIs(1), -1);
        Checks.tell(x, "x");
        c.due("a refused SOCIETY", x.letterIs(0), 3);
        Checks.tell(x, PEOPLE + "coin p worth 10 of a;");
        c.due("another SOCIETY", x.letterIs(0), -1);
        Checks.tape(x, 0, 1);
        c.due("true", x.letters(), 0);
        c.due("letterIs(0)", x.letterIs(0), 0);
    }

    private static void bytes(CoinCircle x, int... want) {
        c.due("image()", x.image(), want.length);
        for (int k = 0; k < want.length; k++) c.due("octet(" + k + ")", x.octet(k), want[k]);
        c.due("octet behind", x.octet(want.length), -1);
    }

    private static void image() {
        c.at("promise 31");
        CoinCircle x = new CoinCircle();
        c.due("octet(0)", x.octet(0), -1);
        c.due("octet(-1)", x.octet(-1), -1);
        c.at("promise 30");
        // 103 -> 515 mod 251 = 13 -> 65
        bytes(x, 0, 0, 65);
        Checks.tell(x, "person a rank 1;person b rank 1;person d rank 1;coin p worth 1 of a knows b;coin q worth 2 of d;snub p d;");
        c.due("octet(2), the latest image()", x.octet(2), 65);
        bytes(x, Checks.withCheck(0, 0, 0, 2, 2, 1, 2, 0, 0, 2));
        x.days(5);
        x.pay(0, 1);
        x.days(2);
        bytes(x, Checks.withCheck(0, 7, 1, 4, 4, 1, 2, 0, 0, 9));
        x.days(100);
        x.days(93);
        bytes(x, Checks.withCheck(0, 200, 1, 197, 197, 1, 2, 0, 0, 202));
        x.days(100);
        bytes(x, Checks.withCheck(1, 44, 1, 202, 202, 1, 2, 0, 0, 202));
        x.undo();
        c.due("octet(0) stays", x.octet(0), 1);
        c.due("octet(-1)", x.octet(-1), -1);
    }

    private static void on(CoinCircle x, boolean want, int... bytes) {
        Checks.tape(x, bytes);
        c.due("on()", x.on(), want);
        c.due("the tape goes", x.end(1), false);
    }

    private static void takeOn() {
        c.at("promise 32");
        CoinCircle x = Checks.of("person a rank 1;person b rank 1;person d rank 1;coin p worth 1 of a knows b;coin q worth 2 of d;"
            + "snub p d;fades 50;");
        x.seed(9);
        x.days(1);
        on(x, true, Checks.withCheck(1, 44, 1, 202, 42, 0, 0, 2, 0, 1));
        c.due("has(5)", x.has(5), 300);
        c.due("coin(0, 1)", x.coin(0, 1), 1);
        c.due("coin(0, 2)", x.coin(0, 2), 3);
        c.due("coin(0, 3)", x.coin(0, 3), 0);
        c.due("met(0, 0)", x.met(0, 0), 100);
        c.due("met(0, 1)", x.met(0, 1), 260);
        c.due("coin(1, 1)", x.coin(1, 1), 0);
        c.due("coin(1, 2)", x.coin(1, 2), 1);
        c.due("coin(1, 3)", x.coin(1, 3), 4);
        c.due("met(1, 0)", x.met(1, 0), 300);
        c.due("no ACT can be undone", x.undo(), false);
        c.due("the seed stays", x.has(11), 9);
        c.due("later(0, 0)", x.later(0, 0), 3);
        c.due("later(0, 1)", x.later(0, 1), 2);
        c.due("days(1)", x.days(1), 1);
        on(x, true, Checks.withCheck(0, 0, 0, 2, 0, 0, 2, 1, 1, 2));
        on(x, true, Checks.withCheck(3, 231, 0, 2, 0, 0, 2, 1, 1, 202));
        on(x, true, Checks.withCheck(0, 5, 0, 7, 0, 0, 2, 1, 1, 2));
        x.days(1);
        int[][] bad = {Checks.withCheck(3, 232, 0, 2, 0, 0, 2, 1, 1, 2), Checks.withCheck(255, 255, 0, 2, 0, 0, 2, 1, 1, 2),
            Checks.withCheck(0, 5, 3, 2, 2, 2, 2, 1, 1, 2), Checks.withCheck(0, 5, 255, 2, 2, 2, 2, 1, 1, 2),
            Checks.withCheck(0, 5, 0, 1, 2, 2, 2, 1, 1, 2), Checks.withCheck(0, 5, 0, 0, 2, 2, 2, 1, 1, 2),
            Checks.withCheck(0, 5, 0, 8, 2, 2, 2, 1, 1, 2), Checks.withCheck(0, 5, 0, 2, 8, 2, 2, 1, 1, 2),
            Checks.withCheck(3, 1, 0, 203, 2, 2, 2, 1, 1, 2), Checks.withCheck(3, 1, 0, 2, 2, 255, 2, 1, 1, 2),
            Checks.withCheck(0, 5, 0, 2, 0, 0, 2, 1, 1), Checks.withCheck(0, 5, 0, 2, 0, 0, 2, 1, 1, 2, 0),
            {0, 5, 0, 2, 0, 0, 2, 1, 1, 2, 0}, {}};
        for (int[] bytes : bad) {
            on(x, false, bytes);
            c.due("has(5) stays", x.has(5), 6);
            c.due("has(10) stays", x.has(10), 1);
            c.due("coin(0, 2) stays", x.coin(0, 2), 1);
            c.due("coin(1, 1) stays", x.coin(1, 1), 2);
        }
        c.due("status(5)", x.status(5), bad.length);
        CoinCircle y = new CoinCircle();
        on(y, true, Checks.withCheck(0, 7));
        c.due("has(5)", y.has(5), 7);
        on(y, false, 0, 8, 0);
        c.due("has(5)", y.has(5), 7);
    }

    public static void main(String[] args) {
        present();
        pay();
        buy();
        tea();
        days();
        calls();
        undo();
        seed();
        letters();
        image();
        takeOn();
        c.finish();
    }
}
