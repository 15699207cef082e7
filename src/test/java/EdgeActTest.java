/** The edges of what changes a circle: a method for each sentence of terms II and of promises 14 to 21 that names one. */
public final class EdgeActTest {
    private static final Checks c = new Checks();
    private static final String PEOPLE = "person a rank 3;person b rank 1;person d rank 2;person e rank 0;person f rank 1;";
    private static final int MOST = Integer.MAX_VALUE;
    private static final int LEAST = Integer.MIN_VALUE;

    private static int bit(boolean b) { return b ? 1 : 0; }

    // ---- DAY 0, PRESENTED

    /** "A COIN KNOWS who holds it, and those told. It is DAY 0 at first; it has MET all whom it knows on DAY 0." */
    private static void firstDay() {
        c.at("terms II, DAY 0");
        CoinCircle x = Checks.of(PEOPLE + "coin p worth 10 of b knows e;");
        c.due("has(5)", x.has(5), 0);
        c.due("coin(0, 2)", x.coin(0, 2), 2 | 8);
        c.due("met(0, 1)", x.met(0, 1), 0);
        c.due("met(0, 3)", x.met(0, 3), 0);
    }

    private static CoinCircle presenting() {
        return Checks.of(PEOPLE + "coin p worth 10 of a knows b;coin q worth 5 of b;snub p e;fades 9;presents rank>other;");
    }

    /** Promise 14: "NONE, refused (2), when it can't be", terms II: "to another PERSON whom it does not KNOW, and who does not snub it". */
    private static void presentRefused() {
        c.at("promise 14, refused");
        c.refused("to who holds it", presenting(), 2, -1, x -> x.present(0, 0));
        c.refused("to whom it KNOWS", presenting(), 2, -1, x -> x.present(0, 1));
        c.refused("to who SNUBS it", presenting(), 2, -1, x -> x.present(0, 3));
        int[][] none = {{2, 0}, {-1, 0}, {MOST, 0}, {LEAST, 0}, {0, 5}, {0, -1}, {0, MOST}, {0, LEAST}, {12, 10}};
        for (int[] n : none) c.refused("present(" + n[0] + ", " + n[1] + ")", presenting(), 2, -1, x -> x.present(n[0], n[1]));
        CoinCircle snubbed = presenting();
        c.due("snubbed", snubbed.present(1, 4), 0);
        c.refused("to who SNUBS it since", snubbed, 2, -1, x -> x.present(1, 4));
        CoinCircle known = presenting();
        c.due("known", known.present(0, 2), 1);
        c.refused("to whom it KNOWS since", known, 2, -1, x -> x.present(0, 2));
        c.refused("without COINS", new CoinCircle(), 2, -1, x -> x.present(0, 0));
    }

    /** Promise 14: "1 when it KNOWS him then", terms II: "it KNOWS him, and has MET him this DAY". */
    private static void presentHolds() {
        c.at("promise 14, the TEST holds");
        CoinCircle x = presenting();
        x.days(8);
        c.due("present(0, 2)", x.present(0, 2), 1);
        c.due("coin(0, 2)", x.coin(0, 2), 7);
        c.due("met(0, 2)", x.met(0, 2), 8);
        c.due("met(0, 0)", x.met(0, 0), 0);
        c.due("met(0, 1)", x.met(0, 1), 0);
        c.due("has(7)", x.has(7), 1);
        c.due("who holds it", x.coin(0, 1), 0);
        c.due("has(10)", x.has(10), 2);
    }

    /** Promise 14: "0 when it is snubbed" (the rank is that of the other one, which is not more), "it does without". */
    private static void presentFails() {
        c.at("promise 14, the TEST fails");
        CoinCircle x = presenting();
        c.due("of like rank", x.present(1, 4), 0);
        c.due("coin(1, 3)", x.coin(1, 3), 16);
        c.due("coin(1, 2)", x.coin(1, 2), 2);
        c.due("met(1, 4)", x.met(1, 4), -1);
        c.due("an ACT too", x.has(10), 1);
        c.due("not refused", x.status(2), 0);
        CoinCircle y = Checks.of(PEOPLE + "coin p worth 10 of e;");
        for (int k = 0; k < 3; k++) c.due("without presents", y.present(0, k), 1);
    }

    /** Terms II: "else he SNUBS it, for good": no DAY, no TEST that would hold by now, changes that. */
    private static void snubbedForGood() {
        c.at("terms II, SNUBS for good");
        CoinCircle x = Checks.of(PEOPLE + "coin p worth 10 of a;snub p b;fades 1;presents day>0;");
        c.due("on DAY 0", x.present(0, 2), 0);
        Checks.passDays(x, 300);
        c.due("another one", x.may(0, 4), 1);
        c.due("may(0, 2)", x.may(0, 2), -1);
        c.due("coin(0, 3)", x.coin(0, 3), 2 | 4);
        c.refused("present(0, 2)", x, 2, -1, y -> y.present(0, 2));
        c.refused("present(0, 1)", x, 2, -1, y -> y.present(0, 1));
        c.due("at tea", x.tea(1 | 2 | 4), 0);
    }

    /** Terms II: "forgets (KNOWS no more)": who is forgotten can be PRESENTED to again, and not be PAID. */
    private static void forgottenAndPresentedAgain() {
        c.at("terms II, PRESENTED again");
        CoinCircle x = Checks.of(PEOPLE + "coin p worth 10 of a knows b;fades 2;");
        x.days(2);
        c.refused("pay(0, 1)", x, 2, 0, y -> bit(y.pay(0, 1)));
        c.due("present(0, 1)", x.present(0, 1), 1);
        c.due("met(0, 1)", x.met(0, 1), 2);
        c.due("days(1)", x.days(1), 0);
        c.due("days(1)", x.days(1), 1);
    }

    // ---- PAID

    /** Promise 15: "to another one than who holds it", "refused (2), when it does not KNOW him, or there are none such". */
    private static void payRefused() {
        c.at("promise 15, refused");
        c.refused("to who holds it", presenting(), 2, 0, x -> bit(x.pay(0, 0)));
        c.refused("whom it does not KNOW", presenting(), 2, 0, x -> bit(x.pay(0, 2)));
        c.refused("who SNUBS it", presenting(), 2, 0, x -> bit(x.pay(0, 3)));
        int[][] none = {{2, 0}, {-1, 0}, {MOST, 0}, {LEAST, 0}, {0, 5}, {0, -1}, {0, MOST}, {0, LEAST}, {0, 33}};
        for (int[] n : none) c.refused("pay(" + n[0] + ", " + n[1] + ")", presenting(), 2, 0, x -> bit(x.pay(n[0], n[1])));
        c.refused("without COINS", new CoinCircle(), 2, 0, x -> bit(x.pay(0, 0)));
    }

    /** Terms II, PAID: "he holds it then; it has MET both this DAY". */
    private static void paid() {
        c.at("promise 15, PAID");
        CoinCircle x = presenting();
        x.days(8);
        c.due("pay(0, 1)", x.pay(0, 1), true);
        c.due("who holds it", x.coin(0, 1), 1);
        c.due("whom it KNOWS", x.coin(0, 2), 3);
        c.due("met(0, 0)", x.met(0, 0), 8);
        c.due("met(0, 1)", x.met(0, 1), 8);
        c.due("has(10)", x.has(10), 2);
        c.refused("again", x, 2, 0, y -> bit(y.pay(0, 1)));
        c.due("days(8)", x.days(8), 0);
        c.due("who held it is forgotten 9 DAYS later", x.days(1), 1);
        c.due("whom it KNOWS", x.coin(0, 2), 2);
    }

    // ---- BOUGHT

    private static final String SHOP = PEOPLE + "coin p worth 20 of a knows b;coin q worth 1 of a;coin r worth 6 of b knows a;"
        + "coin s worth 4 of b knows a;coin t worth 9 of b;coin u worth 5 of d knows a b;goods g worth 10 by b;goods h worth 20 by b;"
        + "goods i worth 21 by b;goods j worth 13 by b;goods k worth 0 by b;goods l worth 11 by b;"
        + "goods m worth 1 by b;goods n worth 5 by b;goods o worth 6 by b;";

    /** Promise 16: "NONE, refused (3), when it can't be"; terms II: "COINS that the buyer holds, all of which KNOW the seller". */
    private static void buyRefused() {
        c.at("promise 16, refused");
        int[][] none = {{5, 0, 1}, {-1, 0, 1}, {MOST, 0, 1}, {LEAST, 0, 1}, {0, 9, 1}, {0, -1, 1}, {0, MOST, 1}, {0, LEAST, 1}};
        for (int[] n : none) {
            c.refused("buy(" + n[0] + ", " + n[1] + ", 1)", Checks.of(SHOP), 3, -1, x -> x.buy(n[0], n[1], n[2]));
        }
        c.refused("the buyer is the seller", Checks.of(SHOP), 3, -1, x -> x.buy(1, 0, 4 | 8));
        c.refused("the buyer is the seller, for nothing", Checks.of(SHOP), 3, -1, x -> x.buy(1, 4, 0));
        c.refused("a COIN that does not KNOW the seller", Checks.of(SHOP), 3, -1, x -> x.buy(0, 6, 2));
        c.refused("a COIN of the seller's", Checks.of(SHOP), 3, -1, x -> x.buy(0, 8, 4));
        c.refused("a COIN of another one's", Checks.of(SHOP), 3, -1, x -> x.buy(0, 7, 32));
        for (int coin : new int[] {6, 11, 12, 30, 31}) {
            c.refused("no COIN " + coin, Checks.of(SHOP), 3, -1, x -> x.buy(0, 0, 1 | 1 << coin));
        }
        c.refused("without GOODS", new CoinCircle(), 3, -1, x -> x.buy(0, 0, 0));
        // for nothing, too, the buyer must be there, and may be any of the PEOPLE
        for (int nobody : new int[] {-1, 5, 6, 12, 31, 32, MOST, LEAST}) {
            c.refused("buyer " + nobody, Checks.of(SHOP), 3, -1, x -> x.buy(nobody, 4, 0));
        }
        c.due("the last one of PEOPLE, more than COINS", Checks.of(PEOPLE + "coin p worth 3 of f knows a;goods g worth 3 by a;").buy(4, 0, 1), 0);
    }

    /** Terms II: the price is "not above what is given": just so much, one less, nothing at all. */
    private static void priceAndWhatIsGiven() {
        c.at("terms II, the price, not above what is given");
        CoinCircle x = Checks.of(SHOP);
        c.due("just so much: no CHANGE", x.buy(0, 1, 1), 0);
        c.due("who holds it", x.coin(0, 1), 1);
        c.refused("one too little", Checks.of(SHOP), 3, -1, y -> y.buy(0, 2, 1));
        c.refused("nothing", Checks.of(SHOP), 3, -1, y -> y.buy(0, 0, 0));
        CoinCircle z = Checks.of(SHOP);
        c.due("nothing for nothing", z.buy(0, 4, 0), 0);
        c.due("an ACT", z.has(10), 1);
    }

    /** Terms II: "the price is the SUM of price, 0 .. 999 (its worth without)". */
    private static void priceBounds() {
        c.at("terms II, the price is 0 .. 999");
        String[] sums = {"0-1", "0-9999*9999", "0", "1", "998", "999", "1000", "9999*9999"};
        int[] want = {0, 0, 0, 1, 998, 999, 999, 999};
        for (int k = 0; k < sums.length; k++) {
            c.due("price " + sums[k], Checks.of(SHOP + "price " + sums[k] + ";").goods(0, 0, 2), want[k]);
        }
        c.due("below 0, for nothing", Checks.of(SHOP + "price 0-5;").buy(0, 0, 0), 0);
        StringBuilder rich = new StringBuilder(PEOPLE);
        for (char k = 'a'; k <= 'k'; k++) rich.append("coin c").append(k).append(" worth 99 of a knows b;");
        rich.append("coin cl worth 90 of b knows a;goods g worth 1 by b;price 1000;");
        CoinCircle x = Checks.of(rich.toString());
        c.refused("990 is less than 999", x, 3, -1, y -> y.buy(0, 0, 1023));
        c.due("1089 is 90 more than 999", x.buy(0, 0, 2047), 2048);
        // a's rank is 3, b's is 1: the price is that for the buyer
        CoinCircle v = Checks.of(PEOPLE + "coin p worth 3 of a knows b;coin q worth 2 of b knows a;goods g worth 9 by b;price rank;");
        c.due("the buyer's rank", v.buy(0, 0, 1), 0);
        CoinCircle w = Checks.of(SHOP);
        c.due("its worth, without", w.goods(3, 0, 2), 13);
        c.due("its worth, without", w.goods(4, 0, 2), 0);
    }

    /** Terms II: CHANGE is "together just so much"; "without one it can't be bought"; all of it KNOWS the buyer. */
    private static void changeThatIsNot() {
        c.at("terms II, CHANGE");
        c.refused("no CHANGE of 7", Checks.of(SHOP), 3, -1, x -> x.buy(0, 3, 1));
        c.refused("9 does not KNOW the buyer", Checks.of(SHOP), 3, -1, x -> x.buy(0, 5, 1));
        CoinCircle x = Checks.of(SHOP);
        x.present(4, 0);
        c.due("9, which KNOWS the buyer", x.buy(0, 5, 1), 16);
        c.due("4 and 6", Checks.of(SHOP).buy(0, 0, 1), 12);
        String text = PEOPLE + "coin p worth 4 of b knows a;coin q worth 6 of b knows a;coin r worth 20 of a knows b;"
            + "goods g worth 10 by b;goods h worth 16 by b;";
        c.due("the first COINS", Checks.of(text).buy(0, 0, 4), 3);
        c.due("the first COIN", Checks.of(text).buy(0, 1, 4), 1);
        StringBuilder many = new StringBuilder(PEOPLE + "coin x worth 99 of a knows b;goods g worth 88 by b;");
        for (char k = 'a'; k <= 'k'; k++) many.append("coin c").append(k).append(" worth 1 of b knows a;");
        c.due("eleven COINS", Checks.of(many.toString()).buy(0, 0, 1), 4094);
        CoinCircle y = Checks.of(many.toString().replace("worth 88", "worth 87"));
        c.refused("twelve would be needed", y, 3, -1, z -> z.buy(0, 0, 1));
    }

    /** Terms II: "COINS of the seller's (held ahead of that)": what is given is none of it. */
    private static void givenIsNoChange() {
        c.at("terms II, CHANGE is held ahead of that");
        String two = PEOPLE + "coin p worth 5 of a knows b;coin q worth 5 of a knows b;goods g worth 5 by b;";
        c.refused("5 of the 10 given", Checks.of(two), 3, -1, x -> x.buy(0, 0, 3));
        c.due("one of the two", Checks.of(two).buy(0, 0, 2), 0);
        CoinCircle x = Checks.of(two + "coin r worth 5 of b knows a;");
        c.due("the seller's own", x.buy(0, 0, 3), 4);
    }

    /** Terms II: "of all such sets the one with the fewest COINS, of like ones the least bits". */
    private static void fewestCoins() {
        c.at("terms II, CHANGE of the fewest COINS, the least bits");
        String head = PEOPLE + "coin p worth 9 of a knows b;goods g worth 1 by b;";
        String own = " of b knows a;";
        // 8 is 1+3+4 ahead of 2+6, and 8 alone comes last
        c.due("one", Checks.of(head + "coin q worth 1" + own + "coin r worth 3" + own + "coin s worth 4" + own + "coin t worth 2" + own
            + "coin u worth 6" + own + "coin v worth 8" + own).buy(0, 0, 1), 64);
        c.due("two", Checks.of(head + "coin q worth 1" + own + "coin r worth 3" + own + "coin s worth 4" + own + "coin t worth 2" + own
            + "coin u worth 6" + own).buy(0, 0, 1), 48);
        c.due("the first of like ones", Checks.of(head + "coin q worth 8" + own + "coin r worth 8" + own).buy(0, 0, 1), 2);
        // 5+3 is bits 2 and 16, 6+2 is bits 4 and 8: less
        c.due("the least bits", Checks.of(head + "coin q worth 5" + own + "coin r worth 6" + own + "coin s worth 2" + own + "coin t worth 3"
            + own).buy(0, 0, 1), 12);
    }

    /** Terms II: "Then all those are PAID. (GOODS are never sold out.)" One ACT; the price is as it is ahead of that. */
    private static void boughtAgainAndAgain() {
        c.at("terms II, BOUGHT again and again");
        CoinCircle x = Checks.of(PEOPLE + "coin p worth 2 of a knows b;coin q worth 1 of b knows a;coin r worth 7 of a;goods g worth 9 by b;"
            + "fades 5;price 2-circle;");
        x.days(4);
        for (int k = 0; k < 3; k++) {
            c.due("price 1", x.goods(0, 0, 2), 1);
            c.due("bought", x.buy(0, 0, 1), 2);
            c.due("the other way", x.pay(0, 0), true);
            c.due("the other way", x.pay(1, 1), true);
        }
        c.due("bought", x.buy(0, 0, 1), 2);
        c.due("one ACT each", x.has(10), 11);
        for (int coin = 0; coin < 2; coin++) {
            c.due("who holds it", x.coin(coin, 1), 1 - coin);
            c.due("MET both", x.met(coin, 0), 4);
            c.due("MET both", x.met(coin, 1), 4);
        }
        c.due("undo()", x.undo(), true);
        c.due("who holds it", x.coin(0, 1), 0);
        c.due("who holds it", x.coin(1, 1), 1);
    }

    // ---- TEA

    private static final String HOUSE = PEOPLE + "coin p worth 10 of a;coin q worth 5 of b;coin r worth 1 of e;";

    /** Promise 17: "NONE, refused (3), when there are none such, or not 2 to 4". */
    private static void teaRefused() {
        c.at("promise 17, refused");
        for (int people : new int[] {0, 1, 2, 16, 31, 32, 33, 3 | 1 << 10, 3 | 1 << 30, 1 | 1 << 31, 3 | 1 << 31, -1, LEAST, MOST}) {
            c.refused("tea(" + people + ")", Checks.of(HOUSE), 3, -1, x -> x.tea(people));
        }
        c.refused("without PEOPLE", new CoinCircle(), 3, -1, x -> x.tea(0));
        c.refused("without PEOPLE", new CoinCircle(), 3, -1, x -> x.tea(3));
        CoinCircle ten = Checks.of(Checks.people(10) + "coin c worth 1 of pj;");
        c.refused("all ten", ten, 3, -1, x -> x.tea(1023));
    }

    /** Terms II: "A TEA of some PEOPLE (2 to 4)". */
    private static void teaOfTwoToFour() {
        c.at("promise 17, 2 to 4 PEOPLE");
        CoinCircle x = Checks.of(HOUSE);
        c.due("two", x.tea(1 | 4), 1);
        c.due("coin(0, 2)", x.coin(0, 2), 5);
        c.due("three", x.tea(1 | 2 | 4), 3);
        c.due("four", x.tea(1 | 2 | 4 | 8), 5);
        c.due("coin(0, 2)", x.coin(0, 2), 15);
        c.due("coin(1, 2)", x.coin(1, 2), 15);
        c.due("coin(2, 2)", x.coin(2, 2), 15);
        CoinCircle ten = Checks.of(Checks.people(10) + "coin c worth 1 of pj;");
        c.due("the last ones", ten.tea(512 | 256 | 128 | 64), 3);
    }

    /** Promise 17: "how many got to be KNOWN": none, and still an ACT. */
    private static void teaOfNothing() {
        c.at("promise 17, nobody gets to be KNOWN");
        CoinCircle x = Checks.of(HOUSE);
        c.due("no COINS there", x.tea(4 | 16), 0);
        c.due("an ACT", x.has(10), 1);
        c.due("all KNOWN", x.tea(1 | 2), 2);
        c.due("all KNOWN already", x.tea(1 | 2), 0);
        c.due("not refused", x.status(3), 0);
    }

    /** Terms II: "if it can be, and the TEST holds (nobody SNUBS at tea)". */
    private static void nobodySnubsAtTea() {
        c.at("terms II, nobody SNUBS at tea");
        CoinCircle x = Checks.of(HOUSE + "snub q a;presents rank>other;");
        c.due("tea(15)", x.tea(15), 4);
        c.due("p", x.coin(0, 2), 15);
        c.due("q: snubbed by a, d is higher", x.coin(1, 2), 2 | 8);
        c.due("r: all are higher", x.coin(2, 2), 8);
        c.due("has(7)", x.has(7), 1);
        c.due("r may be PRESENTED later", x.may(2, 0), 0);
    }

    /** Terms II: "COIN by COIN .., by numbers, is PRESENTED to each other one of these, by numbers": each as all is by then. */
    private static void teaByNumbers() {
        c.at("terms II, TEA by numbers");
        CoinCircle x = Checks.of(HOUSE + "presents circle<3;");
        c.due("tea(30): two each", x.tea(2 | 4 | 8 | 16), 4);
        c.due("q: d and e", x.coin(1, 2), 2 | 4 | 8);
        c.due("r: b and d", x.coin(2, 2), 2 | 4 | 8);
        c.due("p's holder is not there", x.coin(0, 2), 1);
        CoinCircle y = Checks.of(HOUSE + "presents circle=2 or other=2;");
        y.days(6);
        // a: b is refused while circle is 1, d holds, then e; b is not asked again
        c.due("tea(15)", y.tea(15), 5);
        c.due("p", y.coin(0, 2), 1 | 4 | 8);
        c.due("q: not a, d, e", y.coin(1, 2), 2 | 4 | 8);
        c.due("r: not a, not b, d", y.coin(2, 2), 8 | 4);
        c.due("MET this DAY", y.met(0, 2), 6);
        c.due("MET on DAY 0", y.met(0, 0), 0);
    }

    // ---- DAYS

    /** Promise 18: "n DAYS go by (1 .. 100)", "NONE, refused (4), when n can't be". */
    private static void daysRefused() {
        c.at("promise 18, 1 .. 100");
        for (int n : new int[] {0, -1, 101, 1000, MOST, LEAST}) {
            c.refused("days(" + n + ")", Checks.of(HOUSE), 4, -1, x -> x.days(n));
        }
        CoinCircle x = Checks.of(HOUSE);
        c.due("days(1)", x.days(1), 0);
        c.due("has(5)", x.has(5), 1);
        c.due("days(100)", x.days(100), 0);
        c.due("has(5)", x.has(5), 101);
        c.due("has(10): one ACT each", x.has(10), 2);
    }

    /** Promise 18: "or beyond DAY 999", terms II: "DAY is one more (999 at most)". */
    private static void beyondDay999() {
        c.at("promise 18, beyond DAY 999");
        CoinCircle x = Checks.of(HOUSE);
        Checks.passDays(x, 900);
        c.refused("days(100)", x, 4, -1, y -> y.days(100));
        c.due("days(99)", x.days(99), 0);
        c.due("has(5)", x.has(5), 999);
        c.refused("days(1)", x, 4, -1, y -> y.days(1));
        c.refused("days(MOST)", x, 4, -1, y -> y.days(MOST));
    }

    /** Terms II: "all whom it has last MET fades DAYS ago or longer", "but for who holds it"; promise 18: "how many were forgotten". */
    private static void forgets() {
        c.at("promise 18, how many were forgotten");
        CoinCircle x = Checks.of(HOUSE + "coin s worth 1 of a knows b d e f;fades 3;");
        c.due("none yet", x.days(2), 0);
        c.due("s", x.coin(3, 2), 31);
        c.due("pay", x.pay(3, 1), true);
        c.due("d, e, f", x.days(1), 3);
        c.due("who was PAID, who paid", x.coin(3, 2), 3);
        c.due("not yet", x.days(1), 0);
        c.due("who paid", x.days(1), 1);
        c.due("but for who holds it", x.coin(3, 2), 2);
        c.due("for ever", x.days(100), 0);
        c.due("all of them", x.has(8), 0);
        c.due("has(9)", x.has(9), 1 | 2 | 8);
        CoinCircle y = Checks.of(PEOPLE + "coin s worth 1 of a knows b d e f;coin t worth 1 of b knows a;fades 99;");
        c.due("98 DAYS", y.days(98), 0);
        c.due("more than 99 at once", y.days(100), 5);
        CoinCircle z = Checks.of(PEOPLE + "coin s worth 1 of a knows b d e f;fades 1;");
        c.due("fades 1", z.days(1), 4);
        c.due("known for this DAY", z.present(0, 1), 1);
        c.due("fades 1", z.days(1), 1);
        CoinCircle never = Checks.of(PEOPLE + "coin s worth 1 of a knows b d e f;fades 0;");
        c.due("fades 0", never.days(100), 0);
        c.due("fades 0", never.coin(0, 2), 31);
    }

    // ---- CALLS, DRAW

    private static final String PAIR = "person a rank 1;person b rank 2;coin p worth 1 of a;coin q worth 1 of b;fades 9;";

    /** Promise 19: "n DAYS of CALLS (1 .. 50)", "NONE, refused (4), likewise": then no DRAW is made. */
    private static void callsRefused() {
        c.at("promise 19, 1 .. 50");
        for (int n : new int[] {0, -1, 51, 100, MOST, LEAST}) {
            c.refused("calls(" + n + ")", Checks.of(PAIR + "vogue 100;"), 4, -1, x -> x.calls(n));
        }
        CoinCircle x = Checks.of(PAIR);
        c.due("calls(1)", x.calls(1), 0);
        c.due("has(5)", x.has(5), 1);
        c.due("calls(50)", x.calls(50), 0);
        c.due("has(5)", x.has(5), 51);
        c.due("has(10): one ACT each", x.has(10), 2);
        Checks.passDays(x, 899);
        c.refused("beyond DAY 999", x, 4, -1, y -> y.calls(50));
        c.due("calls(49)", x.calls(49), 0);
        c.due("has(5)", x.has(5), 999);
        c.refused("at DAY 999", x, 4, -1, y -> y.calls(1));
    }

    /** The seed behind calls(1), from this seed, with so much vogue in this SOCIETY. */
    private static void draws(String text, int vogue, int seed, int want, int after) {
        CoinCircle x = Checks.of(text + "vogue " + vogue + ";");
        x.seed(seed);
        c.due("vogue " + vogue + ", seed " + seed + ": calls(1)", x.calls(1), want);
        c.due("vogue " + vogue + ", seed " + seed + ": has(11)", x.has(11), after);
        c.due("vogue " + vogue + ", seed " + seed + ": has(5)", x.has(5), 1);
    }

    /**
     * Terms II: "a DRAW of 100 is made: below vogue a DRAW of the COINS, a DRAW of the PEOPLE". From 0 the seeds are 12345,
     * 1406932606, 654583775: floor(12345 / 64) = 192, a DRAW of 92; then COIN 0 of 2, PERSON 1 of 2.
     */
    private static void belowVogue() {
        c.at("terms II, a DRAW below vogue");
        draws(PAIR, 92, 0, 0, 12345);
        draws(PAIR, 91, 0, 0, 12345);
        // COIN: floor(1406932606 / 64) = 21983321 is odd: 1; PERSON: floor(654583775 / 64) = 10227871 is odd: 1, who holds it
        draws(PAIR, 93, 0, 0, 654583775);
        draws(PAIR, 100, 0, 0, 654583775);
        // from 42 the DRAW is 0, from 119 it is 99
        draws(PAIR, 0, 42, 0, 1250496027);
        draws(PAIR, 1, 42, 0, 1000676753);
        draws(PAIR, 99, 119, 0, 321823972);
        draws(PAIR, 100, 119, 1, 1635180546);
    }

    /** Terms II: "that COIN is PRESENTED to that one, if it can be (it does not KNOW him, he does not snub it": else nothing is done. */
    private static void presentedByCalls() {
        c.at("promise 19, how many COINS were PRESENTED");
        // from 138: a DRAW of 99; floor(1065571096 / 64) = 16649548, COIN 0; floor(1791746417 / 64) = 27996037, PERSON 1
        CoinCircle x = Checks.of(PAIR + "vogue 100;");
        x.seed(138);
        c.due("calls(1)", x.calls(1), 1);
        c.due("KNOWN", x.coin(0, 2), 3);
        c.due("MET on the DAY that has gone by", x.met(0, 1), 1);
        x.seed(138);
        c.due("KNOWN already", x.calls(1), 0);
        c.due("MET stays", x.met(0, 1), 1);
        CoinCircle y = Checks.of(PAIR + "vogue 100;presents other<2;");
        y.seed(138);
        c.due("PRESENTED, and snubbed", y.calls(1), 1);
        c.due("snubbed", y.coin(0, 3), 2);
        y.seed(138);
        c.due("snubbed already", y.calls(1), 0);
        c.due("has(7)", y.has(7), 1);
        // from 162: COIN 1, PERSON 1, who holds it; 119: likewise COIN 1, PERSON 0
        CoinCircle z = Checks.of(PAIR + "vogue 100;");
        z.seed(162);
        c.due("to who holds it", z.calls(1), 0);
        c.due("coin(1, 2)", z.coin(1, 2), 2);
        z.seed(119);
        c.due("COIN 1 to PERSON 0", z.calls(1), 1);
        c.due("coin(1, 2)", z.coin(1, 2), 3);
    }

    /** Terms II: "a DRAW of the COINS, a DRAW of the PEOPLE": the last COIN and the last PERSON, of unlike numbers. */
    private static void drawsOfCoinsAndPeople() {
        c.at("terms II, a DRAW of the COINS, of the PEOPLE");
        // from 12: floor(1937462122 / 64) = 30272845 is odd: COIN 1 of 2; floor(753467483 / 64) = 11772929: PERSON 4 of 5
        CoinCircle x = Checks.of(PEOPLE + "coin p worth 1 of a;coin q worth 1 of a;vogue 100;");
        x.seed(12);
        c.due("calls(1)", x.calls(1), 1);
        c.due("COIN 1, PERSON 4", x.coin(1, 2), 1 | 16);
        c.due("COIN 0", x.coin(0, 2), 1);
        c.due("has(11)", x.has(11), 753467483);
        // from 34: floor(762615920 / 64) = 11915873: COIN 2 of 3; floor(934754281 / 64) = 14605535 is odd: PERSON 1 of 2
        CoinCircle y = Checks.of("person a rank 1;person b rank 2;coin p worth 1 of a;coin q worth 1 of a;coin r worth 1 of a;vogue 100;");
        y.seed(34);
        c.due("calls(1)", y.calls(1), 1);
        c.due("COIN 2, PERSON 1", y.coin(2, 2), 3);
        c.due("COIN 1", y.coin(1, 2), 1);
        c.due("has(11)", y.has(11), 934754281);
    }

    /** Terms II: "so many DAYS, behind each of which a DRAW .. is made": the DAY goes by first, and forgets. */
    private static void daysOfCalls() {
        c.at("promise 19, the DAY goes by first");
        CoinCircle x = Checks.of("person a rank 1;person b rank 2;coin p worth 1 of a knows b;coin q worth 1 of b;fades 1;vogue 100;");
        x.seed(138);
        c.due("forgotten, and PRESENTED", x.calls(1), 1);
        c.due("met(0, 1)", x.met(0, 1), 1);
        CoinCircle y = Checks.of("person a rank 1;person b rank 2;coin p worth 1 of a;coin q worth 1 of b;vogue 100;presents day=1;");
        y.seed(138);
        c.due("the TEST sees the new DAY", y.calls(1), 1);
        c.due("KNOWN", y.coin(0, 2), 3);
        CoinCircle z = Checks.of("person a rank 1;person b rank 2;coin p worth 1 of a knows b;fades 3;");
        c.due("calls(3)", z.calls(3), 0);
        c.due("forgotten", z.coin(0, 2), 1);
    }

    /** Terms II: "without COINS no DRAW behind the first one"; one DRAW a DAY then. */
    private static void callsWithoutCoins() {
        c.at("terms II, CALLS without COINS");
        draws("", 100, 0, 0, 12345);
        draws(PEOPLE, 100, 0, 0, 12345);
        draws(PEOPLE, 100, 42, 0, 1250496027);
        CoinCircle x = Checks.of(PEOPLE + "vogue 100;");
        x.seed(0);
        c.due("calls(3)", x.calls(3), 0);
        c.due("three DRAWS", x.has(11), 654583775);
        // with one COIN and one PERSON both DRAWS are made all the same
        draws("person a rank 1;coin p worth 1 of a;", 100, 0, 0, 654583775);
    }

    /** Terms II: "x (the seed) becomes (1103515245 x + 12345) mod 2 to the 31": of the most it wraps around. */
    private static void drawWrapsAround() {
        c.at("terms II, a DRAW wraps around");
        // 1103515245 (2 to the 31 less 1) + 12345, mod 2 to the 31, is 2 to the 31 less 1103502900
        draws(PAIR, 0, MOST, 0, 1043980748);
        draws(PAIR, 0, 0, 0, 12345);
        draws(PAIR, 0, 1, 0, 1103527590);
        draws(PAIR, 0, 2, 0, (int) (2L * 1103515245L + 12345L - (1L << 31)));
        draws(PAIR, 0, 1 << 30, 0, (1 << 30) + 12345);
        CoinCircle x = new CoinCircle();
        x.calls(1);
        c.due("a new one's seed is 1", x.has(11), 1103527590);
    }

    // ---- undo, seed

    /** Promise 20: "refused (4), when none can be": at first, behind the last one, behind a SOCIETY. */
    private static void nothingToUndo() {
        c.at("promise 20, refused");
        c.refused("a new one", new CoinCircle(), 4, 0, x -> bit(x.undo()));
        c.refused("a new SOCIETY", Checks.of(PAIR), 4, 0, x -> bit(x.undo()));
        CoinCircle x = Checks.of(PAIR);
        x.days(1);
        c.due("undo()", x.undo(), true);
        c.refused("no other one", x, 4, 0, y -> bit(y.undo()));
        x.seed(5);
        c.refused("seed() is no ACT", x, 4, 0, y -> bit(y.undo()));
    }

    /** Terms II: "The last 20 can be undone": of 20 all, of 21 all but the first, and again behind new ones. */
    private static void twentyActs() {
        c.at("terms II, the last 20 can be undone");
        for (int acts : new int[] {19, 20, 21, 40, 41, 47}) {
            CoinCircle x = Checks.of(PAIR);
            for (int k = 0; k < acts; k++) x.days(1);
            c.due("has(10) of " + acts, x.has(10), Math.min(20, acts));
            for (int k = 0; k < 20 && k < acts; k++) c.due("undo() " + k + " of " + acts, x.undo(), true);
            c.due("has(5) of " + acts, x.has(5), Math.max(0, acts - 20));
            c.due("has(10) of " + acts, x.has(10), 0);
            c.refused("one more", x, 4, 0, y -> bit(y.undo()));
            for (int k = 0; k < 21; k++) x.days(2);
            for (int k = 0; k < 20; k++) c.due("undo() again", x.undo(), true);
            c.due("has(5), again", x.has(5), Math.max(0, acts - 20) + 2);
            c.due("none more", x.undo(), false);
        }
    }

    /** Promise 20: "all that ACTS change is as it was ahead of it": each kind of ACT, each with all that it changed. */
    private static void eachActUndone() {
        c.at("promise 20, each kind of ACT");
        String text = SHOP + "fades 2;vogue 100;presents rank>other;";
        Checks.Call[] acts = {x -> x.present(0, 2), x -> x.present(4, 0), x -> bit(x.pay(0, 1)), x -> x.buy(0, 0, 1), x -> x.tea(15),
            x -> x.days(5), x -> x.calls(5)};
        for (int k = 0; k < acts.length; k++) {
            CoinCircle x = Checks.of(text);
            x.days(1);
            String before = Checks.state(x);
            c.due("not refused, " + k, acts[k].on(x) >= 0, true);
            c.due("changed, " + k, Checks.state(x).equals(before), false);
            int seed = x.has(11);
            c.due("undo(), " + k, x.undo(), true);
            c.due("but the seed, " + k, x.has(11), seed);
            x.seed(1);
            c.same("undo() of act " + k, Checks.state(x), before);
        }
    }

    /** Promise 20: of the last ones of twelve COINS and ten PEOPLE all is as it was, too. */
    private static void fullestUndone() {
        c.at("promise 20, twelve COINS, ten PEOPLE");
        CoinCircle x = Checks.of(Checks.people(10) + Checks.coins(12) + "presents other=1 and holds<12;snub cl pi;");
        x.days(5);
        x.present(11, 8);
        x.present(11, 7);
        c.due("snubbed", x.coin(11, 3), 256 | 128);
        x.undo();
        c.due("not snubbed", x.coin(11, 3), 256);
        CoinCircle y = Checks.of(Checks.people(10) + Checks.coins(12));
        y.days(5);
        y.present(11, 9);
        c.due("met(11, 9)", y.met(11, 9), 5);
        y.days(2);
        y.pay(11, 9);
        c.due("met(11, 9)", y.met(11, 9), 7);
        c.due("who holds it", y.coin(11, 1), 9);
        c.due("undo()", y.undo(), true);
        c.due("met(11, 9)", y.met(11, 9), 5);
        c.due("met(11, 0)", y.met(11, 0), 0);
        c.due("who holds it", y.coin(11, 1), 0);
        c.due("undo()", y.undo(), true);
        c.due("undo()", y.undo(), true);
        c.due("coin(11, 2)", y.coin(11, 2), 1);
        c.due("met(11, 9)", y.met(11, 9), -1);
    }

    /** A refused call is no ACT: what was done ahead of it is undone. */
    private static void refusedIsNoAct() {
        c.at("promise 20, what is refused is no ACT");
        CoinCircle x = Checks.of(SHOP);
        x.days(7);
        x.present(0, 0);
        x.pay(0, 0);
        x.buy(0, 2, 1);
        x.tea(0);
        x.days(0);
        x.calls(0);
        c.due("has(10)", x.has(10), 1);
        c.due("undo()", x.undo(), true);
        c.due("has(5)", x.has(5), 0);
    }

    /** Promise 21: "false, refused (5), when it is below 0". */
    private static void seeds() {
        c.at("promise 21");
        for (int seed : new int[] {-1, -2, LEAST}) c.refused("seed(" + seed + ")", Checks.of(PAIR), 5, 0, x -> bit(x.seed(seed)));
        CoinCircle x = Checks.of(PAIR);
        for (int seed : new int[] {0, 1, 1 << 30, MOST}) {
            c.due("seed(" + seed + ")", x.seed(seed), true);
            c.due("has(11)", x.has(11), seed);
        }
        c.due("status(5)", x.status(5), 0);
    }

    private static void coins() {
        firstDay();
        presentRefused();
        presentHolds();
        presentFails();
        snubbedForGood();
        forgottenAndPresentedAgain();
        payRefused();
        paid();
    }

    private static void shops() {
        buyRefused();
        priceAndWhatIsGiven();
        priceBounds();
        changeThatIsNot();
        givenIsNoChange();
        fewestCoins();
        boughtAgainAndAgain();
    }

    private static void teas() {
        teaRefused();
        teaOfTwoToFour();
        teaOfNothing();
        nobodySnubsAtTea();
        teaByNumbers();
    }

    private static void days() {
        daysRefused();
        beyondDay999();
        forgets();
        callsRefused();
        belowVogue();
        presentedByCalls();
        drawsOfCoinsAndPeople();
        daysOfCalls();
        callsWithoutCoins();
        drawWrapsAround();
    }

    public static void main(String[] args) {
        coins();
        shops();
        teas();
        days();
        nothingToUndo();
        twentyActs();
        eachActUndone();
        fullestUndone();
        refusedIsNoAct();
        seeds();
        c.finish();
    }
}
