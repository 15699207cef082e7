/** The document's bounds all at once: ten PEOPLE, twelve COINS, ten GOODS, a full tape, DAY 999. */
public final class FullTest {
    private static final Checks c = new Checks();

    private static String letter(int k) { return "" + (char) ('a' + k); }

    /** PEOPLE pa .. pj of ranks 0 .. 9, GOODS ga .. gj worth 0 by pj. */
    private static String people() {
        StringBuilder s = new StringBuilder();
        for (int k = 0; k < 10; k++) s.append("person p").append(letter(k)).append(" rank ").append(k).append(";");
        for (int k = 0; k < 10; k++) s.append("goods g").append(letter(k)).append(" worth 0 by pj;");
        return s.toString();
    }

    private static String coins(int from, int to, int worth, String of) {
        StringBuilder s = new StringBuilder();
        for (int k = from; k < to; k++) s.append("coin c").append(letter(k)).append(" worth ").append(worth).append(" of ").append(of).append(";");
        return s.toString();
    }

    private static void ways() {
        c.at("promise 23");
        CoinCircle x = Checks.of(people() + coins(0, 11, 9, "pj") + "coin cl worth 1 of pa;presents other=rank+1;");
        c.due("comes(11, 9, NONE)", x.comes(11, 9, -1), 18);
        for (int k = 0; k < 18; k++) c.due("comes(11, 9, " + k + ")", x.comes(11, 9, k), k % 2 == 0 ? 11 + k / 2 : 1 + k / 2);
        c.due("comes(11, 9, 18)", x.comes(11, 9, 18), -1);
        c.due("comes(0, 0, NONE)", x.comes(0, 0, -1), -1);
        c.due("comes(11, 0, 0)", x.comes(11, 0, 0), -1);
        c.due("once more", x.comes(11, 9, 17), 9);
        CoinCircle z = Checks.of(people() + coins(0, 12, 1, "pa") + "presents circle=rank+1 and other=rank+1 or circle=9 and rank=2 and other=9;");
        c.due("comes(3, 9, NONE)", z.comes(3, 9, -1), 18);
        // once it knows nine, ph may pay pc or pi, and either presents it to pj: pc comes first
        c.due("comes(3, 9, 14)", z.comes(3, 9, 14), 18);
        c.due("comes(3, 9, 15)", z.comes(3, 9, 15), 2);
        c.due("comes(3, 9, 16)", z.comes(3, 9, 16), 19);
        c.due("comes(3, 9, 17)", z.comes(3, 9, 17), 9);
        CoinCircle w = Checks.of(people() + coins(0, 12, 1, "pa") + "snub cd pe;presents other=rank+1 or circle=4 and rank=0 and other=9;");
        c.due("comes(3, 9, NONE)", w.comes(3, 9, -1), 8);
        int[] way = {11, 1, 12, 2, 13, 0, 19, 9};
        for (int k = 0; k < 8; k++) c.due("comes(3, 9, " + k + ")", w.comes(3, 9, k), way[k]);
        c.due("comes(3, 4, NONE)", w.comes(3, 4, -1), -1);
    }

    private static void image() {
        c.at("promise 30");
        StringBuilder s = new StringBuilder(people() + coins(0, 11, 9, "pj") + "coin cl worth 5 of pi knows");
        for (int k = 0; k < 10; k++) if (k != 8) s.append(" p").append(letter(k));
        CoinCircle x = Checks.of(s + ";");
        x.days(7);
        c.due("image()", x.image(), 135);
        c.due("octet(123)", x.octet(123), 8);
        c.due("octet(133)", x.octet(133), 9);
        c.due("octet(135)", x.octet(135), -1);
        c.due("has(6)", x.has(6), 45);
        c.due("has(8)", x.has(8), 1);
        c.due("has(9)", x.has(9), 512);
        int[] bytes = new int[135];
        for (int k = 0; k < 135; k++) bytes[k] = x.octet(k);
        c.due("pay(11, 9)", x.pay(11, 9), true);
        c.due("met(11, 9)", x.met(11, 9), 7);
        c.due("undo()", x.undo(), true);
        c.due("met(11, 9)", x.met(11, 9), 0);
        c.due("coin(11, 1)", x.coin(11, 1), 8);
        x.days(20);
        x.present(10, 0);
        Checks.tape(x, bytes);
        c.due("on()", x.on(), true);
        c.due("has(5)", x.has(5), 7);
        c.due("met(11, 9)", x.met(11, 9), 0);
        c.due("coin(10, 2)", x.coin(10, 2), 512);
        x.image();
        for (int k = 0; k < 135; k++) c.due("octet(" + k + ")", x.octet(k), bytes[k]);
        c.at("promise 25");
        Checks.tape(x, 11, 9, 10, 9, 10, 8);
        c.due("letters()", x.letters(), 2);
        c.at("promise 4");
        Checks.tell(x, people() + coins(0, 12, 1, "pa"));
        c.due("met(11, 0)", x.met(11, 0), 0);
        c.due("a new SOCIETY has MET on DAY 0", x.has(5), 0);
    }

    private static void purses() {
        c.at("promise 22");
        CoinCircle x = Checks.of(people() + coins(0, 12, 8, "pa"));
        c.due("introduce(0, 9, 96, 0)", x.introduce(0, 9, 96, 0), 12);
        c.due("introduce(0, 9, 96, 1)", x.introduce(0, 9, 96, 1), 4095);
        c.due("introduce(0, 9, 97, 1)", x.introduce(0, 9, 97, 1), -1);
        c.at("promise 27");
        c.due("fair(0, 0)", x.fair(0, 0), 63);
        c.due("fair(0, 1)", x.fair(0, 1), 0);
        CoinCircle y = Checks.of(people() + coins(0, 11, 1, "pa") + "coin cl worth 11 of pa;");
        c.due("fair(0, 0)", y.fair(0, 0), 2047);
        c.at("promise 16");
        StringBuilder s = new StringBuilder(people() + "coin cl worth 99 of pa knows pj;");
        for (int k = 0; k < 11; k++) s.append("coin c").append(letter(k)).append(" worth 9 of pj knows pa;");
        CoinCircle z = Checks.of(s.toString());
        c.due("buy(0, 9, 1)", z.buy(0, 9, 1), 4094);
        c.due("person(0, 1)", z.person(0, 1), 4094);
        c.due("buy(0, 0, 4094)", z.buy(0, 0, 4094), 1);
        c.due("person(9, 1)", z.person(9, 1), 4094);
        c.at("promise 13");
        c.due("spend(9, 0)", z.spend(9, 0), 99);
    }

    private static void teas() {
        c.at("promise 24");
        CoinCircle x = Checks.of(people() + coins(0, 12, 99, "pj") + "presents other=5 or other>5 and circle>1;");
        c.due("best(4, 0)", x.best(4, 0), 512 + 128 + 64 + 32);
        c.due("best(4, 1)", x.best(4, 1), 36 * 99);
        c.due("best(2, 0)", x.best(2, 0), 512 + 32);
        // who would have to follow comes ahead, by number
        c.due("a new one", Checks.tell(x, people() + coins(0, 12, 99, "pj") + "presents other=8 or other>5 and circle>1;"), 33);
        c.due("best(4, 0)", x.best(4, 0), 512 + 256 + 2 + 1);
        c.due("best(4, 1)", x.best(4, 1), 12 * 99);
        CoinCircle y = Checks.of(people() + coins(0, 12, 99, "pa"));
        c.due("best(4, 0)", y.best(4, 0), 15);
        c.due("best(4, 1)", y.best(4, 1), 36 * 99);
        c.due("best(5, 0)", y.best(5, 0), -1);
        c.due("tea(961)", y.tea(961), -1);
        c.due("tea(897)", y.tea(897), 36);
    }

    private static void tape() {
        c.at("promise 4");
        CoinCircle x = new CoinCircle();
        String ones = "person a rank 1;goods g worth 1 by a;price 1";
        StringBuilder s = new StringBuilder(ones);
        while (s.length() < 1597) s.append("+1");
        int count = (s.length() - ones.length()) / 2 + 1;
        s.append(s.length() == 1598 ? " ;" : "  ;");
        c.due("length", s.length(), 1600);
        c.due("a full tape", Checks.tell(x, s.toString()), 3);
        c.due("so many ones", x.goods(0, 0, 2), count);
        c.due("nothing but signs", Checks.tell(x, Checks.many(";", 1600)), -1);
        c.due("fault(1)", x.fault(1), 0);
        String open = "presents 1" + Checks.many("+1", 795);
        c.due("it ends too soon", Checks.tell(x, open), -1);
        c.due("fault(0)", x.fault(0), 1);
        c.due("fault(1)", x.fault(1), 1600);
        c.due("nothing but blanks", Checks.tell(x, Checks.many(" ", 1600)), 0);
        c.due("a long word", Checks.tell(x, Checks.many("z", 1600)), -1);
        c.due("fault(1)", x.fault(1), 6);
        c.due("a long number", Checks.tell(x, "fades " + Checks.many("9", 1594)), -1);
        c.due("fault(1)", x.fault(1), 10);
        c.due("a byte 0", Checks.tell(x, "\0"), -1);
        c.due("a byte 255", Checks.tell(x, "fades 1;\u00ff"), -1);
        c.due("fault(1)", x.fault(1), 8);
        c.due("seven deep, all that can wait waits", Checks.tell(x, "presents all or all and not [all or all and 1+1*((1+1*(1+1*min(1+1*1,1+1*max(1+1*1,1+1*2)))))=2];"), 1);
    }

    private static void lastDay() {
        c.at("DAY 999");
        CoinCircle x = Checks.of("fades 59;" + people() + "coin c worth 1 of pa knows pb;vogue 0;");
        for (int k = 0; k < 94; k++) x.days(10);
        c.due("present(0, 2)", x.present(0, 2), 1);
        c.due("useless(0)", x.useless(0), 999);
        c.due("later(0, 58)", x.later(0, 58), 5);
        c.due("later(0, 59)", x.later(0, 59), 1);
        c.due("later(0, 60)", x.later(0, 60), -1);
        x.days(9);
        c.due("calls(50)", x.calls(50), 0);
        c.due("has(5)", x.has(5), 999);
        c.due("useless(0)", x.useless(0), 999);
        c.due("later(0, 0)", x.later(0, 0), 1);
        c.due("later(0, 1)", x.later(0, 1), -1);
        c.due("days(1)", x.days(1), -1);
        c.due("image()", x.image(), 14);
        c.due("octet(0)", x.octet(0), 3);
        c.due("octet(1)", x.octet(1), 231);
        c.due("octet(3)", x.octet(3), 202);
    }

    public static void main(String[] args) {
        ways();
        image();
        purses();
        teas();
        tape();
        lastDay();
        c.finish();
    }
}
