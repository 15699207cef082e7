/** LANGUAGE.md, rule 7: no call throws or fails to end, for any arguments in any state; and what is asked changes nothing. */
public final class AnyArgumentsTest {
    private static final Checks c = new Checks();
    private static final int[] ANY = {Integer.MIN_VALUE, Integer.MIN_VALUE + 1, -(1 << 30), -2, -1, 0, 1, 2, 9, 10, 11, 12, 20, 31, 32, 33,
        134, 135, 1 << 12, 1 << 30, Integer.MAX_VALUE - 1, Integer.MAX_VALUE};

    /** What is asked, with any arguments. */
    private static void askAny(CoinCircle x) {
        for (int a : ANY) {
            x.fault(a);
            x.has(a);
            x.letterIs(a);
            x.useless(a);
            x.octet(a);
            x.status(a);
            for (int b : ANY) {
                x.person(a, b);
                x.coin(a, b);
                x.met(a, b);
                x.may(a, b);
                x.spend(a, b);
                x.best(a, b);
                x.fair(a, b);
                x.later(a, b);
                for (int k : ANY) {
                    x.letter(a, b, k);
                    x.goods(a, b, k);
                    for (int what = -1; what < 4; what++) x.introduce(a, b, k, what);
                }
                x.comes(a, b, -1);
                x.comes(a, b, 19);
            }
        }
    }

    /** What changes an object, with any arguments. */
    private static void doAny(CoinCircle x) {
        for (int a : ANY) {
            for (int b : ANY) {
                x.feed(a, b, a, b, a);
                x.end(a);
                x.present(a, b);
                x.pay(b, a);
                for (int k : ANY) x.buy(a, b, k);
            }
            x.tea(a);
            x.days(a);
            x.calls(a);
            x.seed(a);
            x.undo();
            x.letters();
            x.feed(a, 0, 0, 0, 0);
            x.on();
            x.feed(a, 0, 0, 0, 0);
            x.society();
            x.image();
        }
    }

    private static CoinCircle full() {
        StringBuilder s = new StringBuilder(Checks.people(10) + Checks.goods(10));
        for (char k = 'a'; k <= 'l'; k++) s.append("coin c").append(k).append(" worth 99 of p").append(k > 'j' ? 'a' : k).append(";");
        return Checks.of(s + "fades 9;vogue 90;presents holds<3 and worth*rank/other%circle<day+9999*9999;price worth/(day-5)*9999*9999;");
    }

    private static CoinCircle atTheEnd() {
        CoinCircle x = full();
        Checks.passDays(x, 995);
        x.calls(4);
        return x;
    }

    public static void main(String[] args) {
        CoinCircle[] states = {new CoinCircle(), Checks.of(""), Checks.of(Checks.people(10)), Checks.of("person a rank 1;coin c worth 1 of a;"),
            full(), atTheEnd()};
        for (int k = 0; k < states.length; k++) {
            c.at("rule 7, state " + k);
            String before = Checks.state(states[k]);
            askAny(states[k]);
            c.same("what is asked", Checks.state(states[k]), before);
            doAny(states[k]);
            askAny(states[k]);
        }
        c.finish();
    }
}
