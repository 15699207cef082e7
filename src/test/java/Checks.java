/** Counts the answers that are not the ones that are due, and tells a tape to a CoinCircle. */
final class Checks {
    /** A call of the face; a boolean counts 1 or 0. */
    interface Call { int on(CoinCircle x); }

    private int wrong;
    private int all;
    private String where = "";

    void at(String promise) { where = promise; }

    void due(String call, int got, int want) {
        all++;
        if (got != want) {
            wrong++;
            System.out.println(where + ": " + call + " answered " + got + ", due is " + want);
        }
    }

    void due(String call, boolean got, boolean want) { due(call, got ? 1 : 0, want ? 1 : 0); }

    void same(String call, String got, String want) {
        all++;
        if (!got.equals(want)) {
            wrong++;
            System.out.println(where + ": behind " + call + " stands " + got + ", due is " + want);
        }
    }

    void finish() {
        System.out.println(all + " answers, " + wrong + " not as due");
        if (wrong != 0) System.exit(1);
    }

    /** The text is a SOCIETY of so many STATEMENTS. */
    void fine(String text, int statements) {
        CoinCircle x = new CoinCircle();
        due("society of '" + text + "'", tell(x, text), statements);
        due("fault(0) of '" + text + "'", x.fault(0), 0);
        due("fault(1) of '" + text + "'", x.fault(1), -1);
    }

    /** The text is none, with this FAULT at this place. */
    void fault(String text, int kind, int place) {
        CoinCircle x = new CoinCircle();
        due("society of '" + text + "'", tell(x, text), -1);
        due("fault(0) of '" + text + "'", x.fault(0), kind);
        due("fault(1) of '" + text + "'", x.fault(1), place);
        due("status(1)", x.status(1), 1);
    }

    /** The call is refused: so it answers, its row of status counts one more, and all else stays. */
    void refused(String what, CoinCircle x, int row, int want, Call call) {
        String before = state(x);
        int[] counts = new int[6];
        for (int k = 0; k < 6; k++) counts[k] = x.status(k) + (k == row ? 1 : 0);
        due(what, call.on(x), want);
        for (int k = 0; k < 6; k++) due(what + ", then status(" + k + ")", x.status(k), counts[k]);
        same(what, state(x), before);
    }

    /** The call changes nothing, and nothing is refused. */
    void asked(String what, CoinCircle x, int want, Call call) {
        String before = state(x);
        int refused = 0;
        for (int k = 0; k < 6; k++) refused += x.status(k);
        due(what, call.on(x), want);
        for (int k = 0; k < 6; k++) refused -= x.status(k);
        due(what + ", refused", refused, 0);
        same(what, state(x), before);
    }

    /** What an object holds, as far as it can be asked, but for how many were refused. */
    static String state(CoinCircle x) {
        StringBuilder s = new StringBuilder();
        for (int k = 0; k < 12; k++) s.append(x.has(k)).append(' ');
        int people = x.has(0);
        int coins = x.has(1);
        for (int c = 0; c < coins; c++) {
            s.append("| ").append(x.coin(c, 1)).append(' ').append(x.coin(c, 2)).append(' ').append(x.coin(c, 3)).append(' ');
            for (int p = 0; p < people; p++) s.append(x.met(c, p)).append(' ');
        }
        for (int k = 0; k < 30 && x.letterIs(k) >= 0; k++) s.append(k == 0 ? "letters " : "").append(x.letterIs(k)).append(' ');
        for (int k = 0; k < 150 && x.octet(k) >= 0; k++) s.append(k == 0 ? "image " : "").append(x.octet(k)).append(' ');
        return s.toString();
    }

    /** Puts these bytes, and no others, on the tape. */
    static void tape(CoinCircle x, int... bytes) {
        x.end(0);
        for (int k = 0; k < bytes.length; k += 20) {
            int[] v = new int[5];
            for (int i = 0; i < 20; i++) v[i / 4] = v[i / 4] << 8 | (k + i < bytes.length ? bytes[k + i] & 255 : 0);
            x.feed(v[0], v[1], v[2], v[3], v[4]);
        }
        x.end(bytes.length);
    }

    static void tape(CoinCircle x, String text) {
        int[] bytes = new int[text.length()];
        for (int k = 0; k < bytes.length; k++) bytes[k] = text.charAt(k);
        tape(x, bytes);
    }

    static int tell(CoinCircle x, String text) {
        tape(x, text);
        return x.society();
    }

    /** A new object with this SOCIETY. */
    static CoinCircle of(String text) {
        CoinCircle x = new CoinCircle();
        if (tell(x, text) < 0) {
            System.out.println("no SOCIETY: " + x.fault(0) + " at " + x.fault(1) + ": " + text);
            System.exit(1);
        }
        return x;
    }

    static String many(String text, int times) {
        StringBuilder s = new StringBuilder();
        for (int k = 0; k < times; k++) s.append(text);
        return s.toString();
    }

    private static String rows(String head, int count, String tail) {
        StringBuilder s = new StringBuilder();
        for (int k = 0; k < count; k++) s.append(head).append((char) ('a' + k)).append(tail);
        return s.toString();
    }

    /** So many PEOPLE: pa, pb, .. of rank 1. */
    static String people(int count) { return rows("person p", count, " rank 1;"); }

    /** So many COINS: ca, cb, .. worth 1 of pa. */
    static String coins(int count) { return rows("coin c", count, " worth 1 of pa;"); }

    /** So many GOODS: ga, gb, .. worth 1 by pa. */
    static String goods(int count) { return rows("goods g", count, " worth 1 by pa;"); }

    /** n DAYS go by, be they more than one ACT may have; the ACTS can be undone. */
    static void passDays(CoinCircle x, int n) {
        for (int left = n; left > 0; left -= 100) x.days(Math.min(100, left));
    }

    /** The bytes with the last one of AN IMAGE behind them. */
    static int[] withCheck(int... bytes) {
        int[] all = java.util.Arrays.copyOf(bytes, bytes.length + 1);
        int sum = 103;
        for (int b : bytes) sum = (5 * sum + b) % 251;
        all[bytes.length] = sum;
        return all;
    }
}
