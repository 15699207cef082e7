/** Counts the answers that are not the ones that are due, and tells a tape to a CoinCircle. */
final class Checks {
    private int wrong;
    private int all;
    private String where = "";

    void at(String promise) { where = promise; }

    void due(String call, int got, int want) {
        all++;
        if (got != want) {
            wrong++;
            System.out.println(where + ": " + call + " answered " + got + ", due is " + want);
        }
    }

    void due(String call, boolean got, boolean want) { due(call, got ? 1 : 0, want ? 1 : 0); }

    void finish() {
        System.out.println(all + " answers, " + wrong + " not as due");
        if (wrong != 0) System.exit(1);
    }

    /** Puts these bytes, and no others, on the tape. */
    static void tape(CoinCircle x, int... bytes) {
        x.end(0);
        for (int k = 0; k < bytes.length; k += 20) {
            int[] v = new int[5];
            for (int i = 0; i < 20; i++) v[i / 4] = v[i / 4] << 8 | (k + i < bytes.length ? bytes[k + i] & 255 : 0);
            x.feed(v[0], v[1], v[2], v[3], v[4]);
        }
        x.end(bytes.length);
    }

    static void tape(CoinCircle x, String text) {
        int[] bytes = new int[text.length()];
        for (int k = 0; k < bytes.length; k++) bytes[k] = text.charAt(k);
        tape(x, bytes);
    }

    static int tell(CoinCircle x, String text) {
        tape(x, text);
        return x.society();
    }

    /** A new object with this SOCIETY. */
    static CoinCircle of(String text) {
        CoinCircle x = new CoinCircle();
        if (tell(x, text) < 0) {
            System.out.println("no SOCIETY: " + x.fault(0) + " at " + x.fault(1) + ": " + text);
            System.exit(1);
        }
        return x;
    }

    static String many(String text, int times) {
        StringBuilder s = new StringBuilder();
        for (int k = 0; k < times; k++) s.append(text);
        return s.toString();
    }
}
