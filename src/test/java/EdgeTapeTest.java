/** The edges of the tape, of LETTERS, of images and of refusals: a method for each sentence of promises 1 to 3, 25, 26 and 30 to 33. */
public final class EdgeTapeTest {
    private static final Checks c = new Checks();
    private static final String TOWN = "person a rank 1;person b rank 2;person d rank 3;coin p worth 10 of a knows b;coin q worth 5 of d;"
        + "snub p d;fades 50;";
    private static final int MOST = Integer.MAX_VALUE;
    private static final int LEAST = Integer.MIN_VALUE;

    private static int bit(boolean b) { return b ? 1 : 0; }

    // ---- a new object

    /** Promise 1: "No PEOPLE, no COINS; the seed is 1", and nothing refused, told, written. */
    private static void newObject() {
        c.at("promise 1");
        CoinCircle x = new CoinCircle();
        for (int k = 0; k < 11; k++) c.due("has(" + k + ")", x.has(k), 0);
        c.due("has(11)", x.has(11), 1);
        for (int k = 0; k < 6; k++) c.due("status(" + k + ")", x.status(k), 0);
        c.due("octet(0)", x.octet(0), -1);
        c.due("letterIs(0)", x.letterIs(0), -1);
        c.due("letter(0, 0, 0)", x.letter(0, 0, 0), -1);
        c.due("end(0)", x.end(0), true);
        c.due("end(1): an empty tape", x.end(1), false);
        c.due("days(1)", x.days(1), 0);
        c.due("another one is new all the same", new CoinCircle().has(5), 0);
        c.at("the constant");
        c.due("NONE", CoinCircle.NONE, -1);
    }

    /** "An object is used for at most 512 calls after it has been made": the last one answers as the first one does. */
    private static void manyCalls() {
        c.at("512 calls");
        CoinCircle x = new CoinCircle();
        for (int k = 1; k < 512; k++) x.has(0);
        c.due("the 512th", x.feed(0, 0, 0, 0, 0), 20);
    }

    // ---- the tape

    private static CoinCircle fed(int times) {
        CoinCircle x = new CoinCircle();
        for (int k = 0; k < times; k++) x.feed(0x20202020, 0x20202020, 0x20202020, 0x20202020, 0x20202020);
        return x;
    }

    /** Promise 2: "how many there are; NONE, refused (0), if there would be more than 1600". */
    private static void fullTape() {
        c.at("promise 2, 1600 bytes");
        c.due("the first", new CoinCircle().feed(0, 0, 0, 0, 0), 20);
        CoinCircle x = fed(79);
        c.due("the 80th", x.feed(0, 0, 0, 0, 0), 1600);
        c.refused("the 81st", x, 0, -1, y -> y.feed(1, 1, 1, 1, 1));
        c.due("the tape stays", x.end(1600), true);
        CoinCircle y = fed(80);
        c.due("end(1581)", y.end(1581), true);
        c.refused("1601", y, 0, -1, z -> z.feed(1, 1, 1, 1, 1));
        c.due("end(1580)", y.end(1580), true);
        c.due("1600", y.feed(0x20202020, 0x20202020, 0x20202020, 0x20202020, 0x20202020), 1600);
        c.due("a full tape of blanks", y.society(), 0);
        c.due("an empty one", y.feed(0, 0, 0, 0, 0), 20);
    }

    /** Promise 2: "Twenty bytes come behind those on the tape, of each number the highest first": bytes 128 and on, too. */
    private static void bytesOfNumbers() {
        c.at("promise 2, the highest byte first");
        CoinCircle x = new CoinCircle();
        x.end(0);
        // "fades 9;person a ran", then "k 7;" behind it
        c.due("feed", x.feed(0x66616465, 0x7320393b, 0x70657273, 0x6f6e2061, 0x2072616e), 20);
        c.due("feed", x.feed(0x6b20373b, 0x0a0a2020, 0x200a200a, 0x20202020, 0x0a0a0a0a), 40);
        c.due("society()", x.society(), 2);
        c.due("has(3)", x.has(3), 9);
        c.due("person(0, 0)", x.person(0, 0), 7);
        int[][] bytes = {{0xff203b3b, 0}, {0x20ff3b3b, 1}, {0x2020803b, 2}, {0x202020ff, 3}};
        for (int[] b : bytes) {
            CoinCircle y = new CoinCircle();
            y.feed(b[0], 0, 0, 0, 0);
            c.due("society()", y.society(), -1);
            c.due("fault(1)", y.fault(1), b[1]);
        }
    }

    /** Promise 3: "false, refused (0), if it has not so many, or n is below 0". */
    private static void endRefused() {
        c.at("promise 3, refused");
        for (int n : new int[] {-1, 41, 42, 1600, 1601, MOST, LEAST}) {
            CoinCircle x = fed(2);
            c.refused("end(" + n + ")", x, 0, 0, y -> bit(y.end(n)));
            c.due("the tape stays", x.feed(0, 0, 0, 0, 0), 60);
        }
        for (int n : new int[] {-1, 1, 20}) c.refused("end(" + n + "), an empty tape", new CoinCircle(), 0, 0, y -> bit(y.end(n)));
        c.refused("end(1601), a full one", fed(80), 0, 0, y -> bit(y.end(1601)));
    }

    /** Promise 3: "The tape has its first n bytes alone: true": all, fewer, none. */
    private static void ends() {
        c.at("promise 3, the first n bytes");
        CoinCircle x = fed(2);
        c.due("end(40): all", x.end(40), true);
        c.due("end(39)", x.end(39), true);
        c.due("end(40)", x.end(40), false);
        c.due("feed behind 39", x.feed(0, 0, 0, 0, 0), 59);
        c.due("end(0): none", x.end(0), true);
        c.due("end(0): none of none", x.end(0), true);
        c.due("feed", x.feed(0x66616465, 0x7320313b, 0x66616465, 0x7320323b, 0x23232323), 20);
        c.due("end(8)", x.end(8), true);
        c.due("society()", x.society(), 1);
        c.due("has(3)", x.has(3), 1);
    }

    /** Promise 3: "The tape has its first n bytes alone": a word, a number that goes on behind them is cut. */
    private static void cutWords() {
        c.at("promise 3, its first n bytes alone");
        String[] texts = {"person a rank 1 abcdefg", "fades 1 23456", "persons", "persona rank 1;", "fades 123456"};
        int[] lengths = {22, 12, 5, 6, 8};
        int[][] faults = {{1, 16}, {1, 8}, {1, 0}, {1, 6}, {1, 8}};
        for (int k = 0; k < texts.length; k++) {
            CoinCircle x = new CoinCircle();
            Checks.tape(x, texts[k]);
            c.due("end(" + lengths[k] + ") of '" + texts[k] + "'", x.end(lengths[k]), true);
            c.due("society()", x.society(), -1);
            c.due("fault(0)", x.fault(0), faults[k][0]);
            c.due("fault(1)", x.fault(1), faults[k][1]);
        }
        // as full as it can be, and what stood there ahead of that
        CoinCircle full = new CoinCircle();
        Checks.tape(full, Checks.many("z", 1600));
        full.end(1594);
        full.end(0);
        Checks.tape(full, Checks.many(" ", 1594) + "zzzzzz");
        c.due("society()", full.society(), -1);
        c.due("fault(1)", full.fault(1), 1594);
    }

    // ---- letters

    /** The tape has these bytes alone, all else is as told in TOWN. */
    private static CoinCircle taped(int... bytes) {
        CoinCircle x = Checks.of(TOWN);
        x.days(2);
        Checks.tape(x, bytes);
        return x;
    }

    private static void noLetters(String what, int... bytes) {
        CoinCircle x = taped(bytes);
        c.refused("letters() of " + what, x, 5, -1, y -> y.letters());
        c.due("the tape goes, refused", x.end(1), false);
    }

    /** Promise 25: "NONE, refused (5), when it is none such": no rows, half a row, too many, a COIN or a PERSON that is not there. */
    private static void lettersRefused() {
        c.at("promise 25, refused");
        noLetters("nothing");
        noLetters("half a row", 0);
        noLetters("a row and a half", 0, 0, 0);
        noLetters("20 rows and a half", new int[41]);
        noLetters("21 rows", new int[42]);
        noLetters("800 rows", new int[1600]);
        noLetters("a COIN behind the last one", 2, 0);
        noLetters("COIN 255", 255, 0);
        noLetters("a PERSON behind the last one", 0, 3);
        noLetters("PERSON 128", 0, 128);
        noLetters("the last row is none", 0, 0, 1, 1, 0, 255);
        CoinCircle x = new CoinCircle();
        Checks.tape(x, 0, 0);
        c.refused("without COINS", x, 5, -1, y -> y.letters());
    }

    /** Promise 25: "1 to 20 rows of two bytes: how many are FALSE"; "The tape (it goes, refused or not)". */
    private static void oneToTwentyLetters() {
        c.at("promise 25, 1 to 20 rows");
        CoinCircle x = taped(0, 1);
        c.due("one, FALSE", x.letters(), 1);
        c.due("the tape goes", x.end(1), false);
        Checks.tape(x, 1, 1);
        c.due("one, true", x.letters(), 0);
        Checks.tape(x, new int[40]);
        c.due("twenty", x.letters(), 20);
        c.due("the last one", x.letterIs(19), 1);
        c.due("behind the last one", x.letterIs(20), -1);
        c.due("the tape goes", x.end(1), false);
        c.due("none is refused", x.status(5), 0);
        // the last COIN, the last PERSON
        Checks.tape(x, 1, 2);
        c.due("who holds it", x.letters(), 1);
    }

    /** Terms III, FALSE: "if the COIN KNOWS him already, is snubbed by him, or would be, were it PRESENTED now"; promise 26: 0 .. 3. */
    private static void eachVerdict() {
        c.at("promise 26, 0 .. 3");
        CoinCircle x = Checks.of(TOWN + "presents other<2;");
        Checks.tape(x, 1, 0, 1, 2, 0, 2, 1, 1);
        c.due("three FALSE ones", x.letters(), 3);
        for (int k = 0; k < 4; k++) c.due("letterIs(" + k + ")", x.letterIs(k), k);
        c.due("nobody snubs it for that", x.coin(1, 3), 0);
        for (int k : new int[] {-1, 4, 19, 20, 21, MOST, LEAST}) c.asked("letterIs(" + k + ")", x, -1, y -> y.letterIs(k));
    }

    /** Promise 25: "were it PRESENTED now": behind ACTS, as all is now. */
    private static void lettersNow() {
        c.at("promise 25, now");
        CoinCircle x = Checks.of(TOWN + "presents day=2 and rank=2;");
        Checks.tape(x, 1, 0, 0, 2, 0, 1, 1, 1);
        c.due("on DAY 0", x.letters(), 4);
        x.pay(0, 1);
        x.days(1);
        x.present(1, 0);
        x.days(1);
        Checks.tape(x, 1, 0, 0, 2, 0, 0, 1, 1);
        c.due("on DAY 2", x.letters(), 4);
        int[] want = {2, 2, 1, 3};
        for (int k = 0; k < 4; k++) c.due("letterIs(" + k + ")", x.letterIs(k), want[k]);
        CoinCircle y = Checks.of("person a rank 1;person b rank 2;person d rank 3;coin p worth 10 of a knows b;presents day=2 and rank=2;");
        y.pay(0, 1);
        y.days(2);
        Checks.tape(y, 0, 2);
        c.due("b holds it, on DAY 2", y.letters(), 0);
        c.due("letterIs(0)", y.letterIs(0), 0);
    }

    /** Promise 26: "of the latest letters() of this SOCIETY that was not refused", "(as it was then)". */
    private static void latestLetters() {
        c.at("promise 26, the latest letters()");
        CoinCircle x = taped(1, 0, 1, 1, 0, 0);
        c.due("letters()", x.letters(), 1);
        x.present(1, 0);
        c.due("as it was then", x.letterIs(0), 0);
        x.undo();
        x.days(1);
        c.due("letters(): refused", x.letters(), -1);
        c.due("that was not refused", x.letterIs(2), 1);
        Checks.tell(x, "#");
        c.due("no SOCIETY, refused", x.letterIs(2), 1);
        x.image();
        int[] bytes = new int[11];
        for (int k = 0; k < 11; k++) bytes[k] = x.octet(k);
        Checks.tape(x, bytes);
        c.due("on()", x.on(), true);
        c.due("AN IMAGE of this SOCIETY", x.letterIs(2), 1);
        Checks.tape(x, 0, 2);
        c.due("fewer ones", x.letters(), 1);
        c.due("letterIs(0)", x.letterIs(0), 2);
        c.due("none of the former ones", x.letterIs(1), -1);
        Checks.tell(x, TOWN);
        c.due("another SOCIETY", x.letterIs(0), -1);
        c.due("of like text", x.letters(), -1);
        c.due("refused", x.letterIs(0), -1);
    }

    // ---- images

    private static void written(CoinCircle x, int... want) {
        c.due("image()", x.image(), want.length);
        for (int k = 0; k < want.length; k++) c.due("octet(" + k + ")", x.octet(k), want[k]);
        c.due("behind the last one", x.octet(want.length), -1);
    }

    /** Promise 30, terms III, "AN IMAGE: DAY (two bytes, the higher first)": 0, 255, 256, 999. */
    private static void imageOfDays() {
        c.at("promise 30, the DAY");
        CoinCircle x = new CoinCircle();
        // 5 * 103 mod 251 is 13, 5 * 13 is 65
        written(x, 0, 0, 65);
        Checks.passDays(x, 255);
        // (65 + 255) mod 251
        written(x, 0, 255, 69);
        x.days(1);
        // 5 * (13 + 1) = 70
        written(x, 1, 0, 70);
        Checks.passDays(x, 743);
        // 5 * (13 + 3) + 231 = 311, mod 251
        written(x, 3, 231, 60);
    }

    /** Terms III, AN IMAGE: "0 if it does not KNOW him, 1 if he snubs it, else 2 and how many DAYS ago .., 200 at most (.. likewise)". */
    private static void imageOfCoins() {
        c.at("terms III, AN IMAGE");
        CoinCircle x = Checks.of(TOWN.replace("fades 50", "fades 0"));
        written(x, Checks.withCheck(0, 0, 0, 2, 2, 1, 2, 0, 0, 2));
        Checks.passDays(x, 199);
        written(x, Checks.withCheck(0, 199, 0, 201, 201, 1, 2, 0, 0, 201));
        x.pay(0, 1);
        x.days(1);
        written(x, Checks.withCheck(0, 200, 1, 3, 3, 1, 2, 0, 0, 202));
        x.days(1);
        written(x, Checks.withCheck(0, 201, 1, 4, 4, 1, 2, 0, 0, 202));
        Checks.passDays(x, 798);
        written(x, Checks.withCheck(3, 231, 1, 202, 202, 1, 2, 0, 0, 202));
    }

    /** Promise 30: "how many bytes": of nothing, of PEOPLE alone, of the most. */
    private static void imageLengths() {
        c.at("promise 30, how many bytes");
        c.due("a new one", new CoinCircle().image(), 3);
        c.due("PEOPLE alone", Checks.of(Checks.people(10)).image(), 3);
        c.due("one each", Checks.of(Checks.people(1) + Checks.coins(1)).image(), 5);
        CoinCircle x = Checks.of(Checks.people(10) + Checks.coins(12));
        c.due("the most", x.image(), 135);
        c.due("the last COIN, who holds it", x.octet(123), 0);
        c.due("the last COIN, the first PERSON", x.octet(124), 2);
        c.due("the last COIN, the last PERSON", x.octet(133), 0);
        c.due("behind the last one", x.octet(135), -1);
    }

    /** Promise 31: "Byte k of the latest image(); NONE when there is none such". */
    private static void octets() {
        c.at("promise 31");
        for (int k : new int[] {-1, 0, 1, 3, MOST, LEAST}) c.asked("octet(" + k + "), ahead of any", new CoinCircle(), -1, x -> x.octet(k));
        CoinCircle x = Checks.of(TOWN);
        c.due("image()", x.image(), 11);
        c.due("the last one", x.octet(10) >= 0, true);
        for (int k : new int[] {-1, 11, 12, 134, 135, MOST, LEAST}) c.asked("octet(" + k + ")", x, -1, y -> y.octet(k));
        x.days(9);
        c.due("of the latest one", x.octet(1), 0);
        x.image();
        c.due("of the latest one", x.octet(1), 9);
        Checks.tell(x, "");
        x.image();
        c.due("of the latest one, which is shorter", x.octet(3), -1);
    }

    private static void noImage(String what, int... bytes) {
        CoinCircle x = taped(bytes);
        c.refused("on(): " + what, x, 5, 0, y -> bit(y.on()));
        c.due("the tape goes, refused", x.end(1), false);
        c.due("the ACT stays", x.undo(), true);
    }

    /** AN IMAGE of TOWN on such a DAY, with such rows. */
    private static int[] bytes(int day, int... rows) {
        int[] all = new int[2 + rows.length];
        all[0] = day >> 8;
        all[1] = day & 255;
        System.arraycopy(rows, 0, all, 2, rows.length);
        return Checks.withCheck(all);
    }

    /** Promise 32: "false, refused (5), all staying, if it is none such": its length, its last byte. */
    private static void onRefused() {
        c.at("promise 32, none such");
        int[] good = bytes(9, 0, 2, 2, 1, 2, 0, 0, 2);
        noImage("nothing");
        noImage("one byte", 0);
        noImage("a byte too few", java.util.Arrays.copyOf(good, good.length - 1));
        noImage("a byte too many", java.util.Arrays.copyOf(good, good.length + 1));
        noImage("a row too few", bytes(9, 0, 2, 2, 1));
        noImage("a row too many", bytes(9, 0, 2, 2, 1, 2, 0, 0, 2, 2, 0, 0, 2));
        noImage("another SOCIETY's", bytes(9));
        for (int k : new int[] {1, 250, 251, 255}) {
            int[] bad = good.clone();
            bad[good.length - 1] = (bad[good.length - 1] + k) % 256;
            noImage("the last byte", bad);
        }
        // 251 more is the same mod 251, and is no last byte
        int day = 0;
        while (bytes(day, 0, 2, 2, 1, 2, 0, 0, 2)[10] > 4) day++;
        int[] more = bytes(day, 0, 2, 2, 1, 2, 0, 0, 2);
        more[10] += 251;
        noImage("the last byte, 251 more", more);
    }

    /** Promise 32: "DAY 999 at most". */
    private static void onOfDays() {
        c.at("promise 32, DAY 999 at most");
        for (int day : new int[] {0, 1, 255, 256, 998, 999}) {
            CoinCircle x = taped(bytes(day, 0, 2, 2, 1, 2, 0, 0, 2));
            c.due("on(), DAY " + day, x.on(), true);
            c.due("has(5)", x.has(5), day);
            c.due("met(0, 0)", x.met(0, 0), day);
        }
        for (int day : new int[] {1000, 1001, 1023, 1024, 65535}) noImage("DAY " + day, bytes(day, 0, 2, 2, 1, 2, 0, 0, 2));
    }

    /** Promise 32: "PEOPLE that there are hold COINS, are KNOWN by these". */
    private static void onOfHolders() {
        c.at("promise 32, who holds a COIN");
        CoinCircle x = taped(bytes(9, 2, 2, 2, 2, 0, 2, 0, 1));
        c.due("on()", x.on(), true);
        c.due("the last PERSON", x.coin(0, 1), 2);
        c.due("the first PERSON", x.coin(1, 1), 0);
        for (int holder : new int[] {3, 4, 10, 127, 128, 255}) {
            noImage("PERSON " + holder + " holds it", bytes(9, holder, 2, 2, 2, 0, 2, 0, 1));
            noImage("PERSON " + holder + " holds it", bytes(9, 2, 2, 2, 2, holder, 2, 2, 2));
        }
        noImage("it does not KNOW him", bytes(9, 0, 0, 2, 2, 2, 0, 0, 2));
        noImage("he SNUBS it", bytes(9, 0, 1, 2, 2, 2, 0, 0, 2));
        noImage("it does not KNOW him", bytes(9, 0, 2, 2, 2, 2, 2, 2, 0));
        noImage("he SNUBS it", bytes(9, 0, 2, 2, 2, 2, 2, 2, 1));
    }

    /** Promise 32: "none MET more DAYS ago than 200, or than the DAY": who holds it likewise. */
    private static void onOfMet() {
        c.at("promise 32, MET so many DAYS ago");
        int[][] days = {{0, 0}, {1, 1}, {5, 5}, {199, 199}, {200, 200}, {201, 200}, {999, 200}};
        for (int[] d : days) {
            int most = 2 + d[1];
            CoinCircle x = taped(bytes(d[0], 0, most, 2, 1, 2, 0, most, most));
            c.due("on(), DAY " + d[0], x.on(), true);
            c.due("met(0, 0)", x.met(0, 0), d[0] - d[1]);
            c.due("met(1, 1)", x.met(1, 1), d[0] - d[1]);
            c.due("met(0, 1)", x.met(0, 1), d[0]);
            noImage("who holds it, DAY " + d[0], bytes(d[0], 0, most + 1, 2, 1, 2, 0, most, most));
            noImage("the last one, DAY " + d[0], bytes(d[0], 0, most, 2, 1, 2, 0, most, most + 1));
            noImage("255, DAY " + d[0], bytes(d[0], 0, most, 255, 1, 2, 0, most, most));
        }
        // 0 and 1 tell of no DAY: they stand on DAY 0
        c.due("on()", taped(bytes(0, 0, 2, 0, 1, 2, 1, 0, 2)).on(), true);
    }

    /** Promise 32: "true, all is as it tells .., no ACT can be undone"; "The tape (it goes, refused or not)". */
    private static void onTakesAll() {
        c.at("promise 32, all is as it tells");
        CoinCircle x = taped(bytes(300, 1, 102, 52, 0, 1, 1, 7, 202));
        x.seed(8);
        c.due("on()", x.on(), true);
        c.due("the tape goes", x.end(1), false);
        c.due("has(5)", x.has(5), 300);
        c.due("coin(0, 1)", x.coin(0, 1), 1);
        c.due("coin(0, 2)", x.coin(0, 2), 3);
        c.due("coin(0, 3): he snubbed it", x.coin(0, 3), 0);
        c.due("coin(1, 1)", x.coin(1, 1), 1);
        c.due("coin(1, 2)", x.coin(1, 2), 6);
        c.due("coin(1, 3)", x.coin(1, 3), 1);
        c.due("met(0, 0)", x.met(0, 0), 200);
        c.due("met(0, 1)", x.met(0, 1), 250);
        c.due("met(1, 1)", x.met(1, 1), 295);
        c.due("met(1, 2)", x.met(1, 2), 100);
        c.due("the seed stays", x.has(11), 8);
        c.due("none is refused", x.status(5), 0);
        c.refused("no ACT can be undone", x, 4, 0, y -> bit(y.undo()));
        c.due("what is told of old is forgotten on the next DAY", x.days(1), 2);
        // p KNOWS b and is snubbed by d, as told; q KNOWS nobody else
        CoinCircle w = taped(bytes(9, 0, 2, 0, 0, 2, 1, 1, 2));
        c.due("on()", w.on(), true);
        c.due("coin(0, 2): b is known no more", w.coin(0, 2), 1);
        c.due("met(0, 1)", w.met(0, 1), -1);
        c.due("coin(0, 3): d snubs it no more", w.coin(0, 3), 0);
        c.due("coin(1, 3): two snub it", w.coin(1, 3), 3);
        c.due("has(7)", w.has(7), 2);
        CoinCircle y = Checks.of(Checks.people(10) + Checks.coins(12));
        y.days(100);
        for (int k = 0; k < 12; k++) y.present(k, 9);
        c.due("image()", y.image(), 135);
        int[] most = new int[135];
        for (int k = 0; k < 135; k++) most[k] = y.octet(k);
        y.undo();
        Checks.tape(y, most);
        c.due("the most", y.on(), true);
        c.due("coin(11, 2)", y.coin(11, 2), 513);
        c.due("met(11, 9)", y.met(11, 9), 100);
        c.due("met(10, 9)", y.met(10, 9), 100);
        c.due("met(11, 0)", y.met(11, 0), 0);
        CoinCircle z = new CoinCircle();
        Checks.tape(z, Checks.withCheck(3, 231));
        c.due("the least", z.on(), true);
        c.due("has(5)", z.has(5), 999);
    }

    // ---- status

    /** Promise 33: each call that can be refused is counted in its own row, once; "NONE for others". */
    private static void status() {
        c.at("promise 33");
        Checks.Call[][] calls = {
            {x -> bit(x.end(-1)), x -> bit(x.end(41))},
            {x -> Checks.tell(x, "#")},
            {x -> x.present(0, 0), x -> bit(x.pay(0, 0))},
            {x -> x.buy(0, 0, 0), x -> x.tea(1)},
            {x -> x.days(0), x -> x.calls(0), x -> bit(x.undo())},
            {x -> bit(x.seed(-1)), x -> x.letters(), x -> bit(x.on())}};
        for (int row = 0; row < 6; row++) {
            CoinCircle x = Checks.of(TOWN);
            int count = 0;
            for (int n = 0; n < 3; n++) {
                for (Checks.Call call : calls[row]) {
                    call.on(x);
                    count++;
                    for (int k = 0; k < 6; k++) c.due("status(" + k + ") of row " + row, x.status(k), k == row ? count : 0);
                }
            }
            Checks.tell(x, TOWN);
            c.due("it stays with another SOCIETY", x.status(row), count);
        }
        for (int what : new int[] {-1, 6, 7, MOST, LEAST}) c.asked("status(" + what + ")", Checks.of(TOWN), -1, x -> x.status(what));
    }

    public static void main(String[] args) {
        newObject();
        manyCalls();
        fullTape();
        bytesOfNumbers();
        endRefused();
        ends();
        cutWords();
        lettersRefused();
        oneToTwentyLetters();
        eachVerdict();
        lettersNow();
        latestLetters();
        imageOfDays();
        imageOfCoins();
        imageLengths();
        octets();
        onRefused();
        onOfDays();
        onOfHolders();
        onOfMet();
        onTakesAll();
        status();
        c.finish();
    }
}
