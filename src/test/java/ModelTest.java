import java.util.ArrayList;
import java.util.List;

/** Long runs of calls, drawn by a fixed rule, on CoinCircle and on Model: every answer must be the same. */
public final class ModelTest {
    private static final int RUNS = 2000;
    private static final int CALLS = 280;

    private long x;
    private CoinCircle real;
    private Model model;
    private int run;
    private int left;
    private int wrong;
    private final List<String> told = new ArrayList<>();
    private final int[] faultsSeen = new int[7];
    private int societiesSeen;
    private int imagesSeen;
    private int changesSeen;
    private int longWaysSeen;

    private int draw(int m) {
        x = x * 6364136223846793005L + 1442695040888963407L;
        return (int) ((x >>> 33) % m);
    }

    private boolean chance(int percent) { return draw(100) < percent; }

    private boolean same(String call, int got, int want) {
        told.add(call + " = " + got);
        left--;
        if (got == want) return true;
        if (++wrong <= 5) {
            System.out.println("run " + run + ": " + call + " answered " + got + ", the model says " + want);
            for (String t : told.subList(Math.max(0, told.size() - 30), told.size())) System.out.println("    " + t);
        }
        return false;
    }

    private static int b(boolean v) { return v ? 1 : 0; }

    // ---- texts

    private String name() {
        StringBuilder s = new StringBuilder();
        int n = 1 + draw(chance(80) ? 2 : 6);
        for (int k = 0; k < n; k++) s.append((char) ('a' + draw(chance(70) ? 8 : 26)));
        return s.toString();
    }

    private String fresh(List<String> taken) {
        String n = name();
        for (int k = 0; k < 100 && (taken.contains(n) || Model.OWN.contains(n)); k++) n = name();
        taken.add(n);
        return n;
    }

    private String number(int max) {
        String n = Integer.toString(draw(max + 1));
        return chance(5) && n.length() < 4 ? "0" + n : n;
    }

    private String part(int depth) {
        String[] facts = {"worth", "rank", "other", "circle", "day", "holds"};
        if (depth > 0 && chance(15)) return "(" + sum(depth - 1) + ")";
        if (depth > 0 && chance(12)) return (chance(50) ? "min" : "max") + "(" + sum(depth - 1) + "," + sum(depth - 1) + ")";
        return chance(30) ? number(chance(80) ? 12 : 9999) : facts[draw(6)];
    }

    private String product(int depth) {
        StringBuilder s = new StringBuilder(part(depth));
        for (int n = 0; n < 4 && chance(25); n++) s.append("*/%".charAt(draw(3))).append(part(depth));
        return s.toString();
    }

    private String sum(int depth) {
        StringBuilder s = new StringBuilder(product(depth));
        for (int n = 0; n < 4 && chance(35); n++) s.append("+-".charAt(draw(2))).append(product(depth));
        return s.toString();
    }

    private String fact(int depth) {
        if (depth > 0 && chance(12)) return "not " + fact(depth - 1);
        if (depth > 0 && chance(12)) return "[" + test(depth - 1) + "]";
        if (chance(12)) return "all";
        return sum(depth) + "<>=".charAt(draw(3)) + sum(depth);
    }

    private String test(int depth) {
        StringBuilder s = new StringBuilder(fact(depth));
        for (int n = 0; n < 4 && chance(35); n++) s.append(chance(50) ? " or " : " and ").append(fact(depth));
        return s.toString();
    }

    private String text() {
        List<String> taken = new ArrayList<>();
        List<String> people = new ArrayList<>();
        List<String> rows = new ArrayList<>();
        List<String> coins = new ArrayList<>();
        boolean chain = chance(15);
        int p = chance(6) ? draw(12) : 2 + draw(chance(25) ? 9 : 4);
        for (int k = 0; k < p; k++) {
            people.add(fresh(taken));
            rows.add("person " + people.get(k) + " rank " + (chain ? k % 10 + "" : number(9)));
        }
        int coinsKnow = chain ? 0 : draw(100);
        int c = p == 0 ? 0 : chance(6) ? draw(14) : draw(13);
        for (int k = 0; k < c; k++) {
            String n = fresh(taken);
            coins.add(n);
            int holder = chance(40) ? draw(Math.min(p, 2)) : draw(p);
            StringBuilder s = new StringBuilder("coin " + n + " worth " + (1 + draw(chance(60) ? 9 : 99)) + " of " + people.get(holder));
            int know = draw(4) == 0 || chance(coinsKnow) ? 100 : 30;
            boolean first = true;
            for (int q = 0; q < p; q++) {
                if (q != holder && chance(know == 100 ? 70 : chain ? 5 : 30)) {
                    s.append(first ? " knows" : "").append(" ").append(people.get(q));
                    first = false;
                }
            }
            rows.add(s.toString());
        }
        int g = p == 0 ? 0 : draw(chance(5) ? 12 : 4);
        for (int k = 0; k < g; k++) rows.add("goods " + fresh(taken) + " worth " + number(chance(70) ? 20 : 99) + " by " + people.get(draw(p)));
        List<String> snubs = new ArrayList<>();
        for (int k = draw(4); k > 0 && c > 0; k--) {
            String coin = coins.get(draw(c));
            String person = people.get(draw(p));
            boolean known = false;
            for (String row : rows) known |= row.startsWith("coin " + coin + " ") && (row + " ").contains(" " + person + " ");
            if (snubs.contains(coin + " " + person) || known ? chance(4) : true) rows.add("snub " + coin + " " + person);
            snubs.add(coin + " " + person);
        }
        for (int k = draw(3); k > 0; k--) rows.add("fades " + number(chance(60) ? 12 : 99));
        for (int k = draw(3); k > 0; k--) rows.add("vogue " + number(100));
        String[] narrow = {"other<rank", "rank<other", "other=rank+1", "rank=other+1", "circle<3 and other>rank",
            "holds<3", "other=circle", "other=(rank+circle)%10", "worth>other*circle", "not holds=circle"};
        String[] chains = {"other=rank+1", "other=rank+1 or other<rank", "other=(rank*3+1)%10", "other=rank+circle%3"};
        if (chain) rows.add("presents " + chains[draw(4)]);
        else if (chance(70)) rows.add(draw(rows.size() + 1), "presents " + (chance(50) ? narrow[draw(10)] : test(draw(4))));
        if (chance(40)) rows.add(draw(rows.size() + 1), "price " + (chance(40) ? "min(worth,9)+day%4" : sum(draw(4))));
        StringBuilder s = new StringBuilder();
        for (String row : rows) s.append(row).append(";").append(chance(10) ? "\n" : "");
        return s.toString();
    }

    private String spread(String text) {
        StringBuilder s = new StringBuilder();
        for (int k = 0; k < text.length(); k++) {
            char c = text.charAt(k);
            boolean inWord = Character.isLetterOrDigit(c) && k > 0 && Character.isLetterOrDigit(text.charAt(k - 1));
            if (!inWord && chance(8)) s.append(chance(50) ? ' ' : '\n');
            s.append(c);
        }
        return s.toString();
    }

    private String spoilt(String text) {
        String[] bits = {"person", "rank", "coin", "worth", "of", "knows", "goods", "by", "snub", "fades", "vogue",
            "presents", "price", "other", "circle", "day", "holds", "or", "and", "not", "all", "min", "max", ";", "[", "]",
            "(", ")", "<", ">", "=", "+", "-", "*", "/", "%", ",", "0", "10", "100", "12345", "a", "b", "sevenab",
            "presentsx", "#", "A", "\u00e9", " ", "", "not ", "(", "[", "\t", "101", "9999", "00000"};
        int at = draw(text.length() + 1);
        int to = Math.min(text.length(), at + (chance(60) ? 0 : draw(chance(70) ? 2 : 20)));
        String bit = bits[draw(bits.length)];
        if (chance(40)) bit = " " + bit + " ";
        if (chance(25)) {
            at = text.indexOf(' ', at);
            if (at < 0) at = 0;
            to = Math.min(text.length(), at + 1);
            while (to < text.length() && Character.isLetterOrDigit(text.charAt(to))) to++;
            String[] words = text.split("[^a-z0-9]+");
            String other = words.length == 0 ? "" : words[draw(words.length)];
            bit = " " + (chance(30) ? number(200) : chance(20) ? name() : chance(80) ? other : bit);
        }
        if (chance(10)) return text.substring(0, at);
        if (chance(15) && at < text.length()) {
            String[] behind = {"presents ", "and ", "or ", "price ", "<", ">", "=", "+", "(", "["};
            int found = text.indexOf(behind[draw(behind.length)]);
            if (found >= 0) at = found + 1;
            for (int k = 0; k < 9 && at > 0 && at < text.length() && Character.isLetter(text.charAt(at - 1)); k++) at++;
            StringBuilder many = new StringBuilder(text.substring(0, at));
            String again = new String[] {"not ", "(", "[", "fades 1;", "vogue 2;"}[draw(5)];
            int times = again.length() > 4 ? 90 : 1 + draw(10);
            for (int k = 0; k < times; k++) many.append(again);
            return many.append(text.substring(at)).toString();
        }
        return text.substring(0, at) + bit + text.substring(to);
    }

    private void feedBytes(List<Integer> bytes) {
        int n = Math.min(bytes.size(), 1600);
        for (int k = 0; k < n; k += 20) {
            int[] v = new int[5];
            for (int i = 0; i < 20; i++) v[i / 4] = v[i / 4] << 8 | (k + i < n ? bytes.get(k + i) : 32);
            same("feed", real.feed(v[0], v[1], v[2], v[3], v[4]), model.feed(v[0], v[1], v[2], v[3], v[4]));
        }
        same("end " + n, b(real.end(n)), b(model.end(n)));
    }

    private void tellSociety(int spoilPercent) {
        String text = text();
        if (chance(30)) text = spread(text);
        for (int n = 0; n < 3 && chance(spoilPercent); n++) text = spoilt(text);
        List<Integer> bytes = new ArrayList<>();
        for (int k = 0; k < text.length(); k++) bytes.add((int) text.charAt(k));
        same("end 0", b(real.end(0)), b(model.end(0)));
        feedBytes(bytes);
        told.add("the text: " + text);
        int want = model.society();
        same("society", real.society(), want);
        same("fault 0", real.fault(0), model.fault(0));
        same("fault 1", real.fault(1), model.fault(1));
        faultsSeen[model.fault(0)]++;
        if (want > 0) societiesSeen++;
    }

    private void tellImage() {
        same("image", real.image(), model.image());
        List<Integer> bytes = new ArrayList<>(model.lastImage());
        for (int k = 0; k < 3 && chance(50); k++) {
            int at = draw(bytes.size());
            bytes.set(at, chance(30) ? draw(256) : draw(6));
        }
        if (chance(50) && bytes.size() > 2) {
            bytes.set(0, draw(4));
            bytes.set(1, draw(256));
        }
        if (chance(90)) {
            bytes.remove(bytes.size() - 1);
            bytes.add(Model.check(bytes));
        }
        if (chance(5)) bytes.remove(bytes.size() - 1);
        if (chance(5)) bytes.add(draw(256));
        same("end 0", b(real.end(0)), b(model.end(0)));
        feedBytes(bytes);
        int want = b(model.on());
        imagesSeen += want;
        same("on", b(real.on()), want);
    }

    private void tellLetters() {
        List<Integer> bytes = new ArrayList<>();
        int n = chance(90) ? 2 * (1 + draw(10)) : draw(44);
        int most = chance(80) ? Math.max(1, Math.min(model.has(0), model.has(1))) : 13;
        for (int k = 0; k < n; k++) bytes.add(draw(most));
        feedBytes(bytes);
        same("letters", real.letters(), model.letters());
        for (int k = -1; k < 6; k++) same("letterIs " + k, real.letterIs(k), model.letterIs(k));
    }

    // ---- calls

    private int near(int count) {
        if (chance(92) && count > 0) return draw(count);
        int[] odd = {-1, -2, count, count + 1, 31, 32, 33, 64, 1 << 30, Integer.MAX_VALUE, Integer.MIN_VALUE};
        return odd[draw(odd.length)];
    }

    private int someCoins() {
        int bits = 0;
        int p = near(model.has(0));
        int held = model.person(p, 1);
        for (int c = 0; c < 12; c++) if ((held >> c & 1) != 0 && chance(50)) bits |= 1 << c;
        return chance(90) ? bits : near(1 << 12);
    }

    private void buy() {
        int g = near(model.has(2));
        int p = near(model.has(0));
        int seller = model.goods(g, 0, 1);
        int bits = 0;
        for (int c = 0; c < model.has(1); c++) {
            if (model.coin(c, 1) == p && model.met(c, seller) >= 0 && chance(60)) bits |= 1 << c;
        }
        if (chance(10)) bits = someCoins();
        int want = model.buy(p, g, bits);
        if (want > 0) changesSeen++;
        same("buy " + p + " " + g + " " + bits, real.buy(p, g, bits), want);
    }

    private void act() {
        int c = near(model.has(1));
        int p = near(model.has(0));
        int n;
        switch (draw(11)) {
            case 0: case 1: same("present " + c + " " + p, real.present(c, p), model.present(c, p)); break;
            case 2: case 3: same("pay " + c + " " + p, b(real.pay(c, p)), b(model.pay(c, p))); break;
            case 4: case 5: for (int k = 0; k < 3; k++) buy(); break;
            case 6:
                n = chance(90) ? draw(1 << Math.max(1, model.has(0))) : near(1 << 11);
                same("tea " + n, real.tea(n), model.tea(n));
                break;
            case 7:
                n = chance(80) ? 1 + draw(6) : chance(60) ? draw(102) : near(101);
                same("days " + n, real.days(n), model.days(n));
                break;
            case 8:
                n = chance(80) ? 1 + draw(6) : chance(60) ? draw(52) : near(51);
                same("calls " + n, real.calls(n), model.calls(n));
                break;
            case 9: same("undo", b(real.undo()), b(model.undo())); break;
            default:
                n = chance(80) ? draw(Integer.MAX_VALUE) : near(5);
                if (chance(30)) same("seed " + n, b(real.seed(n)), b(model.seed(n)));
        }
    }

    private void ask() {
        int c = near(model.has(1));
        int p = near(model.has(0));
        int o = near(model.has(0));
        int w = near(3);
        int n;
        switch (draw(16)) {
            case 0: n = draw(14) - 1; same("has " + n, real.has(n), model.has(n)); break;
            case 1: n = near(6); same("letter " + w + " " + c + " " + n, real.letter(w, c, n), model.letter(w, c, n)); break;
            case 2: n = near(6); same("person " + p + " " + n, real.person(p, n), model.person(p, n)); break;
            case 3: n = near(5); same("coin " + c + " " + n, real.coin(c, n), model.coin(c, n)); break;
            case 4: same("met " + c + " " + p, real.met(c, p), model.met(c, p)); break;
            case 5: same("may " + c + " " + p, real.may(c, p), model.may(c, p)); break;
            case 6: n = near(model.has(2)); same("goods " + n + " " + p + " " + w, real.goods(n, p, w), model.goods(n, p, w)); break;
            case 7: same("spend " + p + " " + o, real.spend(p, o), model.spend(p, o)); break;
            case 8:
                n = chance(90) ? draw(chance(50) ? 30 : 200) : near(100);
                same("introduce " + p + " " + o + " " + n + " " + w, real.introduce(p, o, n, w), model.introduce(p, o, n, w));
                break;
            case 9: comes(c, p); break;
            case 10: n = 1 + draw(5); w = near(2); same("best " + n + " " + w, real.best(n, w), model.best(n, w)); break;
            case 11: w = near(2); same("fair " + p + " " + w, real.fair(p, w), model.fair(p, w)); break;
            case 12: n = near(61); same("later " + c + " " + n, real.later(c, n), model.later(c, n)); break;
            case 13: w = near(2); same("useless " + w, real.useless(w), model.useless(w)); break;
            case 14: n = near(140); same("octet " + n, real.octet(n), model.octet(n)); break;
            default: n = near(6); same("status " + n, real.status(n), model.status(n));
        }
    }

    private void comes(int c, int p) {
        int n = model.comes(c, p, -1);
        if (n > 3) longWaysSeen++;
        same("comes " + c + " " + p, real.comes(c, p, -1), n);
        for (int k = 0; k <= n && k < 5; k++) same("comes " + c + " " + p + " " + k, real.comes(c, p, k), model.comes(c, p, k));
        if (chance(10)) {
            int k = near(20);
            same("comes " + c + " " + p + " " + k, real.comes(c, p, k), model.comes(c, p, k));
        }
    }

    private void sameState() {
        same("image", real.image(), model.image());
        for (int k = 0; k < model.lastImage().size(); k++) {
            if (real.octet(k) != model.octet(k)) same("octet " + k, real.octet(k), model.octet(k));
        }
        for (int k = 0; k < 12; k++) same("has " + k, real.has(k), model.has(k));
    }

    private void oneRun(int number) {
        run = number;
        x = number * 7919L + 1;
        left = CALLS;
        real = new CoinCircle();
        model = new Model();
        told.clear();
        int spoil = number % 3 == 0 ? 60 : 2;
        tellSociety(spoil);
        while (left > 0 && wrong == 0) {
            int what = draw(100);
            if (what < 2 || number % 3 == 0 && what < 30) tellSociety(spoil);
            else if (what < 5) tellImage();
            else if (what < 8) tellLetters();
            else if (what < 40) act();
            else ask();
        }
        sameState();
    }

    public static void main(String[] args) {
        ModelTest test = new ModelTest();
        for (int run = 0; run < RUNS && test.wrong == 0; run++) test.oneRun(run);
        System.out.print("societies " + test.societiesSeen + ", images " + test.imagesSeen + ", changes "
            + test.changesSeen + ", long ways " + test.longWaysSeen + ", faults");
        for (int k = 1; k < 7; k++) System.out.print(" " + test.faultsSeen[k]);
        System.out.println();
        if (test.wrong != 0) System.exit(1);
    }
}
