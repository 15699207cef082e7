import java.util.ArrayDeque;
import java.util.ArrayList;
import java.util.Arrays;
import java.util.Collections;
import java.util.HashMap;
import java.util.HashSet;
import java.util.List;
import java.util.Map;
import java.util.Set;
import java.util.TreeSet;

/** The document told a second time, slowly and by other means, for ModelTest to compare with. */
final class Model {
    static final int NONE = -1;

    /** What a FORMULA asks: worth, rank, other, circle, day, holds. */
    interface Part { long value(Map<String, Integer> facts); }

    static final class Fault extends RuntimeException {
        private static final long serialVersionUID = 1L;
        final int kind;
        final int place;
        Fault(int kind, int place) { super("fault", null, false, false); this.kind = kind; this.place = place; }
    }

    static final class Society {
        final List<String> people = new ArrayList<>();
        final List<Integer> ranks = new ArrayList<>();
        final List<String> coins = new ArrayList<>();
        final List<Integer> worths = new ArrayList<>();
        final List<String> goods = new ArrayList<>();
        final List<Integer> goodsWorths = new ArrayList<>();
        final List<Integer> sellers = new ArrayList<>();
        final State start = new State();
        int fades;
        int vogue;
        int statements;
        Part presents;
        Part price;
    }

    static final class State {
        int day;
        final List<Integer> holders = new ArrayList<>();
        /** For each COIN: PERSON it KNOWS to DAY it MET him. */
        final List<Map<Integer, Integer>> met = new ArrayList<>();
        final List<Set<Integer>> snubs = new ArrayList<>();

        State copy() {
            State s = new State();
            s.day = day;
            s.holders.addAll(holders);
            for (Map<Integer, Integer> m : met) s.met.add(new HashMap<>(m));
            for (Set<Integer> m : snubs) s.snubs.add(new TreeSet<>(m));
            return s;
        }
    }

    // ---- the text

    static final List<String> OWN = Arrays.asList("person", "rank", "coin", "worth", "of", "knows", "goods", "by",
        "snub", "fades", "vogue", "presents", "price", "other", "circle", "day", "holds", "or", "and", "not", "all",
        "min", "max");

    static final class Parser {
        final String text;
        int at;
        String word = "";
        int start;
        int badAt;
        boolean glued;
        int open;
        final Society s = new Society();

        Parser(String text) { this.text = text; }

        static boolean low(char c) { return c >= 'a' && c <= 'z'; }
        static boolean digit(char c) { return c >= '0' && c <= '9'; }

        void next() {
            boolean last = !word.isEmpty() && (low(word.charAt(0)) || digit(word.charAt(0)));
            int from = at;
            while (at < text.length() && (text.charAt(at) == ' ' || text.charAt(at) == '\n')) at++;
            start = at;
            badAt = -1;
            if (at == text.length()) { word = ""; return; }
            char c = text.charAt(at);
            int e = at;
            if (low(c)) while (e < text.length() && low(text.charAt(e))) e++;
            else if (digit(c)) while (e < text.length() && digit(text.charAt(e))) e++;
            else e++;
            word = text.substring(at, e);
            if (last && from == start && (low(c) || digit(c))) badAt = at;
            else if (low(c) && word.length() > 6 && !OWN.contains(word)) badAt = at + 6;
            else if (digit(c) && word.length() > 4) badAt = at + 4;
            at = e;
        }

        Fault bad() { return new Fault(1, badAt >= 0 ? badAt : start); }
        boolean is(String w) { return badAt < 0 && word.equals(w); }
        void must(String w) { if (!is(w)) throw bad(); next(); }
        boolean isName() { return badAt < 0 && !word.isEmpty() && low(word.charAt(0)) && !OWN.contains(word); }
        boolean isNumber() { return badAt < 0 && !word.isEmpty() && digit(word.charAt(0)); }

        int number(int lo, int hi) {
            if (!isNumber()) throw bad();
            int v = Integer.parseInt(word);
            if (v < lo || v > hi) throw new Fault(4, start);
            next();
            return v;
        }

        String fresh() {
            if (!isName()) throw bad();
            if (s.people.contains(word) || s.coins.contains(word) || s.goods.contains(word)) throw new Fault(2, start);
            String w = word;
            next();
            return w;
        }

        int asked(List<String> names, Set<Integer> barred) {
            if (!isName()) throw bad();
            int k = names.indexOf(word);
            if (k < 0 || barred.contains(k)) throw new Fault(3, start);
            next();
            return k;
        }

        Society parse() {
            next();
            while (!(word.isEmpty())) {
                if (s.statements == 80) throw new Fault(6, start);
                statement();
                must(";");
                s.statements++;
            }
            return s;
        }

        void room(boolean full) { if (full) throw new Fault(6, start); }

        void statement() {
            Set<Integer> nobody = Collections.emptySet();
            if (is("person")) {
                room(s.people.size() == 10);
                next();
                String n = fresh();
                s.people.add(n);
                must("rank");
                s.ranks.add(number(0, 9));
            } else if (is("coin")) {
                room(s.coins.size() == 12);
                next();
                s.coins.add(fresh());
                must("worth");
                s.worths.add(number(1, 99));
                must("of");
                int h = asked(s.people, nobody);
                s.start.holders.add(h);
                Map<Integer, Integer> met = new HashMap<>();
                met.put(h, 0);
                s.start.met.add(met);
                s.start.snubs.add(new TreeSet<>());
                if (is("knows")) {
                    next();
                    do met.put(asked(s.people, met.keySet()), 0); while (isName());
                }
            } else if (is("goods")) {
                room(s.goods.size() == 10);
                next();
                s.goods.add(fresh());
                must("worth");
                s.goodsWorths.add(number(0, 99));
                must("by");
                s.sellers.add(asked(s.people, nobody));
            } else if (is("snub")) {
                next();
                int c = asked(s.coins, nobody);
                Set<Integer> barred = new HashSet<>(s.start.met.get(c).keySet());
                barred.addAll(s.start.snubs.get(c));
                s.start.snubs.get(c).add(asked(s.people, barred));
            } else if (is("fades")) {
                next();
                s.fades = number(0, 99);
            } else if (is("vogue")) {
                next();
                s.vogue = number(0, 100);
            } else if (is("presents")) {
                room(s.presents != null);
                next();
                s.presents = test();
            } else if (is("price")) {
                room(s.price != null);
                next();
                s.price = sum();
            } else {
                throw bad();
            }
        }

        void open() { if (open == 7) throw new Fault(5, start); open++; next(); }

        Part test() {
            Part a = both();
            while (is("or")) {
                next();
                Part l = a;
                Part r = both();
                a = f -> l.value(f) != 0 || r.value(f) != 0 ? 1 : 0;
            }
            return a;
        }

        Part both() {
            Part a = fact();
            while (is("and")) {
                next();
                Part l = a;
                Part r = fact();
                a = f -> l.value(f) != 0 && r.value(f) != 0 ? 1 : 0;
            }
            return a;
        }

        Part fact() {
            if (is("not")) {
                open();
                Part a = fact();
                open--;
                return f -> a.value(f) == 0 ? 1 : 0;
            }
            if (is("[")) {
                open();
                Part a = test();
                must("]");
                open--;
                return a;
            }
            if (is("all")) { next(); return f -> 1; }
            Part a = sum();
            String sign = word;
            if (badAt >= 0 || !(sign.equals("<") || sign.equals(">") || sign.equals("="))) throw bad();
            next();
            Part b = sum();
            return f -> {
                int c = Long.compare(a.value(f), b.value(f));
                return (sign.equals("<") ? c < 0 : sign.equals(">") ? c > 0 : c == 0) ? 1 : 0;
            };
        }

        static long cut(long v) { return v > 1000000 ? 1000000 : v < -1000000 ? -1000000 : v; }

        Part sum() {
            Part a = product();
            while (is("+") || is("-")) {
                int sign = is("+") ? 1 : -1;
                next();
                Part l = a;
                Part r = product();
                a = f -> cut(l.value(f) + sign * r.value(f));
            }
            return a;
        }

        Part product() {
            Part a = part();
            while (is("*") || is("/") || is("%")) {
                char sign = word.charAt(0);
                next();
                Part l = a;
                Part r = part();
                a = f -> combined(sign, l.value(f), r.value(f));
            }
            return a;
        }

        static long combined(char sign, long a, long b) {
            if (sign == '*') return cut(a * b);
            if (b == 0) return 0;
            long q = (long) Math.floor((double) a / b);
            return sign == '/' ? cut(q) : cut(a - b * q);
        }

        Part part() {
            if (isNumber()) {
                int v = Integer.parseInt(word);
                next();
                return f -> v;
            }
            if (is("(")) {
                open();
                Part a = sum();
                must(")");
                open--;
                return a;
            }
            if (is("min") || is("max")) {
                boolean min = is("min");
                next();
                if (!is("(")) throw bad();
                open();
                Part a = sum();
                must(",");
                Part b = sum();
                must(")");
                open--;
                return f -> min ? Math.min(a.value(f), b.value(f)) : Math.max(a.value(f), b.value(f));
            }
            for (String w : Arrays.asList("worth", "rank", "other", "circle", "day", "holds")) {
                if (is(w)) { next(); return f -> f.get(w); }
            }
            throw bad();
        }
    }

    // ---- the calls

    private final List<Integer> tape = new ArrayList<>();
    private Society soc = new Society();
    private State st = new State();
    private final ArrayDeque<State> past = new ArrayDeque<>();
    private long seed = 1;
    private int fault;
    private int place = NONE;
    private final int[] refused = new int[6];
    private List<Integer> letters = new ArrayList<>();
    private List<Integer> image = new ArrayList<>();

    private int no(int k) { refused[k]++; return NONE; }
    private int people() { return soc.people.size(); }
    private int coins() { return soc.coins.size(); }
    private boolean isP(int p) { return p >= 0 && p < people(); }
    private boolean isC(int c) { return c >= 0 && c < coins(); }
    private boolean isG(int g) { return g >= 0 && g < soc.goods.size(); }

    int feed(int a, int b, int c, int d, int e) {
        if (tape.size() > 1580) return no(0);
        for (int v : new int[] {a, b, c, d, e}) {
            for (int sh = 24; sh >= 0; sh -= 8) tape.add(v >>> sh & 255);
        }
        return tape.size();
    }

    boolean end(int n) {
        if (n < 0 || n > tape.size()) { no(0); return false; }
        while (tape.size() > n) tape.remove(tape.size() - 1);
        return true;
    }

    int society() {
        StringBuilder b = new StringBuilder();
        for (int v : tape) b.append((char) v);
        tape.clear();
        try {
            soc = new Parser(b.toString()).parse();
        } catch (Fault f) {
            fault = f.kind;
            place = f.place;
            return no(1);
        }
        fault = 0;
        place = NONE;
        st = soc.start.copy();
        past.clear();
        letters = new ArrayList<>();
        return soc.statements;
    }

    int fault(int what) { return what == 0 ? fault : what == 1 ? place : NONE; }

    private static int bits(Iterable<Integer> set) {
        int b = 0;
        for (int k : set) b |= 1 << k;
        return b;
    }

    private static int flow(Society soc, State s) {
        int f = 0;
        for (int c = 0; c < s.holders.size(); c++) f += soc.worths.get(c) * (s.met.get(c).size() - 1);
        return f;
    }

    private static Set<Integer> held(State s, int p) {
        Set<Integer> r = new TreeSet<>();
        for (int c = 0; c < s.holders.size(); c++) if (s.holders.get(c) == p) r.add(c);
        return r;
    }

    private static boolean useless(State s, int p) {
        if (held(s, p).isEmpty()) return false;
        for (int c : held(s, p)) if (s.met.get(c).size() > 1) return false;
        return true;
    }

    int has(int what) {
        int n = 0;
        switch (what) {
            case 0: return people();
            case 1: return coins();
            case 2: return soc.goods.size();
            case 3: return soc.fades;
            case 4: return soc.vogue;
            case 5: return st.day;
            case 6: return flow(soc, st);
            case 7: for (Set<Integer> s : st.snubs) n += s.size(); return n;
            case 8: for (Map<Integer, Integer> m : st.met) if (m.size() == people()) n++; return n;
            case 9: for (int p = 0; p < people(); p++) if (useless(st, p)) n += 1 << p; return n;
            case 10: return past.size();
            case 11: return (int) seed;
            default: return NONE;
        }
    }

    int letter(int kind, int which, int k) {
        List<String> l = kind == 0 ? soc.people : kind == 1 ? soc.coins : kind == 2 ? soc.goods : new ArrayList<>();
        if (which < 0 || which >= l.size() || k < 0 || k > 5) return NONE;
        return k < l.get(which).length() ? l.get(which).charAt(k) - 'a' + 1 : 0;
    }

    private int worth(Iterable<Integer> set) {
        int w = 0;
        for (int c : set) w += soc.worths.get(c);
        return w;
    }

    int person(int p, int what) {
        if (!isP(p)) return NONE;
        Set<Integer> r = new TreeSet<>();
        switch (what) {
            case 0: return soc.ranks.get(p);
            case 1: return bits(held(st, p));
            case 2: return worth(held(st, p));
            case 3: for (int c = 0; c < coins(); c++) if (st.met.get(c).containsKey(p)) r.add(c); return bits(r);
            case 4: for (int c = 0; c < coins(); c++) if (st.snubs.get(c).contains(p)) r.add(c); return bits(r);
            case 5: return useless(st, p) ? 1 : 0;
            default: return NONE;
        }
    }

    int coin(int c, int what) {
        if (!isC(c)) return NONE;
        switch (what) {
            case 0: return soc.worths.get(c);
            case 1: return st.holders.get(c);
            case 2: return bits(st.met.get(c).keySet());
            case 3: return bits(st.snubs.get(c));
            case 4: return st.met.get(c).size();
            default: return NONE;
        }
    }

    int met(int c, int p) { return isC(c) && isP(p) ? st.met.get(c).getOrDefault(p, NONE) : NONE; }

    private static Map<String, Integer> facts(int worth, int rank, int other, int circle, int day, int holds) {
        Map<String, Integer> f = new HashMap<>();
        f.put("worth", worth);
        f.put("rank", rank);
        f.put("other", other);
        f.put("circle", circle);
        f.put("day", day);
        f.put("holds", holds);
        return f;
    }

    private boolean can(State s, int c, int p) {
        return isC(c) && isP(p) && !s.met.get(c).containsKey(p) && !s.snubs.get(c).contains(p);
    }

    private boolean test(State s, int c, int p) {
        if (soc.presents == null) return true;
        int h = s.holders.get(c);
        return soc.presents.value(facts(soc.worths.get(c), soc.ranks.get(h), soc.ranks.get(p), s.met.get(c).size(),
            s.day, held(s, h).size())) != 0;
    }

    int may(int c, int p) { return can(st, c, p) ? test(st, c, p) ? 1 : 0 : NONE; }

    private int price(int g, int p) {
        if (soc.price == null) return soc.goodsWorths.get(g);
        int seller = soc.sellers.get(g);
        int n = 0;
        for (int c : held(st, p)) if (st.met.get(c).containsKey(seller)) n++;
        long v = soc.price.value(facts(soc.goodsWorths.get(g), soc.ranks.get(p), soc.ranks.get(seller), n, st.day,
            held(st, p).size()));
        return v < 0 ? 0 : v > 999 ? 999 : (int) v;
    }

    int goods(int g, int p, int what) {
        if (!isG(g) || !isP(p)) return NONE;
        if (what == 0) return soc.goodsWorths.get(g);
        if (what == 1) return soc.sellers.get(g);
        return what == 2 ? price(g, p) : NONE;
    }

    int spend(int p, int o) {
        if (!isP(p) || !isP(o) || p == o) return NONE;
        int w = 0;
        for (int c : held(st, p)) if (st.met.get(c).containsKey(o)) w += soc.worths.get(c);
        return w;
    }

    private void act() {
        past.addLast(st.copy());
        if (past.size() > 20) past.removeFirst();
    }

    private boolean doPresent(State s, int c, int p) {
        if (test(s, c, p)) { s.met.get(c).put(p, s.day); return true; }
        s.snubs.get(c).add(p);
        return false;
    }

    private void doPay(State s, int c, int p) {
        s.met.get(c).put(p, s.day);
        s.met.get(c).put(s.holders.get(c), s.day);
        s.holders.set(c, p);
    }

    int present(int c, int p) {
        if (!can(st, c, p)) return no(2);
        act();
        return doPresent(st, c, p) ? 1 : 0;
    }

    boolean pay(int c, int p) {
        if (!isC(c) || !isP(p) || st.holders.get(c) == p || !st.met.get(c).containsKey(p)) { no(2); return false; }
        act();
        doPay(st, c, p);
        return true;
    }

    private static Set<Integer> set(int bits) {
        Set<Integer> r = new TreeSet<>();
        for (int k = 0; k < 32; k++) if ((bits >>> k & 1) != 0) r.add(k);
        return r;
    }

    int buy(int p, int g, int given) {
        if (!isP(p) || !isG(g)) return no(3);
        int seller = soc.sellers.get(g);
        if (seller == p) return no(3);
        for (int c : set(given)) {
            if (!isC(c) || st.holders.get(c) != p || !st.met.get(c).containsKey(seller)) return no(3);
        }
        int above = worth(set(given)) - price(g, p);
        if (above < 0) return no(3);
        int change = NONE;
        for (int m = 0; m < 1 << coins(); m++) {
            boolean fine = true;
            for (int c : set(m)) fine &= st.holders.get(c) == seller && st.met.get(c).containsKey(p);
            if (fine && worth(set(m)) == above && (change == NONE || set(m).size() < set(change).size())) change = m;
        }
        if (change == NONE) return no(3);
        act();
        for (int c : set(given)) doPay(st, c, seller);
        for (int c : set(change)) doPay(st, c, p);
        return change;
    }

    private int doTea(State s, Set<Integer> guests) {
        int n = 0;
        for (int c = 0; c < coins(); c++) {
            if (!guests.contains(s.holders.get(c))) continue;
            for (int p : guests) {
                if (can(s, c, p) && test(s, c, p)) { s.met.get(c).put(p, s.day); n++; }
            }
        }
        return n;
    }

    int tea(int bits) {
        Set<Integer> guests = set(bits);
        for (int p : guests) if (!isP(p)) return no(3);
        if (guests.size() < 2 || guests.size() > 4) return no(3);
        act();
        return doTea(st, guests);
    }

    private int day(State s) {
        s.day++;
        int n = 0;
        if (soc.fades == 0) return 0;
        for (int c = 0; c < coins(); c++) {
            for (int p = 0; p < people(); p++) {
                Integer m = s.met.get(c).get(p);
                if (m != null && s.day - m >= soc.fades && s.holders.get(c) != p) { s.met.get(c).remove(p); n++; }
            }
        }
        return n;
    }

    int days(int n) {
        if (n < 1 || n > 100 || st.day + n > 999) return no(4);
        act();
        int f = 0;
        for (int k = 0; k < n; k++) f += day(st);
        return f;
    }

    private int draw(int m) {
        seed = (1103515245L * seed + 12345) % (1L << 31);
        return (int) (seed / 64 % m);
    }

    int calls(int n) {
        if (n < 1 || n > 50 || st.day + n > 999) return no(4);
        act();
        int f = 0;
        for (int k = 0; k < n; k++) {
            day(st);
            if (draw(100) < soc.vogue && coins() > 0) {
                int c = draw(coins());
                int p = draw(people());
                if (can(st, c, p)) { f++; doPresent(st, c, p); }
            }
        }
        return f;
    }

    boolean undo() {
        if (past.isEmpty()) { no(4); return false; }
        st = past.removeLast();
        return true;
    }

    boolean seed(int s) {
        if (s < 0) { no(5); return false; }
        seed = s;
        return true;
    }

    int introduce(int p, int o, int sum, int what) {
        if (!isP(p) || !isP(o) || p == o || sum < 0 || what < 0 || what > 2) return NONE;
        int best = NONE;
        for (int m = 0; m < 1 << coins(); m++) {
            boolean fine = true;
            for (int c : set(m)) fine &= st.holders.get(c) == p && can(st, c, o) && test(st, c, o);
            if (!fine || spend(p, o) + worth(set(m)) < sum) continue;
            if (best == NONE || set(m).size() < set(best).size()
                || set(m).size() == set(best).size() && worth(set(m)) > worth(set(best))) best = m;
        }
        if (best == NONE) return NONE;
        return what == 0 ? set(best).size() : what == 1 ? best : spend(p, o) + worth(set(best));
    }

    /** Looks for a way of just so many ACTS, in the order of the document; dead ends are kept by what is left. */
    private boolean way(State s, int c, int goal, int left, List<Integer> way, Set<String> dead) {
        if (s.holders.get(c) == goal) return true;
        String key = left + " " + s.holders.get(c) + " " + s.met.get(c).keySet();
        if (left == 0 || dead.contains(key)) return false;
        for (int act = 0; act < 2 * people(); act++) {
            int p = act % people();
            boolean pays = act < people();
            if (pays ? s.holders.get(c) == p || !s.met.get(c).containsKey(p) : !can(s, c, p) || !test(s, c, p)) continue;
            State t = s.copy();
            if (pays) doPay(t, c, p); else doPresent(t, c, p);
            way.add(pays ? p : 10 + p);
            if (way(t, c, goal, left - 1, way, dead)) return true;
            way.remove(way.size() - 1);
        }
        dead.add(key);
        return false;
    }

    int comes(int c, int p, int k) {
        if (!isC(c) || !isP(p) || k < NONE) return NONE;
        Set<String> dead = new HashSet<>();
        for (int n = 0; n <= 2 * people(); n++) {
            List<Integer> way = new ArrayList<>();
            if (way(st, c, p, n, way, dead)) {
                return k == NONE ? way.size() : k < way.size() ? way.get(k) : NONE;
            }
        }
        return NONE;
    }

    int best(int n, int what) {
        if (n < 2 || n > 4 || n > people() || what < 0 || what > 1) return NONE;
        int best = NONE;
        int most = NONE;
        for (int m = 0; m < 1 << people(); m++) {
            if (set(m).size() != n) continue;
            State s = st.copy();
            doTea(s, set(m));
            if (flow(soc, s) > most) { most = flow(soc, s); best = m; }
        }
        return what == 0 ? best : most;
    }

    int letters() {
        List<Integer> t = new ArrayList<>(tape);
        tape.clear();
        if (t.isEmpty() || t.size() > 40 || t.size() % 2 == 1) return no(5);
        for (int k = 0; k < t.size(); k += 2) if (!isC(t.get(k)) || !isP(t.get(k + 1))) return no(5);
        letters = new ArrayList<>();
        int n = 0;
        for (int k = 0; k < t.size(); k += 2) {
            int c = t.get(k);
            int p = t.get(k + 1);
            int v = st.met.get(c).containsKey(p) ? 1 : st.snubs.get(c).contains(p) ? 2 : test(st, c, p) ? 0 : 3;
            letters.add(v);
            if (v > 0) n++;
        }
        return n;
    }

    int letterIs(int k) { return k >= 0 && k < letters.size() ? letters.get(k) : NONE; }

    int fair(int p, int what) {
        if (!isP(p) || what < 0 || what > 1) return NONE;
        int all = worth(held(st, p));
        int best = 0;
        int least = Integer.MAX_VALUE;
        for (int m = 0; m < 1 << coins(); m++) {
            if (!held(st, p).containsAll(set(m))) continue;
            int d = Math.abs(all - worth(set(m)) - worth(set(m)));
            if (d < least) { least = d; best = m; }
        }
        return what == 0 ? best : least;
    }

    int later(int c, int n) {
        if (!isC(c) || n < 0 || n > 60 || st.day + n > 999) return NONE;
        State s = st.copy();
        for (int k = 0; k < n; k++) day(s);
        return bits(s.met.get(c).keySet());
    }

    int useless(int what) {
        if (what < 0 || what > 1) return NONE;
        State s = st.copy();
        for (int k = 0; k <= 60 && s.day <= 999; k++) {
            for (int p = 0; p < people(); p++) if (useless(s, p)) return what == 0 ? s.day : p;
            day(s);
        }
        return NONE;
    }

    static int check(List<Integer> bytes) {
        int c = 103;
        for (int b : bytes) c = (5 * c + b) % 251;
        return c;
    }

    int image() {
        image = new ArrayList<>();
        image.add(st.day / 256);
        image.add(st.day % 256);
        for (int c = 0; c < coins(); c++) {
            image.add(st.holders.get(c));
            for (int p = 0; p < people(); p++) {
                Integer m = st.met.get(c).get(p);
                image.add(m != null ? 2 + Math.min(200, st.day - m) : st.snubs.get(c).contains(p) ? 1 : 0);
            }
        }
        image.add(check(image));
        return image.size();
    }

    int octet(int k) { return k >= 0 && k < image.size() ? image.get(k) : NONE; }

    boolean on() {
        List<Integer> t = new ArrayList<>(tape);
        tape.clear();
        if (t.size() != 3 + coins() * (1 + people())) { no(5); return false; }
        int sum = t.remove(t.size() - 1);
        State s = new State();
        s.day = 256 * t.get(0) + t.get(1);
        boolean fine = sum == check(t) && s.day <= 999;
        int at = 2;
        for (int c = 0; c < coins(); c++) {
            int h = t.get(at++);
            Map<Integer, Integer> met = new HashMap<>();
            Set<Integer> snubs = new TreeSet<>();
            for (int p = 0; p < people(); p++) {
                int b = t.get(at++);
                if (b == 1) snubs.add(p);
                if (b >= 2) met.put(p, s.day - (b - 2));
                if (b > 202 || b >= 2 && b - 2 > s.day) fine = false;
            }
            if (!isP(h) || !met.containsKey(h)) fine = false;
            s.holders.add(h);
            s.met.add(met);
            s.snubs.add(snubs);
        }
        if (!fine) { no(5); return false; }
        st = s;
        past.clear();
        return true;
    }

    int status(int what) { return what >= 0 && what < 6 ? refused[what] : NONE; }

    List<Integer> lastImage() { return image; }
}
