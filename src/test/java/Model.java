import java.util.ArrayList;
import java.util.Arrays;
import java.util.HashMap;
import java.util.List;
import java.util.Map;
import java.util.TreeMap;
import java.util.regex.Matcher;
import java.util.regex.Pattern;

/** The document once more, as plainly as can be: everything is tried out, nothing is made fast. */
final class Model {
    static final int NONE = -1;

    static final class Fault extends Exception {
        final int place;

        Fault(int place) {
            super(null, null, false, false);
            this.place = place;
        }
    }

    static final class Broken extends Exception {
        Broken() {
            super(null, null, false, false);
        }
    }

    interface Sum {
        long of(Map<String, Integer> words) throws Broken;
    }

    interface Test {
        boolean of(Map<String, Integer> words) throws Broken;
    }

    static final class Clause {
        String kind;
        Sum first;
        Sum second;
        int times = 1;
        Test condition;
    }

    /** Reads a TEXT as the grammar stands in the document. */
    static final class Parser {
        private static final Pattern TOKEN = Pattern.compile("[a-z]+|[0-9]+|[^a-z0-9 ]", Pattern.DOTALL);
        private static final List<String> LAW_WORDS =
                List.of("good", "base", "keep", "given", "giver", "to", "year", "herald", "mood");
        private static final List<String> ORDER_WORDS =
                List.of("year", "goods", "done", "last", "grain", "holder", "owed");
        private final List<String> tokens = new ArrayList<>();
        private final List<Integer> places = new ArrayList<>();
        private final boolean law;
        private int at = 0;
        private int parts = 0;

        Parser(String text, boolean law) {
            this.law = law;
            Matcher m = TOKEN.matcher(text);
            while (m.find()) {
                tokens.add(m.group());
                places.add(m.start());
            }
            tokens.add("");
            places.add(text.length());
        }

        private boolean sees(String token) {
            return tokens.get(at).equals(token);
        }

        private boolean takes(String token) {
            boolean so = sees(token);
            at += so ? 1 : 0;
            return so;
        }

        private Fault wrong() {
            return new Fault(places.get(at));
        }

        private void must(String token) throws Fault {
            if (!takes(token)) {
                throw wrong();
            }
        }

        private int number(int least, int most) throws Fault {
            String token = tokens.get(at);
            if (!token.matches("[0-9]+")) {
                throw wrong();
            }
            java.math.BigInteger value = new java.math.BigInteger(token);
            if (value.bitLength() > 20 || value.intValue() < least || value.intValue() > most) {
                throw wrong();
            }
            at++;
            return value.intValue();
        }

        List<Clause> all() throws Fault {
            List<Clause> clauses = new ArrayList<>();
            clauses.add(clause());
            while (takes(";")) {
                if (clauses.size() == 12) {
                    throw wrong();
                }
                clauses.add(clause());
            }
            if (at != tokens.size() - 1) {
                throw wrong();
            }
            return clauses;
        }

        private Clause clause() throws Fault {
            Clause c = new Clause();
            c.kind = tokens.get(at);
            if (law) {
                if (takes("worth") || takes("keeps")) {
                    c.first = sum(0);
                } else {
                    must("bars");
                }
            } else {
                if (takes("give")) {
                    c.first = sum(0);
                    must("to");
                    c.second = sum(0);
                } else {
                    must("wait");
                }
                if (takes("times")) {
                    c.times = number(1, 20);
                }
            }
            if (takes("if")) {
                c.condition = test(0);
            }
            return c;
        }

        private Test test(int depth) throws Fault {
            Test left = both(depth);
            while (takes("or")) {
                Test a = left;
                Test b = both(depth);
                left = w -> a.of(w) || b.of(w);
            }
            return left;
        }

        private Test both(int depth) throws Fault {
            Test left = plain(depth);
            while (takes("and")) {
                Test a = left;
                Test b = plain(depth);
                left = w -> a.of(w) && b.of(w);
            }
            return left;
        }

        private Test plain(int depth) throws Fault {
            if (takes("not")) {
                Test a = plain(depth);
                return w -> !a.of(w);
            }
            if (sees("(")) {
                deeper(depth);
                Test a = test(depth + 1);
                must(")");
                return a;
            }
            Sum a = sum(depth);
            String sign = tokens.get(at);
            if (!takes("<") && !takes(">") && !takes("=")) {
                throw wrong();
            }
            Sum b = sum(depth);
            return w -> {
                long left = a.of(w);
                long right = b.of(w);
                return sign.equals("<") ? left < right : sign.equals(">") ? left > right : left == right;
            };
        }

        private void deeper(int depth) throws Fault {
            if (depth == 8) {
                throw wrong();
            }
            at++;
        }

        private static long bound(long value) throws Broken {
            if (Math.abs(value) > 1000000000L) {
                throw new Broken();
            }
            return value;
        }

        private static long divisor(long value) throws Broken {
            if (value == 0) {
                throw new Broken();
            }
            return value;
        }

        private Sum sum(int depth) throws Fault {
            Sum left = term(depth);
            while (sees("+") || sees("-")) {
                boolean plus = takes("+");
                if (!plus) {
                    takes("-");
                }
                Sum a = left;
                Sum b = term(depth);
                left = plus ? w -> bound(a.of(w) + b.of(w)) : w -> bound(a.of(w) - b.of(w));
            }
            return left;
        }

        private Sum term(int depth) throws Fault {
            Sum left = part(depth);
            while (sees("*") || sees("/") || sees("%")) {
                String sign = tokens.get(at++);
                Sum a = left;
                Sum b = part(depth);
                switch (sign) {
                    case "*": left = w -> bound(a.of(w) * b.of(w)); break;
                    case "/": left = w -> a.of(w) / divisor(b.of(w)); break;
                    default: left = w -> a.of(w) % divisor(b.of(w)); break;
                }
            }
            return left;
        }

        private Sum part(int depth) throws Fault {
            if (sees("[")) {
                deeper(depth);
                Sum a = sum(depth + 1);
                must("]");
                return a;
            }
            if (parts == 50) {
                throw wrong();
            }
            parts++;
            String token = tokens.get(at);
            if (token.matches("[0-9]+")) {
                int value = number(0, 1000);
                return w -> value;
            }
            if (!(law ? LAW_WORDS : ORDER_WORDS).contains(token)) {
                throw wrong();
            }
            at++;
            if (!law && ORDER_WORDS.indexOf(token) >= 4) {
                String word = token + number(0, token.equals("holder") ? 15 : 5);
                return w -> w.get(word);
            }
            return w -> w.get(token);
        }
    }

    static final class Lord implements Cloneable {
        int grain;
        int harvest;
        boolean ruined;
        int fouls;
        int lost;
        int won;
    }

    static final class Good {
        int holder;
        int owner;
        int base;
        int keep;
        int given;
        int told = NONE;
    }

    /** What IMAGES keep. */
    static final class State {
        List<Lord> lords = new ArrayList<>();
        List<Good> goods = new ArrayList<>();
        List<Integer> prices = new ArrayList<>();
        List<int[]> roads = new ArrayList<>();
        List<List<Clause>> laws = new ArrayList<>();
        int force = NONE;
        int[] terms = {0, 1, 0};
        /** By against * 10 + from: WORTH, YEAR. */
        Map<Integer, int[]> challenges = new TreeMap<>();

        State copy() {
            State s = new State();
            for (Lord l : lords) {
                Lord c = new Lord();
                c.grain = l.grain;
                c.harvest = l.harvest;
                c.ruined = l.ruined;
                c.fouls = l.fouls;
                c.lost = l.lost;
                c.won = l.won;
                s.lords.add(c);
            }
            for (Good g : goods) {
                Good c = new Good();
                c.holder = g.holder;
                c.owner = g.owner;
                c.base = g.base;
                c.keep = g.keep;
                c.given = g.given;
                c.told = g.told;
                s.goods.add(c);
            }
            s.prices.addAll(prices);
            s.roads.addAll(roads);
            s.laws.addAll(laws);
            s.force = force;
            s.terms = terms.clone();
            for (Map.Entry<Integer, int[]> e : challenges.entrySet()) {
                s.challenges.put(e.getKey(), e.getValue().clone());
            }
            return s;
        }

        private Map<String, Integer> words(int good, int giver, int to, int year, int herald) {
            Good g = goods.get(good);
            Map<String, Integer> w = new HashMap<>();
            w.put("good", good);
            w.put("base", g.base);
            w.put("keep", g.keep);
            w.put("given", g.given);
            w.put("giver", giver);
            w.put("to", to);
            w.put("year", year);
            w.put("herald", herald);
            w.put("mood", terms[2]);
            return w;
        }

        /** What each CLAUSE of the kind that HOLDS tells, in order. */
        private List<Long> tell(String kind, Map<String, Integer> words) {
            List<Long> told = new ArrayList<>();
            if (force != NONE) {
                for (Clause c : laws.get(force)) {
                    try {
                        if (c.kind.equals(kind) && (c.condition == null || c.condition.of(words))) {
                            told.add(c.first == null ? 1 : c.first.of(words));
                        }
                    } catch (Broken e) {
                        continue;
                    }
                }
            }
            return told;
        }

        private int latest(List<Long> told, int without, int most) {
            if (told.isEmpty()) {
                return without;
            }
            return (int) Math.max(0, Math.min(most, told.get(told.size() - 1)));
        }

        int worth(int good, int giver, int to, int herald) {
            return latest(tell("worth", words(good, giver, to, terms[0], herald)), goods.get(good).base, 999);
        }

        int cost(int good, int holder) {
            return latest(tell("keeps", words(good, NONE, holder, terms[0], NONE)), goods.get(good).keep, 99);
        }

        boolean barred(int good, int giver, int to) {
            return !tell("bars", words(good, giver, to, terms[0], NONE)).isEmpty();
        }

        boolean canGive(int good, int to) {
            int giver = goods.get(good).holder;
            return giver != to && !lords.get(giver).ruined && !lords.get(to).ruined && !barred(good, giver, to);
        }

        int give(int good, int to) {
            Good g = goods.get(good);
            int giver = g.holder;
            int worth = worth(good, giver, to, NONE);
            g.given++;
            g.holder = to;
            if (g.owner != giver) {
                lords.get(giver).fouls++;
                return worth;
            }
            int[] his = challenges.get(giver * 10 + to);
            if (his != null && worth <= his[0]) {
                return worth;
            }
            challenges.remove(giver * 10 + to);
            int[] mine = challenges.get(to * 10 + giver);
            if (mine == null) {
                challenges.put(to * 10 + giver, new int[] {worth, terms[0]});
            } else {
                mine[0] = Math.max(mine[0], worth);
            }
            return worth;
        }

        int pass(boolean[] dry) {
            terms[0]++;
            int fallen = 0;
            for (int l = 0; l < lords.size(); l++) {
                Lord lord = lords.get(l);
                if (dry == null || !dry[l]) {
                    lord.grain = Math.min(9999, lord.grain + lord.harvest);
                }
                int due = costOf(l);
                if (due <= lord.grain) {
                    lord.grain -= due;
                    continue;
                }
                if (!lord.ruined) {
                    fallen++;
                }
                lord.ruined = true;
                lord.grain = 0;
                int who = l;
                challenges.keySet().removeIf(k -> k / 10 == who || k % 10 == who);
            }
            List<Integer> gone = new ArrayList<>();
            for (Map.Entry<Integer, int[]> e : challenges.entrySet()) {
                if (terms[0] - e.getValue()[1] >= terms[1]) {
                    lords.get(e.getKey() / 10).lost++;
                    lords.get(e.getKey() % 10).won++;
                    gone.add(e.getKey());
                }
            }
            gone.forEach(challenges::remove);
            return fallen;
        }

        int costOf(int lord) {
            int sum = 0;
            for (int g = 0; g < goods.size(); g++) {
                sum += goods.get(g).holder == lord ? cost(g, lord) : 0;
            }
            return sum;
        }

        int owed(int lord) {
            int sum = 0;
            for (int k : challenges.keySet()) {
                sum += k / 10 == lord ? 1 : 0;
            }
            return sum;
        }

        int middle(int good) {
            int[] all = new int[prices.size()];
            for (int h = 0; h < all.length; h++) {
                all[h] = worth(good, NONE, NONE, h);
            }
            return middleOf(all);
        }

        static int middleOf(int[] told) {
            int[] all = told.clone();
            Arrays.sort(all);
            return all[(all.length - 1) / 2];
        }

        int seen(int lord, int what) {
            Lord l = lords.get(lord);
            switch (what) {
                case 0: return l.grain;
                case 1: return l.harvest;
                case 2: return l.ruined ? 1 : 0;
                case 3: return l.fouls;
                case 4: return l.lost;
                case 5: return l.won;
                case 6: return (int) goods.stream().filter(g -> g.holder == lord).count();
                default: return NONE;
            }
        }
    }

    private State now = new State();
    private final State[] images = new State[2];
    private State generation = null;
    private List<State> past = new ArrayList<>();
    private List<Integer> kinds = new ArrayList<>();
    private String tape = "";
    private int fault = NONE;
    private int stopped = NONE;
    private int dross = 0;
    private int status = 0;
    private final int[] refused = new int[7];

    private boolean lordIs(int n) {
        return n >= 0 && n < now.lords.size();
    }

    private boolean goodIs(int n) {
        return n >= 0 && n < now.goods.size();
    }

    private int no(int by) {
        status = by;
        refused[-by]++;
        return by;
    }

    private int yes(int answer) {
        status = 0;
        return answer;
    }

    private void forget() {
        past = new ArrayList<>();
        kinds = new ArrayList<>();
    }

    private void remember(int kind) {
        past.add(now.copy());
        kinds.add(kind);
        if (past.size() > 16) {
            past.remove(0);
            kinds.remove(0);
        }
    }

    int lord(int grain, int harvest) {
        if (grain < 0 || grain > 9999 || harvest < 0 || harvest > 99) {
            return no(-1);
        }
        if (now.lords.size() == 6) {
            return no(-5);
        }
        forget();
        Lord l = new Lord();
        l.grain = grain;
        l.harvest = harvest;
        now.lords.add(l);
        return yes(now.lords.size() - 1);
    }

    int of(int lord, int what) {
        if (!lordIs(lord)) {
            return NONE;
        }
        return what == 7 ? now.costOf(lord) : now.seen(lord, what);
    }

    int put(int lord, int what, int value) {
        if (what != 0 && what != 1 || value < 0 || value > (what == 0 ? 9999 : 99)) {
            return no(-1);
        }
        if (!lordIs(lord)) {
            return no(-2);
        }
        forget();
        int was = now.seen(lord, what);
        if (what == 0) {
            now.lords.get(lord).grain = value;
        } else {
            now.lords.get(lord).harvest = value;
        }
        return yes(was);
    }

    int good(int holder, int base, int keep) {
        if (base < 0 || base > 99 || keep < 0 || keep > 20) {
            return no(-1);
        }
        if (!lordIs(holder)) {
            return no(-2);
        }
        if (now.goods.size() == 16) {
            return no(-5);
        }
        forget();
        Good g = new Good();
        g.holder = holder;
        g.owner = holder;
        g.base = base;
        g.keep = keep;
        now.goods.add(g);
        return yes(now.goods.size() - 1);
    }

    int at(int good, int what) {
        if (!goodIs(good)) {
            return NONE;
        }
        Good g = now.goods.get(good);
        switch (what) {
            case 0: return g.holder;
            case 1: return g.owner;
            case 2: return g.base;
            case 3: return g.keep;
            case 4: return g.given;
            case 5: return now.cost(good, g.holder);
            default: return NONE;
        }
    }

    int terms(int what, int value) {
        int[] least = {0, 1, 0};
        int[] most = {999, 3, 9};
        if (what < 0 || what > 2 || value < least[what] || value > most[what]) {
            return no(-1);
        }
        forget();
        int was = now.terms[what];
        now.terms[what] = value;
        return yes(was);
    }

    int feed(int a, int b, int c, int d, int e) {
        if (tape.length() + 20 > 400) {
            return NONE;
        }
        StringBuilder more = new StringBuilder(tape);
        for (int n : new int[] {a, b, c, d, e}) {
            for (int i = 3; i >= 0; i--) {
                more.append((char) (n >> 8 * i & 255));
            }
        }
        tape = more.toString();
        return tape.length();
    }

    int end(int n) {
        if (n < 0 || n > tape.length()) {
            return NONE;
        }
        tape = tape.substring(0, n);
        return n;
    }

    int row() {
        if (tape.isEmpty()) {
            return no(-6);
        }
        String bytes = tape;
        tape = "";
        forget();
        dross = 0;
        int came = 0;
        for (int i = 0; i < bytes.length(); i += 3) {
            if (i + 2 < bytes.length() && lordIs(bytes.charAt(i)) && bytes.charAt(i + 1) < 100
                    && bytes.charAt(i + 2) < 21 && now.goods.size() < 16) {
                good(bytes.charAt(i), bytes.charAt(i + 1), bytes.charAt(i + 2));
                came++;
            } else {
                dross++;
            }
        }
        return yes(came);
    }

    int dross() {
        return dross;
    }

    int law() {
        String text = tape;
        tape = "";
        if (now.laws.size() == 6) {
            return no(-5);
        }
        try {
            now.laws.add(new Parser(text, true).all());
            fault = NONE;
        } catch (Fault e) {
            fault = e.place;
            return no(-6);
        }
        return yes(now.laws.size() - 1);
    }

    int orders() {
        String text = tape;
        tape = "";
        stopped = NONE;
        List<Clause> clauses;
        try {
            clauses = new Parser(text, false).all();
            fault = NONE;
        } catch (Fault e) {
            fault = e.place;
            return no(-6);
        }
        State was = now.copy();
        List<State> pastWas = new ArrayList<>(past);
        List<Integer> kindsWere = new ArrayList<>(kinds);
        int done = 0;
        int[] last = {NONE};
        for (int c = 0; c < clauses.size(); c++) {
            for (int i = 0; i < clauses.get(c).times; i++) {
                int ran = step(clauses.get(c), done, last);
                if (ran == NONE) {
                    now = was;
                    past = pastWas;
                    kinds = kindsWere;
                    stopped = c;
                    return no(-3);
                }
                done += ran;
            }
        }
        return yes(done);
    }

    private int step(Clause clause, int done, int[] last) {
        Map<String, Integer> w = new HashMap<>();
        w.put("year", now.terms[0]);
        w.put("goods", now.goods.size());
        w.put("done", done);
        w.put("last", last[0]);
        for (int i = 0; i < 16; i++) {
            w.put("grain" + i, lordIs(i) ? now.lords.get(i).grain : NONE);
            w.put("owed" + i, lordIs(i) ? now.owed(i) : NONE);
            w.put("holder" + i, goodIs(i) ? now.goods.get(i).holder : NONE);
        }
        try {
            if (clause.condition != null && !clause.condition.of(w)) {
                return 0;
            }
        } catch (Broken e) {
            return 0;
        }
        if (clause.kind.equals("wait")) {
            if (now.terms[0] == 999) {
                return NONE;
            }
            remember(1);
            now.pass(null);
            return 1;
        }
        long good;
        long to;
        try {
            good = clause.first.of(w);
            to = clause.second.of(w);
        } catch (Broken e) {
            return NONE;
        }
        if (good < 0 || good >= now.goods.size() || to < 0 || to >= now.lords.size()
                || !now.canGive((int) good, (int) to)) {
            return NONE;
        }
        remember(0);
        last[0] = now.give((int) good, (int) to);
        return 1;
    }

    int fault() {
        return fault;
    }

    int stopped() {
        return stopped;
    }

    int force(int law) {
        if (law < NONE || law >= now.laws.size()) {
            return no(-2);
        }
        int was = now.force;
        now.force = law;
        return yes(was);
    }

    int asks(int good, int to, int what) {
        if (!goodIs(good) || !lordIs(to) || now.goods.get(good).holder == to) {
            return NONE;
        }
        Good g = now.goods.get(good);
        switch (what) {
            case 0: return now.worth(good, g.holder, to, NONE);
            case 1: return now.barred(good, g.holder, to) ? 1 : 0;
            case 2: return g.holder == g.owner ? 0 : 1;
            default: return NONE;
        }
    }

    int give(int good, int to) {
        if (!goodIs(good) || !lordIs(to)) {
            return no(-2);
        }
        if (!now.canGive(good, to)) {
            return no(-3);
        }
        remember(0);
        return yes(now.give(good, to));
    }

    int await() {
        if (now.terms[0] == 999) {
            return no(-3);
        }
        remember(1);
        return yes(now.pass(null));
    }

    int undo() {
        if (past.isEmpty()) {
            return no(-3);
        }
        State was = past.remove(past.size() - 1);
        was.prices = now.prices;
        was.roads = now.roads;
        was.laws = now.laws;
        was.force = now.force;
        for (int g = 0; g < now.goods.size(); g++) {
            was.goods.get(g).told = now.goods.get(g).told;
        }
        now = was;
        return yes(kinds.remove(kinds.size() - 1));
    }

    int debt(int against, int from, int what) {
        int[] c = lordIs(against) && lordIs(from) ? now.challenges.get(against * 10 + from) : null;
        return c == null || what < 0 || what > 1 ? NONE : c[what];
    }

    int owed(int lord, int what) {
        if (!lordIs(lord) || what < 0 || what > 1) {
            return NONE;
        }
        if (what == 0) {
            return now.owed(lord);
        }
        int best = NONE;
        for (int from = 5; from >= 0; from--) {
            int[] c = now.challenges.get(lord * 10 + from);
            if (c != null && (best == NONE || c[0] >= now.challenges.get(lord * 10 + best)[0])) {
                best = from;
            }
        }
        return best;
    }

    /** GOODS held as OWNER, so many at most, barred ones of these aside. */
    private List<Integer> own(int giver, int to, int most) {
        List<Integer> all = new ArrayList<>();
        for (int g = 0; g < now.goods.size(); g++) {
            if (now.goods.get(g).holder == giver && now.goods.get(g).owner == giver && all.size() < most) {
                all.add(g);
            }
        }
        all.removeIf(g -> now.barred(g, giver, to));
        return all;
    }

    private final class Game {
        final int[] lords;
        final List<List<Integer>> goods = new ArrayList<>();

        Game(int first, int other) {
            lords = new int[] {first, other};
            goods.add(own(first, other, 6));
            goods.add(own(other, first, 6));
        }

        List<Integer> can(int side, List<Integer> given) {
            List<Integer> can = new ArrayList<>(goods.get(side));
            can.removeAll(given);
            if (!given.isEmpty()) {
                int last = given.get(given.size() - 1);
                int lastWorth = now.worth(last, lords[1 - side], lords[side], NONE);
                can.removeIf(g -> now.worth(g, lords[side], lords[1 - side], NONE) <= lastWorth);
            }
            return can;
        }

        /** Whether who gives this now wins by it; the grains are as they are ahead of it. */
        boolean wins(int good, List<Integer> given, int[] grains) {
            int side = given.size() % 2;
            int cost = now.cost(good, lords[1 - side]);
            int[] left = grains.clone();
            left[1 - side] -= cost;
            if (left[1 - side] < 0) {
                return true;
            }
            List<Integer> more = new ArrayList<>(given);
            more.add(good);
            for (int answer : can(1 - side, more)) {
                if (wins(answer, more, left)) {
                    return false;
                }
            }
            return true;
        }
    }

    int duel(int first, int other, int what) {
        if (!lordIs(first) || !lordIs(other) || first == other || what < 0 || what > 3) {
            return NONE;
        }
        Game game = new Game(first, other);
        int[] grains = {now.lords.get(first).grain, now.lords.get(other).grain};
        List<Integer> winning = new ArrayList<>(game.goods.get(0));
        winning.removeIf(g -> !game.wins(g, List.of(), grains));
        if (what == 0) {
            return winning.isEmpty() ? other : first;
        }
        if (what < 3) {
            return what == 1 ? winning.size() : winning.isEmpty() ? NONE : winning.get(0);
        }
        List<Integer> given = new ArrayList<>();
        int[] left = grains.clone();
        while (true) {
            int side = given.size() % 2;
            List<Integer> can = game.can(side, given);
            if (can.isEmpty()) {
                return given.size();
            }
            int chosen = can.get(0);
            for (int i = can.size() - 1; i >= 0; i--) {
                if (game.wins(can.get(i), given, left)) {
                    chosen = can.get(i);
                }
            }
            given.add(chosen);
            left[1 - side] -= now.cost(chosen, game.lords[1 - side]);
            if (left[1 - side] < 0) {
                return given.size();
            }
        }
    }

    private static int fall(State from, int lord, int n) {
        State s = from.copy();
        for (int i = 0; i < n; i++) {
            s.pass(null);
            if (s.lords.get(lord).ruined) {
                return s.terms[0];
            }
        }
        return NONE;
    }

    int ruin(int lord, int n) {
        if (!lordIs(lord) || n < 1 || n > 99 || now.lords.get(lord).ruined) {
            return NONE;
        }
        return fall(now, lord, n);
    }

    int siege(int from, int to, int n, int what) {
        if (!lordIs(from) || !lordIs(to) || from == to || n < 1 || n > 9 || what < 0 || what > 2
                || now.lords.get(from).ruined || now.lords.get(to).ruined) {
            return NONE;
        }
        List<Integer> goods = own(from, to, 10);
        int[] best = null;
        for (int mask = 0; mask < 1 << goods.size(); mask++) {
            State s = now.copy();
            int[] found = {0, 0, 0};
            for (int i = 0; i < goods.size(); i++) {
                if ((mask >> i & 1) == 1) {
                    int good = goods.get(i);
                    s.goods.get(good).holder = to;
                    found[0]++;
                    found[1] += now.worth(good, from, to, NONE);
                    found[2] += 1 << good;
                }
            }
            if ((best == null || Arrays.compare(found, best) < 0) && fall(s, to, n) != NONE) {
                best = found;
            }
        }
        return best == null ? NONE : best[what];
    }

    int herald(int price) {
        if (price < 1 || price > 9) {
            return no(-1);
        }
        if (now.prices.size() == 5) {
            return no(-5);
        }
        now.prices.add(price);
        return yes(now.prices.size() - 1);
    }

    int tells(int herald, int good) {
        if (!goodIs(good) || herald < NONE || herald >= now.prices.size() || now.prices.isEmpty()) {
            return NONE;
        }
        return herald == NONE ? now.middle(good) : now.worth(good, NONE, NONE, herald);
    }

    int bribe(int good, int over, int what) {
        if (!goodIs(good) || !goodIs(over) || good == over || now.prices.isEmpty() || what < 0 || what > 1) {
            return NONE;
        }
        int other = now.middle(over);
        int heralds = now.prices.size();
        int[] best = null;
        for (int mask = 0; mask < 1 << heralds; mask++) {
            int[] told = new int[heralds];
            int price = 0;
            boolean can = true;
            for (int h = 0; h < heralds; h++) {
                told[h] = now.worth(good, NONE, NONE, h);
                if ((mask >> h & 1) == 1) {
                    int more = other + 1 - told[h];
                    can &= more > 0 && told[h] + more <= 999;
                    told[h] += more;
                    price += more * now.prices.get(h);
                }
            }
            int[] found = {price, mask};
            if (can && State.middleOf(told) > other && (best == null || Arrays.compare(found, best) < 0)) {
                best = found;
            }
        }
        return best == null ? NONE : best[what];
    }

    int road(int one, int other, int days, int thieves) {
        if (one == other || days < 1 || days > 30 || thieves < 0 || thieves > 10) {
            return no(-1);
        }
        if (!lordIs(one) || !lordIs(other)) {
            return no(-2);
        }
        if (now.roads.size() == 12) {
            return no(-5);
        }
        now.roads.add(new int[] {one, other, days, thieves});
        return yes(now.roads.size() - 1);
    }

    /** Of each way: likely (turned), DAYS, then the row. */
    private void ways(List<Integer> row, int to, int product, int days, List<List<Integer>> all) {
        int here = row.get(row.size() - 1);
        if (here == to) {
            int likely = product;
            for (int i = row.size(); i <= 5; i++) {
                likely *= 10;
            }
            List<Integer> found = new ArrayList<>(List.of(-likely, days));
            found.addAll(row);
            all.add(found);
            return;
        }
        for (int[] road : now.roads) {
            int next = road[0] == here ? road[1] : road[1] == here ? road[0] : NONE;
            if (next != NONE && !row.contains(next) && row.size() <= 5) {
                List<Integer> more = new ArrayList<>(row);
                more.add(next);
                ways(more, to, product * (10 - road[3]), days + road[2], all);
            }
        }
    }

    private static int compare(List<Integer> a, List<Integer> b) {
        for (int i = 0; i < Math.min(a.size(), b.size()); i++) {
            if (!a.get(i).equals(b.get(i))) {
                return a.get(i) - b.get(i);
            }
        }
        return a.size() - b.size();
    }

    int way(int from, int to, int what) {
        if (!lordIs(from) || !lordIs(to)) {
            return NONE;
        }
        List<List<Integer>> all = new ArrayList<>();
        ways(List.of(from), to, 1, 0, all);
        all.removeIf(w -> w.get(0) == 0);
        if (all.isEmpty()) {
            return NONE;
        }
        List<Integer> best = all.stream().min(Model::compare).get();
        switch (what) {
            case 0: return -best.get(0);
            case 1: return best.get(1);
            case 2: return best.size() - 3;
            default: return what >= 3 && what < best.size() + 1 ? best.get(what - 1) : NONE;
        }
    }

    private void rings(List<Integer> row, List<List<Integer>> all) {
        int last = row.get(row.size() - 1);
        if (row.size() > 1 && now.challenges.containsKey(last * 10 + row.get(0))) {
            int bits = 0;
            for (int l : row) {
                bits |= 1 << l;
            }
            List<Integer> found = new ArrayList<>(List.of(row.size(), bits));
            found.addAll(row);
            all.add(found);
        }
        for (int next = row.get(0) + 1; next < now.lords.size(); next++) {
            if (!row.contains(next) && now.challenges.containsKey(last * 10 + next)) {
                List<Integer> more = new ArrayList<>(row);
                more.add(next);
                rings(more, all);
            }
        }
    }

    int ring(int i) {
        List<List<Integer>> all = new ArrayList<>();
        for (int l = 0; l < now.lords.size(); l++) {
            rings(List.of(l), all);
        }
        if (all.isEmpty() || i < NONE) {
            return NONE;
        }
        List<Integer> best = all.stream().min(Model::compare).get();
        return i == NONE ? best.get(0) : i < best.get(0) ? best.get(i + 2) : NONE;
    }

    int shelf(int good, int lord) {
        if (lord < NONE) {
            return no(-1);
        }
        if (!goodIs(good) || lord >= now.lords.size()) {
            return no(-2);
        }
        int was = now.goods.get(good).told;
        now.goods.get(good).told = lord;
        return yes(was);
    }

    /** Tries out all rows; the first that fits comes first. */
    private int rows(State s, List<Integer> row, int n, List<Integer> first) {
        if (row.size() == 2 * n) {
            for (Good g : s.goods) {
                if (g.told != NONE && g.told != g.holder) {
                    return 0;
                }
            }
            if (first.isEmpty()) {
                first.addAll(row);
            }
            return 1;
        }
        int sum = 0;
        for (int g = 0; g < s.goods.size(); g++) {
            for (int l = 0; l < s.lords.size(); l++) {
                if (s.canGive(g, l)) {
                    int was = s.goods.get(g).holder;
                    s.goods.get(g).holder = l;
                    List<Integer> more = new ArrayList<>(row);
                    more.add(g);
                    more.add(l);
                    sum += rows(s, more, n, first);
                    s.goods.get(g).holder = was;
                }
            }
        }
        return sum;
    }

    int found(int n, int what) {
        if (n < 0 || n > 3 || what < 0 || what > 2 * n) {
            return NONE;
        }
        List<Integer> first = new ArrayList<>();
        int sum = rows(now.copy(), List.of(), n, first);
        return what == 0 ? sum : first.isEmpty() ? NONE : first.get(what - 1);
    }

    int beats(int lord, int other, int i) {
        if (!lordIs(lord) || !lordIs(other) || lord == other || i < NONE) {
            return NONE;
        }
        List<Integer> beating = new ArrayList<>();
        for (int g = 0; g < now.goods.size(); g++) {
            boolean beats = now.goods.get(g).holder == lord;
            for (int h = 0; h < now.goods.size(); h++) {
                if (now.goods.get(h).holder == other
                        && now.worth(g, lord, other, NONE) <= now.worth(h, other, lord, NONE)) {
                    beats = false;
                }
            }
            if (beats) {
                beating.add(g);
            }
        }
        return i == NONE ? beating.size() : i < beating.size() ? beating.get(i) : NONE;
    }

    private long drawSeed;

    private int draw(int m) {
        drawSeed = (drawSeed * 1103 + 12345) % 1000003;
        return (int) (drawSeed % m);
    }

    int generation(int seed, int n) {
        if (seed < 0 || seed > 1000000 || n < 1 || n > 50) {
            return no(-1);
        }
        if (now.lords.isEmpty()) {
            return no(-3);
        }
        drawSeed = seed;
        generation = now.copy();
        int gifts = 0;
        for (int y = 0; y < n; y++) {
            if (!generation.goods.isEmpty()) {
                int good = draw(generation.goods.size());
                int to = draw(generation.lords.size());
                if (generation.canGive(good, to)) {
                    generation.give(good, to);
                    gifts++;
                }
            }
            boolean[] dry = new boolean[generation.lords.size()];
            for (int l = 0; l < dry.length; l++) {
                dry[l] = draw(3) == 0;
            }
            if (generation.terms[0] == 999) {
                return yes(gifts);
            }
            generation.pass(dry);
        }
        return yes(gifts);
    }

    int drawn(int lord, int what) {
        return generation == null || lord < 0 || lord >= generation.lords.size() ? NONE : generation.seen(lord, what);
    }

    int image(int k) {
        if (k != 0 && k != 1) {
            return no(-1);
        }
        images[k] = now.copy();
        return yes(0);
    }

    int back(int k) {
        if (k != 0 && k != 1) {
            return no(-1);
        }
        if (images[k] == null) {
            return no(-2);
        }
        now = images[k].copy();
        forget();
        return yes(0);
    }

    int count(int what) {
        switch (what) {
            case 0: return now.lords.size();
            case 1: return now.goods.size();
            case 2: return now.prices.size();
            case 3: return now.roads.size();
            case 4: return now.laws.size();
            case 5: return now.challenges.size();
            case 6: return past.size();
            case 7: return tape.length();
            case 8: return refused[1];
            case 9: return refused[2];
            case 10: return refused[3];
            case 11: return refused[5];
            case 12: return refused[6];
            case 13: return now.force;
            case 14: return now.terms[0];
            case 15: return now.terms[1];
            case 16: return now.terms[2];
            default: return NONE;
        }
    }

    int status() {
        return status;
    }
}
