import java.nio.charset.StandardCharsets;
import java.util.ArrayList;
import java.util.HashMap;
import java.util.List;
import java.util.Map;
import java.util.NoSuchElementException;
import java.util.TreeSet;

/**
 * The document once more, in the most literal form and without a thought of cost, so that random
 * runs can hold LandBonds against a second reading. It shares no code with the program.
 */
final class Model {
    interface Expr {
        int at(Asking a);
    }

    static final class Clause {
        String verb;
        String when;
        Expr first;
        Expr second;
        int children = -1;
        int strikes = -1;
    }

    static final class Fact {
        int kind, one, other, place, told, back = Integer.MAX_VALUE;
        final List<Integer> days = new ArrayList<>();
    }

    static final class Act {
        int land, from, to, told, back = Integer.MAX_VALUE;
        List<Clause> clauses;
    }

    static final class Link {
        int person, day, act, clause, fact, child;
        Link leans;
    }

    static final class Fault extends RuntimeException {
        final int kind, place;
        Fault(int kind, int place) { this.kind = kind; this.place = place; }
    }

    int tonight, lands, faultPlace = -1;
    final List<Integer> places = new ArrayList<>();
    final List<int[]> persons = new ArrayList<>();
    final List<Fact> facts = new ArrayList<>();
    final List<Act> acts = new ArrayList<>();
    byte[] tape = new byte[0];

    static final String[] WHENS = {"birth", "wed", "oath", "choose", "serve", "border", "act"};

    // ---- telling ----

    int land() { return lands == 5 ? -1 : lands++; }

    int place(int land) {
        if (places.size() == 12 || land < -1 || land >= lands) return -1;
        places.add(land);
        return places.size() - 1;
    }

    int person(int sex, int father, int mother) {
        int n = persons.size();
        if (n == 20 || sex < 0 || sex > 1 || father < -1 || father >= n || mother < -1 || mother >= n) return -1;
        persons.add(new int[] {sex, father, mother});
        return n;
    }

    static void must(boolean there) { if (!there) throw new NoSuchElementException(); }
    void mustEvening(int k) { if (k < 0 || k > tonight) throw new IllegalArgumentException(); }
    boolean isPerson(int p) { return p >= 0 && p < persons.size(); }
    boolean isLand(int l) { return l >= 0 && l < lands; }
    boolean isPlace(int p) { return p >= 0 && p < places.size(); }
    static boolean isDay(int d) { return d >= 0 && d <= 72999; }

    int fact(int kind, int one, int other, int place, int day) {
        must(kind >= 0 && kind <= 6);
        if (kind != 5) must(isPerson(one));
        if (kind == 1) must(isPerson(other));
        if (kind >= 2 && kind <= 5) must(isLand(other));
        if (kind == 0 || kind == 1 || kind == 5 || kind == 6) must(isPlace(place));
        if (facts.size() == 100 || !isDay(day) || (kind == 1 && one == other)) return -1;
        Fact f = new Fact();
        f.kind = kind; f.one = one; f.other = other; f.place = place; f.told = tonight;
        f.days.add(day);
        facts.add(f);
        return facts.size() - 1;
    }

    int also(int fact, int day) {
        must(fact >= 0 && fact < facts.size());
        Fact f = facts.get(fact);
        if (f.days.size() == 3 || f.days.contains(day) || !isDay(day)) return -1;
        f.days.add(day);
        return f.days.size();
    }

    boolean back(boolean act, int n) {
        must(n >= 0 && n < (act ? acts.size() : facts.size()));
        if (act) {
            if (acts.get(n).back != Integer.MAX_VALUE) return false;
            acts.get(n).back = tonight;
        } else {
            if (facts.get(n).back != Integer.MAX_VALUE) return false;
            facts.get(n).back = tonight;
        }
        return true;
    }

    int evenings(int n) {
        if (n < 0 || (long) tonight + n > 999) throw new IllegalArgumentException();
        return tonight += n;
    }

    int feed(int a, int b, int c, int d, int e) {
        if (tape.length + 20 > 500) return -1;
        java.nio.ByteBuffer all = java.nio.ByteBuffer.allocate(tape.length + 20);
        all.put(tape);
        for (int v : new int[] {a, b, c, d, e}) all.putInt(v);
        tape = all.array();
        return tape.length;
    }

    int act(int land, int n, int from, int to) {
        must(isLand(land));
        if (n < 0 || n > tape.length) throw new IllegalArgumentException();
        String text = new String(tape, 0, n, StandardCharsets.ISO_8859_1);
        tape = new byte[0];
        faultPlace = -1;
        if (acts.size() == 12 || !isDay(from) || !isDay(to)) return -9;
        Act a = new Act();
        a.land = land; a.from = from; a.to = to; a.told = tonight;
        try {
            a.clauses = new Reader(text, land).all();
        } catch (Fault f) {
            faultPlace = f.place;
            return -1 - f.kind;
        }
        acts.add(a);
        return acts.size() - 1;
    }

    // ---- reading ----

    final class Reader {
        final List<String> words = new ArrayList<>();
        final List<Integer> starts = new ArrayList<>();
        final int land;
        int at = 0;

        Reader(String text, int land) {
            this.land = land;
            java.util.regex.Matcher m = java.util.regex.Pattern.compile("[a-z]+|[0-9]+|[ \\n]+|[\\s\\S]").matcher(text);
            while (m.find()) {
                if (m.group().isBlank() && (m.group().startsWith(" ") || m.group().startsWith("\n"))) continue;
                words.add(m.group());
                starts.add(m.start());
            }
            words.add("");
            starts.add(text.length());
        }

        String now() { return words.get(at); }
        Fault fault(int kind) { return new Fault(kind, starts.get(at)); }
        boolean isWord() { return now().matches("[a-z]+"); }
        boolean isNumber() { return now().matches("[0-9]+"); }
        void take(String what) { if (!now().equals(what)) throw fault(1); at++; }
        boolean took(String what) { if (!now().equals(what)) return false; at++; return true; }

        int number() {
            if (!isNumber()) throw fault(1);
            if (now().length() > 5) throw fault(2);
            return Integer.parseInt(now());
        }

        List<Clause> all() {
            List<Clause> all = new ArrayList<>();
            while (!now().isEmpty()) {
                if (!List.of("gain", "lose", "strike").contains(now())) throw fault(1);
                if (all.size() == 12) throw fault(2);
                all.add(clause());
            }
            return all;
        }

        Clause clause() {
            Clause c = new Clause();
            c.verb = words.get(at++);
            if (c.verb.equals("strike")) {
                int n = number();
                if (n >= acts.size() || acts.get(n).land != land) throw fault(4);
                c.strikes = n;
                at++;
            } else {
                if (!List.of(WHENS).contains(now())) throw fault(1);
                c.when = words.get(at++);
                c.first = expr(0);
                if (took("unless")) c.second = expr(0);
                if (took("children")) {
                    c.children = number();
                    at++;
                }
            }
            take(";");
            return c;
        }

        Expr expr(int within) {
            if (within == 6) throw fault(isWord() || isNumber() || now().equals("(") ? 2 : 1);
            Expr left = and(within);
            while (took("or")) {
                Expr l = left, r = and(within);
                left = a -> l.at(a) != 0 | r.at(a) != 0 ? 1 : 0;
            }
            return left;
        }

        Expr and(int within) {
            Expr left = not(within, 0);
            while (took("and")) {
                Expr l = left, r = not(within, 0);
                left = a -> l.at(a) != 0 & r.at(a) != 0 ? 1 : 0;
            }
            return left;
        }

        Expr not(int within, int ahead) {
            if (now().equals("not")) {
                if (ahead == 6) throw fault(2);
                at++;
                Expr e = not(within, ahead + 1);
                return a -> e.at(a) == 0 ? 1 : 0;
            }
            Expr l = sum(within);
            if (took("<")) {
                Expr r = sum(within);
                return a -> l.at(a) < r.at(a) ? 1 : 0;
            }
            if (took("=")) {
                Expr r = sum(within);
                return a -> l.at(a) == r.at(a) ? 1 : 0;
            }
            return l;
        }

        Expr sum(int within) {
            Expr left = product(within);
            while (now().equals("+") || now().equals("-")) {
                boolean plus = words.get(at++).equals("+");
                Expr l = left, r = product(within);
                left = a -> plus ? l.at(a) + r.at(a) : l.at(a) - r.at(a);
            }
            return left;
        }

        Expr product(int within) {
            Expr left = part(within);
            while (now().equals("*") || now().equals("/")) {
                boolean times = words.get(at++).equals("*");
                Expr l = left, r = part(within);
                left = a -> times ? l.at(a) * r.at(a) : r.at(a) == 0 ? 0 : l.at(a) / r.at(a);
            }
            return left;
        }

        Expr part(int within) {
            if (took("(")) {
                Expr e = expr(within + 1);
                take(")");
                return e;
            }
            if (isWord()) {
                String name = now();
                if (!VALUES.contains(name)) throw fault(3);
                at++;
                return a -> a.value(name);
            }
            int n = number();
            at++;
            return a -> n;
        }
    }

    static final List<String> VALUES = List.of("here", "father", "mother", "wedded", "spouse", "sex", "age",
        "stay", "has", "others", "to", "year", "moved");

    // ---- a way ----

    boolean known(int told, int back, int k) { return told <= k && back > k; }

    List<Integer> inDoubt(int k) {
        List<Integer> those = new ArrayList<>();
        for (int f = 0; f < facts.size(); f++) {
            Fact x = facts.get(f);
            if (those.size() < 3 && known(x.told, x.back, k) && x.days.size() > 1) those.add(f);
        }
        return those;
    }

    /** Each way: the day's index for each one in doubt. */
    List<int[]> wayPicks(int k) {
        List<int[]> all = new ArrayList<>();
        all.add(new int[0]);
        for (int f : inDoubt(k)) {
            List<int[]> longer = new ArrayList<>();
            for (int[] w : all) {
                for (int d = 0; d < facts.get(f).days.size(); d++) {
                    int[] x = java.util.Arrays.copyOf(w, w.length + 1);
                    x[w.length] = d;
                    longer.add(x);
                }
            }
            all = longer;
        }
        return all;
    }

    boolean inForce(int act, int day, int k, int without) {
        Act a = acts.get(act);
        if (act == without || !known(a.told, a.back, k) || day < a.from || day >= a.to) return false;
        for (int b = act + 1; b < acts.size(); b++) {
            for (Clause c : acts.get(b).clauses) {
                if (c.strikes == act && inForce(b, day, k, without)) return false;
            }
        }
        return true;
    }

    final class Asking {
        World w;
        String when;
        int person, land, place, to, otherOne = -1;
        Map<Integer, boolean[]> ahead;

        int bit(boolean b) { return b ? 1 : 0; }

        int value(String name) {
            int father = persons.get(person)[1], mother = persons.get(person)[2];
            switch (name) {
                case "here": {
                    boolean own = List.of("birth", "wed", "border").contains(when);
                    Integer at = own ? Integer.valueOf(place) : w.stayAt.get(person);
                    return bit(at != null && w.landNow.get(at) == land);
                }
                case "father": return bit(father >= 0 && w.has[father][land]);
                case "mother": return bit(mother >= 0 && w.has[mother][land]);
                case "wedded":
                    if (when.equals("birth")) {
                        return bit(father >= 0 && mother >= 0 && w.wedTo.getOrDefault(father, -1) == mother
                            && w.wedTo.getOrDefault(mother, -1) == father);
                    }
                    return bit(w.wedTo.containsKey(person));
                case "spouse":
                    if (when.equals("wed")) return bit(ahead.get(otherOne)[land]);
                    return bit(w.wedTo.containsKey(person) && w.has[w.wedTo.get(person)][land]);
                case "sex": return persons.get(person)[0];
                case "age": return w.born.containsKey(person) ? (w.day - w.born.get(person)) / 365 : 0;
                case "stay":
                    if (!w.stayAt.containsKey(person) || w.landNow.get(w.stayAt.get(person)) != land) return 0;
                    return w.day - w.stayOn.get(person);
                case "has": return bit(w.has[person][land]);
                case "others": {
                    int n = 0;
                    for (int l = 0; l < lands; l++) if (l != land && w.has[person][l]) n++;
                    return n;
                }
                case "to": return bit(when.equals("act") || to == land);
                case "year": return w.day / 365;
                default: {
                    Integer at = w.bornAt.get(person);
                    Integer on = at == null ? null : w.moved.get(at);
                    return on == null ? 99999 : w.day - on;
                }
            }
        }
    }

    final class World {
        final int k, without;
        int day;
        final boolean[][] has = new boolean[20][5];
        final Link[][] came = new Link[20][5];
        final int[][] gains = new int[20][5], losses = new int[20][5];
        final Map<Integer, Integer> born = new HashMap<>(), bornAt = new HashMap<>(), wedTo = new HashMap<>(),
            stayAt = new HashMap<>(), stayOn = new HashMap<>(), moved = new HashMap<>();
        final List<Integer> landNow = new ArrayList<>(places);

        World(int k, int[] picks, int lastDay, int without) {
            this.k = k;
            this.without = without;
            List<Integer> doubts = inDoubt(k);
            int[] on = new int[facts.size()];
            TreeSet<Integer> days = new TreeSet<>();
            for (int f = 0; f < on.length; f++) {
                int i = doubts.indexOf(f);
                on[f] = facts.get(f).days.get(i < 0 ? 0 : picks[i]);
                days.add(on[f]);
            }
            for (Act a : acts) days.add(a.from);
            for (int d : days) {
                if (d > lastDay) break;
                day = d;
                for (int a = 0; a < acts.size(); a++) {
                    if (acts.get(a).from != d || !inForce(a, d, k, without)) continue;
                    for (int p = 0; p < persons.size(); p++) ask(p, acts.get(a).land, "act", -1, -1, -1, -1, null);
                }
                for (int f = 0; f < on.length; f++) {
                    if (on[f] == d && known(facts.get(f).told, facts.get(f).back, k)) happen(f, facts.get(f));
                }
            }
        }

        void happen(int n, Fact f) {
            Map<Integer, boolean[]> ahead = new HashMap<>();
            for (int p = 0; p < persons.size(); p++) ahead.put(p, has[p].clone());
            switch (f.kind) {
                case 0:
                    if (born.containsKey(f.one)) return;
                    born.put(f.one, day);
                    bornAt.put(f.one, f.place);
                    ask(f.one, -1, "birth", f.place, -1, n, -1, ahead);
                    return;
                case 1:
                    wedTo.put(f.one, f.other);
                    wedTo.put(f.other, f.one);
                    ask(f.one, -1, "wed", f.place, -1, n, f.other, ahead);
                    ask(f.other, -1, "wed", f.place, -1, n, f.one, ahead);
                    return;
                case 5:
                    landNow.set(f.place, f.other);
                    moved.put(f.place, day);
                    for (int p = 0; p < persons.size(); p++) ask(p, -1, "border", f.place, f.other, n, -1, ahead);
                    return;
                case 6:
                    stayAt.put(f.one, f.place);
                    stayOn.put(f.one, day);
                    return;
                default:
                    ask(f.one, -1, WHENS[f.kind], -1, f.other, n, -1, ahead);
            }
        }

        void ask(int person, int onlyLand, String when, int place, int to, int fact, int otherOne,
                Map<Integer, boolean[]> ahead) {
            List<int[]> changes = new ArrayList<>();
            for (int l = 0; l < lands; l++) {
                if (onlyLand >= 0 && l != onlyLand) continue;
                Asking a = new Asking();
                a.w = this; a.when = when; a.person = person; a.land = l; a.place = place; a.to = to;
                a.otherOne = otherOne; a.ahead = ahead;
                int[] found = find(a);
                if (found != null) changes.add(new int[] {l, found[0], found[1]});
            }
            for (int[] ch : changes) {
                int l = ch[0];
                Clause c = acts.get(ch[1]).clauses.get(ch[2]);
                Link leans = null;
                int father = persons.get(person)[1], mother = persons.get(person)[2];
                if (when.equals("birth")) {
                    if (father >= 0 && has[father][l]) leans = came[father][l];
                    else if (mother >= 0 && has[mother][l]) leans = came[mother][l];
                } else if (when.equals("wed") && ahead.get(otherOne)[l]) {
                    leans = came[otherOne][l];
                }
                boolean gain = c.verb.equals("gain");
                turn(person, l, gain, ch, fact, 0, leans);
                for (int p = 0; p < persons.size(); p++) {
                    int[] q = persons.get(p);
                    boolean child = q[1] >= 0 ? q[1] == person : q[2] == person;
                    if (child && born.containsKey(p) && (day - born.get(p)) / 365 < c.children && has[p][l] != gain) {
                        turn(p, l, gain, ch, fact, 1, came[person][l]);
                    }
                }
            }
        }

        int[] find(Asking a) {
            String verb = has[a.person][a.land] ? "lose" : "gain";
            for (int n = 0; n < acts.size(); n++) {
                if (acts.get(n).land != a.land || !inForce(n, day, k, without)) continue;
                List<Clause> cs = acts.get(n).clauses;
                for (int c = 0; c < cs.size(); c++) {
                    if (!cs.get(c).verb.equals(verb) || !cs.get(c).when.equals(a.when)) continue;
                    int v = cs.get(c).first.at(a);
                    if (cs.get(c).second != null && cs.get(c).second.at(a) != 0) v = 0;
                    if (v != 0) return new int[] {n, c};
                }
            }
            return null;
        }

        void turn(int p, int l, boolean gain, int[] ch, int fact, int child, Link leans) {
            has[p][l] = gain;
            if (!gain) {
                losses[p][l]++;
                return;
            }
            gains[p][l]++;
            Link x = new Link();
            x.person = p; x.day = day; x.act = ch[1]; x.clause = ch[2]; x.fact = fact; x.child = child;
            x.leans = leans;
            came[p][l] = x;
        }
    }

    // ---- asking the desk ----

    int fault() { return faultPlace; }

    boolean force(int act, int day, int k) {
        must(act >= 0 && act < acts.size() && isDay(day));
        mustEvening(k);
        return inForce(act, day, k, -1);
    }

    World wayNull(int day, int k, int without) { return new World(k, new int[3], day, without); }

    int landOf(int place, int day, int k) {
        must(isPlace(place) && isDay(day));
        mustEvening(k);
        return wayNull(day, k, -1).landNow.get(place);
    }

    int ways(int what, int k) {
        must(what >= 0 && what <= 4);
        mustEvening(k);
        List<Integer> d = inDoubt(k);
        if (what == 0) return wayPicks(k).size();
        if (what == 1) return d.size();
        return d.size() > what - 2 ? d.get(what - 2) : -1;
    }

    void mustBond(int person, int land, int day, int k) {
        must(isPerson(person) && isLand(land) && isDay(day));
        mustEvening(k);
    }

    int belongs(int person, int land, int day, int k) {
        int n = says(person, land, day, k);
        return n == 0 ? 0 : n == wayPicks(k).size() ? 1 : 2;
    }

    int says(int person, int land, int day, int k) {
        mustBond(person, land, day, k);
        int n = 0;
        for (int[] w : wayPicks(k)) if (new World(k, w, day, -1).has[person][land]) n++;
        return n;
    }

    int settles(int person, int land, int day, int k) {
        mustBond(person, land, day, k);
        int n = inDoubt(k).size();
        List<int[]> ways = wayPicks(k);
        boolean[] tells = new boolean[ways.size()];
        for (int i = 0; i < tells.length; i++) tells[i] = new World(k, ways.get(i), day, -1).has[person][land];
        int best = -1;
        for (int set = 0; set < 1 << n; set++) {
            Map<String, Boolean> seen = new HashMap<>();
            boolean alike = true;
            for (int i = 0; i < tells.length; i++) {
                StringBuilder days = new StringBuilder();
                for (int j = 0; j < n; j++) if ((set >> j & 1) == 1) days.append(ways.get(i)[j]).append(',');
                Boolean was = seen.put(days.toString(), tells[i]);
                if (was != null && was != tells[i]) alike = false;
            }
            if (alike && (best < 0 || better(set, best))) best = set;
        }
        return best;
    }

    static boolean better(int set, int than) {
        int a = Integer.bitCount(set), b = Integer.bitCount(than);
        if (a != b) return a < b;
        int differ = Integer.lowestOneBit(set ^ than);
        return (set & differ) != 0;
    }

    int lands(int person, int day, int way, int k) {
        must(isPerson(person) && isDay(day));
        mustEvening(k);
        List<int[]> ways = wayPicks(k);
        must(way >= 0 && way < ways.size());
        World w = new World(k, ways.get(way), day, -1);
        int bits = 0;
        for (int l = 0; l < 5; l++) if (w.has[person][l]) bits += 1 << l;
        return bits;
    }

    int chain(int person, int land, int day, int i, int what, int k) {
        must(what >= 0 && what <= 5);
        mustBond(person, land, day, k);
        World w = wayNull(day, k, -1);
        List<Link> links = new ArrayList<>();
        for (Link x = w.has[person][land] ? w.came[person][land] : null; x != null && links.size() < 40; x = x.leans) {
            links.add(x);
        }
        if (i == -1) return links.size();
        must(i >= 0 && i < links.size());
        Link x = links.get(i);
        return new int[] {x.person, x.day, x.act, x.clause, x.fact, x.child}[what];
    }

    int times(int person, int land, int day, int what, int k) {
        must(what == 0 || what == 1);
        mustBond(person, land, day, k);
        World w = wayNull(day, k, -1);
        return what == 0 ? w.gains[person][land] : w.losses[person][land];
    }

    int ifStruck(int act, int day, int what, int k) {
        must(act >= 0 && act < acts.size() && isDay(day) && (what == 0 || what == 1));
        mustEvening(k);
        Act a = acts.get(act);
        if (!known(a.told, a.back, k)) return 0;
        World with = wayNull(day, k, -1), without = wayNull(day, k, act);
        int n = 0;
        for (int p = 0; p < persons.size(); p++) {
            boolean had = with.has[p][a.land], has = without.has[p][a.land];
            if (what == 0 ? has && !had : had && !has) n++;
        }
        return n;
    }

    int count(int what) {
        must(what >= 0 && what <= 6);
        return new int[] {tonight, lands, places.size(), persons.size(), facts.size(), acts.size(), tape.length}[what];
    }
}
