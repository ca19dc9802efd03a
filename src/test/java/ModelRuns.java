import java.util.ArrayList;
import java.util.List;
import java.util.Random;

/** Random runs, the same each time, in which LandBonds answers as Model does (promises 1 to 22). */
public final class ModelRuns {
    private static final String[] VALUES = Model.VALUES.toArray(new String[0]);
    private static final String[] STRANGE = {"?", "A", "foo", "andor", "1234567", "#", ")", "(", ";", "not", "gain",
        "<", "=", "+", "-", "*", "/", "123456", "99999", "00000", "\t", "\u00e9", "\n", "strike 3", "children", "unless", "or",
        "\r", "\u0000", "`", "{", "@", "_"};
    /** Clauses by which many bonds come and go, so that chains grow and doubts tell. */
    private static final String[] LIVELY = {"gain birth father or mother or here;", "gain birth here and not father;",
        "gain wed spouse;", "gain wed not sex and spouse children 20;", "lose wed not spouse;", "lose wed others;",
        "gain oath to;", "lose oath not to children 18;", "gain choose to children 30;", "lose choose others or to;",
        "gain serve 300<stay;", "lose serve sex;", "gain border to and here;", "lose border not to children 9;",
        "gain border moved<2000;", "gain act here;", "lose act not here and age<40;", "gain act father+mother;",
        "lose border others and year<30;", "gain oath wedded;", "lose serve not wedded;", "gain serve spouse or to;",
        "gain birth wedded unless sex;", "gain wed wedded and here;", "gain border has=0 and stay;"};
    private static int wrong = 0;
    private Random random;
    private LandBonds x;
    private Model m;
    private final List<String> log = new ArrayList<>();
    private int calls;
    private int style;

    public static void main(String[] args) {
        int runs = args.length > 0 && args[0].matches("[0-9]+") ? Integer.parseInt(args[0]) : 1000;
        int first = args.length > 1 ? Integer.parseInt(args[1]) : 1;
        for (int seed = first; seed < first + runs && wrong == 0; seed++) new ModelRuns().run(seed);
        System.out.println(wrong == 0 ? "ModelRuns: " + runs + " runs as due" : "ModelRuns: wrong");
        if (wrong != 0) System.exit(1);
    }

    private int upTo(int n) { return random.nextInt(n); }
    private String oneOf(String... all) { return all[upTo(all.length)]; }

    private void both(String call, Calls.Call ours, Calls.Call due) {
        calls++;
        long a = Calls.outcome(ours), b = Calls.outcome(due);
        log.add(call + " -> " + Calls.told(a));
        if (a == b) return;
        wrong++;
        for (String s : log) System.out.println(s);
        System.out.println("   due was " + Calls.told(b));
        throw new IllegalStateException("not as due: " + call);
    }

    private void run(int seed) {
        random = new Random(seed);
        x = new LandBonds();
        m = new Model();
        style = upTo(4);
        int lands = 1 + upTo(style == 1 ? 5 : 2), places = 1 + upTo(6), persons = 2 + upTo(style == 0 ? 5 : style == 3 ? 3 : 12);
        for (int i = 0; i < lands; i++) land();
        for (int i = 0; i < places; i++) place(upTo(lands + 1) - 1);
        for (int i = 0; i < persons; i++) person(upTo(2), upTo(i + 1) - 1, upTo(i + 1) - 1);
        int steps = 40 + upTo(120);
        for (int i = 0; i < steps && calls < 480; i++) step(lands);
        for (int i = 0; i < 60 && calls < 500; i++) ask();
    }

    private void land() { both("land()", () -> x.land(), () -> m.land()); }
    private void place(int l) { both("place(" + l + ")", () -> x.place(l), () -> m.place(l)); }

    private void person(int s, int f, int o) {
        both("person(" + s + ", " + f + ", " + o + ")", () -> x.person(s, f, o), () -> m.person(s, f, o));
    }

    private int day() {
        switch (upTo(style > 1 ? 12 : 6)) {
            case 0: return upTo(73000);
            case 1: return 365 * upTo(40) + upTo(3) - 1 < 0 ? 0 : 365 * upTo(40);
            case 2: return 7300 + 365 * upTo(9);
            default: return style > 1 ? 500 * upTo(12) : 500 * upTo(40);
        }
    }

    /** Mostly a number that there is, at times one that there isn't. */
    private int number(int count) {
        int k = upTo(60);
        if (k == 0) return -1;
        if (k == 1) return count;
        if (k == 2) return random.nextInt();
        return count == 0 ? 0 : upTo(count);
    }

    private void step(int lands) {
        int k = upTo(20);
        if (k < 9) {
            fact();
        } else if (k < 11) {
            int f = number(m.facts.size()), d = day();
            both("also(" + f + ", " + d + ")", () -> x.also(f, d), () -> m.also(f, d));
        } else if (k < 15) {
            act(lands);
        } else if (k == 15) {
            boolean a = upTo(2) == 0;
            int n = number(a ? m.acts.size() : m.facts.size());
            both("back(" + a + ", " + n + ")", () -> x.back(a, n) ? 1 : 0, () -> m.back(a, n) ? 1 : 0);
        } else if (k == 16) {
            int n = upTo(30) == 0 ? upTo(1200) - 100 : upTo(3);
            both("evenings(" + n + ")", () -> x.evenings(n), () -> m.evenings(n));
        } else if (k == 17 && upTo(4) == 0) {
            person(upTo(3), number(m.persons.size()), number(m.persons.size()));
        } else {
            ask();
        }
    }

    private void fact() {
        int kind = upTo(50) == 0 ? upTo(12) - 3 : style == 1 && upTo(2) == 0 ? 5 : upTo(7);
        int one = number(m.persons.size());
        int other = kind == 1 ? number(m.persons.size()) : number(m.lands);
        int place = number(m.places.size());
        int d = upTo(100) == 0 ? random.nextInt() : day();
        both("fact(" + kind + ", " + one + ", " + other + ", " + place + ", " + d + ")",
            () -> x.fact(kind, one, other, place, d), () -> m.fact(kind, one, other, place, d));
    }

    private void act(int lands) {
        StringBuilder text = new StringBuilder();
        int clauses = upTo(25) == 0 ? 13 : 1 + upTo(6);
        for (int i = 0; i < clauses && text.length() < 420; i++) clause(text);
        if (upTo(8) == 0) {
            int at = upTo(text.length() + 1);
            text.insert(at, oneOf(STRANGE));
        }
        if (upTo(30) == 0) text.setLength(upTo(text.length() + 1));
        if (text.length() > 500) text.setLength(500);
        int[] n = Calls.numbers(text.toString());
        for (int i = 0; i < n.length; i += 5) feed(n[i], n[i + 1], n[i + 2], n[i + 3], n[i + 4]);
        int l = number(lands), length = upTo(40) == 0 ? upTo(600) - 20 : text.length();
        int from = upTo(3) == 0 ? 0 : day(), to = upTo(4) == 0 ? day() : Math.min(72999, from + upTo(60000));
        int until = upTo(60) == 0 ? 73000 : to;
        log.add("   " + text);
        both("act(" + l + ", " + length + ", " + from + ", " + until + ")",
            () -> x.act(l, length, from, until), () -> m.act(l, length, from, until));
        both("fault()", () -> x.fault(), () -> m.fault());
        if (m.tape.length > 0) both("act", () -> x.act(0, 0, 0, -1), () -> m.act(0, 0, 0, -1));
    }

    private void feed(int a, int b, int c, int d, int e) {
        both("feed", () -> x.feed(a, b, c, d, e), () -> m.feed(a, b, c, d, e));
    }

    private void clause(StringBuilder t) {
        if (upTo(20) == 0 && !m.acts.isEmpty()) {
            t.append("strike ").append(upTo(m.acts.size())).append(oneOf(";", " ; ", ";\n"));
            return;
        }
        if (style > 1 && upTo(6) > 0) {
            t.append(oneOf(LIVELY));
            return;
        }
        t.append(oneOf("gain ", "gain ", "lose ")).append(oneOf(Model.WHENS)).append(' ');
        expr(t, 0);
        if (upTo(5) == 0) {
            t.append(" unless ");
            expr(t, 0);
        }
        if (upTo(3) == 0) t.append(" children ").append(upTo(40));
        t.append(oneOf(";", " ; ", ";\n"));
    }

    private void expr(StringBuilder t, int within) {
        int terms = 1 + (upTo(4) == 0 ? 1 : 0) + (upTo(12) == 0 ? 2 : 0);
        for (int i = 0; i < terms; i++) {
            if (i > 0) t.append(oneOf(" and ", " or "));
            for (int n = upTo(20) == 0 ? upTo(9) : upTo(4) == 0 ? 1 : 0; n > 0; n--) t.append("not ");
            sum(t, within);
            if (upTo(4) == 0) {
                t.append(oneOf("<", "=", " < "));
                sum(t, within);
            }
        }
    }

    private void sum(StringBuilder t, int within) {
        int parts = upTo(4) == 0 ? 2 + upTo(2) : 1;
        for (int i = 0; i < parts; i++) {
            if (i > 0) t.append(oneOf("+", "-", "*", "/", " - ", " / "));
            int k = upTo(12);
            if (k == 0 && within < 7 && t.length() < 400) {
                t.append('(');
                expr(t, within + 1);
                t.append(')');
            } else if (k < 4) {
                t.append(oneOf("0", "1", "2", "20", "700", "365", "99999", "3", "12"));
            } else {
                t.append(oneOf(VALUES));
            }
        }
    }

    private int askedDay;
    private int askedEvening;

    /** At times on the day and evening asked of last, so that nothing old may stand in the answer. */
    private void ask() {
        boolean again = upTo(3) > 0;
        int p = number(m.persons.size()), l = number(m.lands);
        int d = again ? askedDay : upTo(60) == 0 ? random.nextInt() : day();
        int k = again ? askedEvening : upTo(40) == 0 ? m.tonight + 1 : upTo(40) == 0 ? -1
            : upTo(2) == 0 ? m.tonight : upTo(m.tonight + 1);
        askedDay = d;
        askedEvening = k;
        int a = number(m.acts.size()), s = number(m.places.size());
        String bond = p + ", " + l + ", " + d + ", ";
        switch (upTo(12)) {
            case 0:
                both("force(" + a + ", " + d + ", " + k + ")", () -> x.force(a, d, k) ? 1 : 0, () -> m.force(a, d, k) ? 1 : 0);
                break;
            case 1:
                both("landOf(" + s + ", " + d + ", " + k + ")", () -> x.landOf(s, d, k), () -> m.landOf(s, d, k));
                break;
            case 2: {
                int what = upTo(7) - 1;
                both("ways(" + what + ", " + k + ")", () -> x.ways(what, k), () -> m.ways(what, k));
                int c = upTo(9) - 1;
                both("count(" + c + ")", () -> x.count(c), () -> m.count(c));
                break;
            }
            case 3: {
                int w = number(Calls.outcome(() -> m.ways(0, k)) > 27 ? 3 : m.ways(0, k));
                both("lands(" + p + ", " + d + ", " + w + ", " + k + ")", () -> x.lands(p, d, w, k), () -> m.lands(p, d, w, k));
                break;
            }
            case 4: case 5: {
                long links = Calls.outcome(() -> m.chain(p, l, d, -1, 0, k));
                both("chain(" + bond + "-1, 0, " + k + ")", () -> x.chain(p, l, d, -1, 0, k), () -> m.chain(p, l, d, -1, 0, k));
                for (int i = 0; i <= links && i < 4; i++) {
                    int at = i, what = upTo(40) == 0 ? upTo(20) - 10 : upTo(6);
                    both("chain(" + bond + at + ", " + what + ", " + k + ")",
                        () -> x.chain(p, l, d, at, what, k), () -> m.chain(p, l, d, at, what, k));
                }
                break;
            }
            case 6: {
                int what = upTo(20) == 0 ? upTo(5) - 2 : upTo(2);
                both("times(" + bond + what + ", " + k + ")", () -> x.times(p, l, d, what, k), () -> m.times(p, l, d, what, k));
                break;
            }
            case 7: {
                int what = upTo(20) == 0 ? upTo(5) - 2 : upTo(2);
                both("ifStruck(" + a + ", " + d + ", " + what + ", " + k + ")",
                    () -> x.ifStruck(a, d, what, k), () -> m.ifStruck(a, d, what, k));
                break;
            }
            case 8:
                both("says(" + bond + k + ")", () -> x.says(p, l, d, k), () -> m.says(p, l, d, k));
                break;
            case 9: case 10:
                both("settles(" + bond + k + ")", () -> x.settles(p, l, d, k), () -> m.settles(p, l, d, k));
                break;
            default:
                both("belongs(" + bond + k + ")", () -> x.belongs(p, l, d, k), () -> m.belongs(p, l, d, k));
        }
    }
}
