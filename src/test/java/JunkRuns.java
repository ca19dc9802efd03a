import java.util.NoSuchElementException;
import java.util.Random;

/**
 * Wrong inputs of every sort: texts of loose tokens and bytes are held against Model, and no call
 * throws but what its head names, whatever the numbers.
 */
public final class JunkRuns {
    private static final String[] TOKENS = {"gain", "lose", "strike", "unless", "children", "or", "and", "not", "birth", "wed",
        "act", "here", "father", "moved", "year", "stay", "5", "0", "12345", "123456", "99999999999", ";", "(", ")", "+", "-",
        "*", "/", "<", "=", " ", "\n", "x", "gainer", "A", "\t", "\u0000", "\u00ff", "((((((", "not not not not not not", "1", "1"};
    private static final int[] EDGES = {-1, 0, 1, 2, 3, 4, 5, 6, 7, 11, 12, 13, 19, 20, 21, 26, 27, 39, 40, 41, 99, 100, 101, 499,
        500, 501, 999, 1000, 72998, 72999, 73000, Integer.MAX_VALUE, Integer.MIN_VALUE, Integer.MAX_VALUE - 1, -2, -73000};
    private static int wrong = 0;
    private static final Random random = new Random(11);

    public static void main(String[] args) {
        for (int i = 0; i < 20000 && wrong == 0; i++) soup();
        for (int i = 0; i < 400 && wrong == 0; i++) junk();
        System.out.println(wrong == 0 ? "JunkRuns: all as due" : "JunkRuns: wrong");
        if (wrong != 0) System.exit(1);
    }

    private static String token() { return TOKENS[random.nextInt(TOKENS.length)]; }

    /** A text that begins well and goes astray somewhere. */
    private static String text() {
        StringBuilder t = new StringBuilder();
        String[] starts = {"", "gain act 1;", "lose birth 2<3 unless 1 children 4;", "gain wed ", "gain act ((", "strike 0;"};
        int whole = random.nextInt(4) == 0 ? 12 : random.nextInt(3);
        for (int i = 0; i < whole; i++) t.append(starts[1 + random.nextInt(2)]);
        t.append(starts[random.nextInt(starts.length)]);
        for (int n = random.nextInt(12); n > 0; n--) t.append(token()).append(random.nextInt(3) == 0 ? "" : " ");
        if (t.length() > 500) t.setLength(500);
        return t.toString();
    }

    private static void soup() {
        LandBonds x = new LandBonds();
        Model m = new Model();
        x.land();
        m.land();
        x.act(0, 0, 0, 1);
        m.act(0, 0, 0, 1);
        String text = text();
        int[] n = Calls.numbers(text);
        for (int i = 0; i < n.length; i += 5) m.feed(n[i], n[i + 1], n[i + 2], n[i + 3], n[i + 4]);
        int due = m.act(0, text.length(), 0, 1);
        int got = Calls.act(x, 0, text, 0, 1);
        if (got != due || x.fault() != m.fault()) {
            wrong++;
            System.out.println("'" + text + "' answered " + got + " at " + x.fault() + ", due is " + due + " at " + m.fault());
        }
    }

    private static int number() {
        return random.nextInt(8) == 0 ? random.nextInt() : EDGES[random.nextInt(random.nextInt(3) == 0 ? EDGES.length : 9)];
    }

    private static final boolean[] NEITHER = {false, false}, SUCH = {true, false}, ILLEGAL = {false, true}, BOTH = {true, true};

    private static void may(String call, boolean[] may, Calls.Call what) {
        try {
            what.answer();
        } catch (RuntimeException e) {
            boolean such = e.getClass() == NoSuchElementException.class && may[0];
            boolean illegal = e.getClass() == IllegalArgumentException.class && may[1];
            if (such || illegal) return;
            wrong++;
            System.out.println(call + " throws " + e);
        }
    }

    private static void junk() {
        LandBonds x = new LandBonds();
        for (int i = 0; i < 500 && wrong == 0; i++) {
            int a = number(), b = number(), c = number(), d = number(), e = number(), f = number();
            switch (random.nextInt(26)) {
                case 0: may("land", NEITHER, () -> x.land()); break;
                case 1: may("place", NEITHER, () -> x.place(a)); break;
                case 2: may("person", NEITHER, () -> x.person(a, b, c)); break;
                case 3: case 4: case 5: case 6: may("fact", SUCH, () -> x.fact(a, b, c, d, e)); break;
                case 7: may("also", SUCH, () -> x.also(a, b)); break;
                case 8: may("back", SUCH, () -> x.back((b & 1) == 0, a) ? 1 : 0); break;
                case 9: may("evenings", ILLEGAL, () -> x.evenings(a)); break;
                case 10: may("feed", NEITHER, () -> x.feed(a, b, c, d, e)); break;
                case 11: may("act", BOTH, () -> x.act(a, b, c, d)); break;
                case 12: case 13:
                    String text = text();
                    int land = Math.max(0, Math.min(a, x.count(1) - 1));
                    if (x.count(1) > 0) may("act " + text, BOTH, () -> Calls.act(x, land, text, b, c));
                    break;
                case 14: may("fault", NEITHER, () -> x.fault()); break;
                case 15: may("force", BOTH, () -> x.force(a, b, c) ? 1 : 0); break;
                case 16: may("landOf", BOTH, () -> x.landOf(a, b, c)); break;
                case 17: may("ways", BOTH, () -> x.ways(a, b)); break;
                case 18: may("belongs", BOTH, () -> x.belongs(a, b, c, d)); break;
                case 19: may("says", BOTH, () -> x.says(a, b, c, d)); break;
                case 20: may("settles", BOTH, () -> x.settles(a, b, c, d)); break;
                case 21: may("lands", BOTH, () -> x.lands(a, b, c, d)); break;
                case 22: may("chain", BOTH, () -> x.chain(a, b, c, d, e, f)); break;
                case 23: may("times", BOTH, () -> x.times(a, b, c, d, e)); break;
                case 24: may("ifStruck", BOTH, () -> x.ifStruck(a, b, c, d)); break;
                default: may("count", SUCH, () -> x.count(a)); break;
            }
        }
    }
}
