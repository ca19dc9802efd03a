import java.util.Arrays;
import java.util.NoSuchElementException;

/**
 * Who has a bond to which land, as persons, places, facts and acts tell it.
 *
 * The desk's rows hold what was told. An answer is worked out anew from day 0 (World), in one
 * way of the facts in doubt (Doubts); all rows are made once, so that calls make no objects.
 */
public final class LandBonds {
    public static final int NONE = -1;

    private static final int LAST_DAY = 72999;
    private static final int LAST_EVENING = 999;
    private static final int YEAR = 365;
    private static final int MAX_LANDS = 5;
    private static final int MAX_PLACES = 12;
    private static final int MAX_PERSONS = 20;
    private static final int MAX_FACTS = 100;
    private static final int MAX_DAYS = 3;
    private static final int MAX_DOUBTS = 3;
    private static final int MAX_WAYS = 27;
    private static final int MAX_ACTS = 12;
    private static final int MAX_CLAUSES = 12;
    private static final int MAX_TEXT = 500;
    private static final int MAX_LINKS = 40;
    private static final int REFUSED = -9;

    /* Kinds of facts; those that are asked of bear the same numbers as their words (WHEN). */
    private static final int BIRTH = 0;
    private static final int WEDDING = 1;
    private static final int BORDER = 5;
    private static final int STAY = 6;
    private static final int ACT_BEGINS = 6;

    /* Kinds of clauses. */
    private static final int GAIN = 0;
    private static final int LOSE = 1;
    private static final int STRIKE = 2;

    /* Codes of an expression: a number is itself, a value is -1 and below, a sign is minus its byte. */
    private static final int FIRST_VALUE_CODE = -1;
    private static final int LAST_VALUE_CODE = -13;
    private static final int CODE_AND = -201;
    private static final int CODE_OR = -202;
    private static final int CODE_NOT = -203;

    /* All sets of three facts in doubt: small ones first, of like ones those with the first fact. */
    private static final int[] SETS = {0, 1, 2, 4, 3, 5, 6, 7};

    private final Places places;
    private final Persons persons;
    private final Facts facts;
    private final Acts acts;
    private final Parser parser;
    private final Doubts doubts;
    private final World world;
    private final byte[] tape;
    private final int[] bondsByWay;
    private int taped;
    private int tonight;
    private int waysKey;

    public LandBonds() {
        places = new Places();
        persons = new Persons();
        facts = new Facts();
        acts = new Acts();
        parser = new Parser(acts);
        doubts = new Doubts(facts);
        world = new World(places, persons, facts, acts, doubts);
        tape = new byte[MAX_TEXT];
        bondsByWay = new int[MAX_WAYS * MAX_PERSONS];
        waysKey = NONE;
    }

    public int land() {
        if (places.lands >= MAX_LANDS) {
            return NONE;
        }
        forget();
        places.lands++;
        return places.lands - 1;
    }

    public int place(int land) {
        if (places.count >= MAX_PLACES || land < NONE || land >= places.lands) {
            return NONE;
        }
        forget();
        places.firstLand[places.count] = land;
        places.count++;
        return places.count - 1;
    }

    public int person(int sex, int father, int mother) {
        boolean told = (sex == 0 || sex == 1) && isParent(father) && isParent(mother);
        if (!told || persons.count >= MAX_PERSONS) {
            return NONE;
        }
        forget();
        persons.sex[persons.count] = sex;
        persons.father[persons.count] = father;
        persons.mother[persons.count] = mother;
        persons.count++;
        return persons.count - 1;
    }

    public int fact(int kind, int one, int other, int place, int day) throws NoSuchElementException {
        needNumber(kind, STAY + 1);
        if (kind != BORDER) {
            needNumber(one, persons.count);
        }
        if (kind == WEDDING) {
            needNumber(other, persons.count);
        }
        boolean toLand = kind > WEDDING && kind < STAY;
        if (toLand) {
            needNumber(other, places.lands);
        }
        boolean atPlace = kind < 2 || kind >= BORDER;
        if (atPlace) {
            needNumber(place, places.count);
        }
        if (facts.count >= MAX_FACTS || !isDay(day) || kind == WEDDING && one == other) {
            return NONE;
        }
        forget();
        int number = facts.count;
        facts.kind[number] = kind;
        facts.one[number] = kind == BORDER ? NONE : one;
        facts.other[number] = toLand || kind == WEDDING ? other : NONE;
        facts.place[number] = atPlace ? place : NONE;
        facts.told[number] = tonight;
        facts.takenBack[number] = NONE;
        facts.days[number * MAX_DAYS] = day;
        facts.dayCount[number] = 1;
        facts.count++;
        return number;
    }

    public int also(int fact, int day) throws NoSuchElementException {
        needNumber(fact, facts.count);
        int known = facts.dayCount[fact];
        if (known >= MAX_DAYS || !isDay(day) || facts.couldBeOn(fact, day)) {
            return NONE;
        }
        forget();
        facts.days[fact * MAX_DAYS + known] = day;
        facts.dayCount[fact] = known + 1;
        return known + 1;
    }

    public boolean back(boolean act, int number) throws NoSuchElementException {
        needNumber(number, act ? acts.count : facts.count);
        int[] takenBack = act ? acts.takenBack : facts.takenBack;
        if (takenBack[number] != NONE) {
            return false;
        }
        forget();
        takenBack[number] = tonight;
        return true;
    }

    public int evenings(int n) throws IllegalArgumentException {
        if (n < 0 || n > LAST_EVENING - tonight) {
            throw new IllegalArgumentException();
        }
        tonight += n;
        return tonight;
    }

    public int feed(int a, int b, int c, int d, int e) {
        if (taped + 20 > MAX_TEXT) {
            return NONE;
        }
        putBytes(a);
        putBytes(b);
        putBytes(c);
        putBytes(d);
        putBytes(e);
        return taped;
    }

    public int act(int land, int n, int from, int to) throws NoSuchElementException, IllegalArgumentException {
        needNumber(land, places.lands);
        if (n < 0 || n > taped) {
            throw new IllegalArgumentException();
        }
        taped = 0;
        parser.faultPlace = NONE;
        if (acts.count >= MAX_ACTS || !isDay(from) || !isDay(to)) {
            return REFUSED;
        }
        int fault = parser.read(tape, n, land);
        if (fault != 0) {
            return -1 - fault;
        }
        forget();
        int number = acts.count;
        acts.from[number] = from;
        acts.to[number] = to;
        acts.told[number] = tonight;
        acts.takenBack[number] = NONE;
        acts.count++;
        return number;
    }

    public int fault() {
        return parser.faultPlace;
    }

    public boolean force(int act, int day, int k) throws NoSuchElementException, IllegalArgumentException {
        needNumber(act, acts.count);
        needDay(day);
        needEvening(k);
        return (acts.inForce(acts.known(k), day) >> act & 1) == 1;
    }

    public int landOf(int place, int day, int k) throws NoSuchElementException, IllegalArgumentException {
        needNumber(place, places.count);
        needDay(day);
        needEvening(k);
        int land = places.firstLand[place];
        int latest = NONE;
        for (int f = 0; f < facts.count; f++) {
            int on = facts.days[f * MAX_DAYS];
            if (facts.kind[f] == BORDER && facts.place[f] == place && facts.isKnown(f, k) && on <= day && on >= latest) {
                land = facts.other[f];
                latest = on;
            }
        }
        return land;
    }

    public int ways(int what, int k) throws NoSuchElementException, IllegalArgumentException {
        needNumber(what, 2 + MAX_DOUBTS);
        needEvening(k);
        doubts.find(k);
        if (what == 0) {
            return doubts.ways;
        }
        if (what == 1) {
            return doubts.count;
        }
        return what - 2 < doubts.count ? doubts.fact[what - 2] : NONE;
    }

    public int belongs(int person, int land, int day, int k) throws NoSuchElementException, IllegalArgumentException {
        needBond(person, land, day, k);
        workOutWays(day, k);
        int saying = waysWith(person, land);
        if (saying == 0) {
            return 0;
        }
        return saying == doubts.ways ? 1 : 2;
    }

    public int says(int person, int land, int day, int k) throws NoSuchElementException, IllegalArgumentException {
        needBond(person, land, day, k);
        workOutWays(day, k);
        return waysWith(person, land);
    }

    public int settles(int person, int land, int day, int k) throws NoSuchElementException, IllegalArgumentException {
        needBond(person, land, day, k);
        workOutWays(day, k);
        for (int set : SETS) {
            if (isSettledBy(set, person, land)) {
                return set;
            }
        }
        return (1 << doubts.count) - 1;
    }

    public int lands(int person, int day, int way, int k) throws NoSuchElementException, IllegalArgumentException {
        needNumber(person, persons.count);
        needDay(day);
        needEvening(k);
        doubts.find(k);
        needNumber(way, doubts.ways);
        world.live(way, day, NONE);
        return world.bonds[person];
    }

    public int chain(int person, int land, int day, int i, int what, int k) throws NoSuchElementException, IllegalArgumentException {
        needNumber(what, 6);
        needBond(person, land, day, k);
        doubts.find(k);
        world.live(0, day, NONE);
        boolean has = (world.bonds[person] >> land & 1) == 1;
        int entry = has ? world.ledger.came[person * MAX_LANDS + land] : NONE;
        int links = world.ledger.linksFrom(entry);
        if (i == NONE) {
            return links;
        }
        needNumber(i, links);
        return world.ledger.tell(entry, i, what);
    }

    public int times(int person, int land, int day, int what, int k) throws NoSuchElementException, IllegalArgumentException {
        needNumber(what, 2);
        needBond(person, land, day, k);
        doubts.find(k);
        world.live(0, day, NONE);
        int slot = person * MAX_LANDS + land;
        return what == 0 ? world.ledger.gains[slot] : world.ledger.losses[slot];
    }

    public int ifStruck(int act, int day, int what, int k) throws NoSuchElementException, IllegalArgumentException {
        needNumber(act, acts.count);
        needDay(day);
        needNumber(what, 2);
        needEvening(k);
        if ((acts.known(k) >> act & 1) == 0) {
            return 0;
        }
        doubts.find(k);
        world.live(0, day, NONE);
        int before = world.holders(acts.land[act]);
        world.live(0, day, act);
        int struck = world.holders(acts.land[act]);
        return Integer.bitCount(what == 0 ? struck & ~before : before & ~struck);
    }

    public int count(int what) throws NoSuchElementException {
        switch (what) {
            case 0:
                return tonight;
            case 1:
                return places.lands;
            case 2:
                return places.count;
            case 3:
                return persons.count;
            case 4:
                return facts.count;
            case 5:
                return acts.count;
            case 6:
                return taped;
            default:
                throw new NoSuchElementException();
        }
    }

    private static void needNumber(int number, int count) throws NoSuchElementException {
        if (number < 0 || number >= count) {
            throw new NoSuchElementException();
        }
    }

    private static void needDay(int day) throws NoSuchElementException {
        if (!isDay(day)) {
            throw new NoSuchElementException();
        }
    }

    private void needEvening(int k) throws IllegalArgumentException {
        if (k < 0 || k > tonight) {
            throw new IllegalArgumentException();
        }
    }

    private void needBond(int person, int land, int day, int k) throws NoSuchElementException, IllegalArgumentException {
        needNumber(person, persons.count);
        needNumber(land, places.lands);
        needDay(day);
        needEvening(k);
    }

    private static boolean isDay(int day) {
        return day >= 0 && day <= LAST_DAY;
    }

    private boolean isParent(int number) {
        return number >= NONE && number < persons.count;
    }

    private void putBytes(int number) {
        for (int shift = 24; shift >= 0; shift -= 8) {
            if (taped < tape.length) {
                tape[taped] = (byte) (number >> shift);
                taped++;
            }
        }
    }

    /** What was worked out no longer holds once something is told. */
    private void forget() {
        waysKey = NONE;
        world.lived = NONE;
    }

    private void workOutWays(int day, int k) {
        doubts.find(k);
        int key = day * (LAST_EVENING + 1) + k;
        if (key == waysKey) {
            return;
        }
        for (int way = 0; way < doubts.ways && way < MAX_WAYS; way++) {
            world.live(way, day, NONE);
            System.arraycopy(world.bonds, 0, bondsByWay, way * MAX_PERSONS, MAX_PERSONS);
        }
        waysKey = key;
    }

    private int waysWith(int person, int land) {
        int saying = 0;
        for (int way = 0; way < doubts.ways && way < MAX_WAYS; way++) {
            saying += bondsByWay[way * MAX_PERSONS + person] >> land & 1;
        }
        return saying;
    }

    /** Ways with like days for the set's facts tell alike if each tells what the first of them tells. */
    private boolean isSettledBy(int set, int person, int land) {
        for (int way = 0; way < doubts.ways && way < MAX_WAYS; way++) {
            int first = doubts.firstLike(way, set);
            int differs = bondsByWay[way * MAX_PERSONS + person] ^ bondsByWay[first * MAX_PERSONS + person];
            if ((differs >> land & 1) == 1) {
                return false;
            }
        }
        return true;
    }

    /** Lands and places. */
    private static final class Places {
        final int[] firstLand = new int[MAX_PLACES];
        int count;
        int lands;
    }

    private static final class Persons {
        final int[] sex = new int[MAX_PERSONS];
        final int[] father = new int[MAX_PERSONS];
        final int[] mother = new int[MAX_PERSONS];
        int count;

        boolean isChildOf(int person, int parent) {
            int leading = father[person] == NONE ? mother[person] : father[person];
            return leading == parent;
        }
    }

    /** Facts as told; what a kind has not is NONE. */
    private static final class Facts {
        final int[] kind = new int[MAX_FACTS];
        final int[] one = new int[MAX_FACTS];
        final int[] other = new int[MAX_FACTS];
        final int[] place = new int[MAX_FACTS];
        final int[] told = new int[MAX_FACTS];
        final int[] takenBack = new int[MAX_FACTS];
        final int[] days = new int[MAX_FACTS * MAX_DAYS];
        final int[] dayCount = new int[MAX_FACTS];
        int count;

        boolean isKnown(int fact, int evening) {
            return told[fact] <= evening && (takenBack[fact] == NONE || takenBack[fact] > evening);
        }

        boolean couldBeOn(int fact, int day) {
            for (int i = 0; i < dayCount[fact]; i++) {
                if (days[fact * MAX_DAYS + i] == day) {
                    return true;
                }
            }
            return false;
        }
    }

    /** Acts as told. Clauses of an act stand from act * MAX_CLAUSES on, all expressions in one row. */
    private static final class Acts {
        final int[] land = new int[MAX_ACTS];
        final int[] from = new int[MAX_ACTS];
        final int[] to = new int[MAX_ACTS];
        final int[] told = new int[MAX_ACTS];
        final int[] takenBack = new int[MAX_ACTS];
        final int[] strikes = new int[MAX_ACTS];
        final int[] whens = new int[MAX_ACTS];
        final int[] clauses = new int[MAX_ACTS];
        final int[] kind = new int[MAX_ACTS * MAX_CLAUSES];
        final int[] when = new int[MAX_ACTS * MAX_CLAUSES];
        final int[] start = new int[MAX_ACTS * MAX_CLAUSES];
        final int[] middle = new int[MAX_ACTS * MAX_CLAUSES];
        final int[] end = new int[MAX_ACTS * MAX_CLAUSES];
        final int[] children = new int[MAX_ACTS * MAX_CLAUSES];
        final int[] code = new int[MAX_ACTS * MAX_TEXT];
        int count;

        /** Acts that are known, as bits. */
        int known(int evening) {
            int bits = 0;
            for (int a = 0; a < count; a++) {
                if (told[a] <= evening && (takenBack[a] == NONE || takenBack[a] > evening)) {
                    bits |= 1 << a;
                }
            }
            return bits;
        }

        /** Acts that are in force, as bits. An act strikes only lower ones, so the highest is certain. */
        int inForce(int known, int day) {
            int bits = 0;
            int struck = 0;
            for (int a = count - 1; a >= 0; a--) {
                boolean stands = (known >> a & 1) == 1 && (struck >> a & 1) == 0;
                if (stands && from[a] <= day && day < to[a]) {
                    bits |= 1 << a;
                    struck |= strikes[a];
                }
            }
            return bits;
        }

        /** Those of some acts that have a clause with a word. */
        int having(int bits, int word) {
            int those = 0;
            for (int a = 0; a < count; a++) {
                if ((bits >> a & 1) == 1 && (whens[a] >> word & 1) == 1) {
                    those |= 1 << a;
                }
            }
            return those;
        }
    }

    /** Reads an act's text into the rows behind the last act; it stands there once the act is counted. */
    private static final class Parser {
        private static final String WORDS = "gain lose strike unless children or and not birth wed oath choose serve border act here father mother wedded spouse sex age stay has others to year moved ";
        private static final String SIGNS = ";()+-*/<=";
        private static final int UNLESS = 3;
        private static final int CHILDREN = 4;
        private static final int OR = 5;
        private static final int AND = 6;
        private static final int NOT = 7;
        private static final int FIRST_WHEN = 8;
        private static final int FIRST_VALUE = 15;
        private static final int UNKNOWN = 28;
        /* A token that is a sign is told by its byte, which is above these. */
        private static final int END = 0;
        private static final int STRANGE = 1;
        private static final int NUMBER = 2;
        private static final int WORD = 3;
        private static final int MAX_DIGITS = 5;
        private static final int MAX_WITHIN = 6;
        private static final int MAX_NOTS = 6;

        private final Acts acts;
        private byte[] text;
        private int length;
        private int at;
        private int token;
        private int tokenStart;
        private int digits;
        private int number;
        private int word;
        private int size;
        private int wrong;
        int faultPlace;

        Parser(Acts acts) {
            this.acts = acts;
            text = new byte[0];
            faultPlace = NONE;
        }

        /** The fault of the tape's first bytes as an act of a land, 0 without. */
        int read(byte[] tape, int bytes, int land) {
            text = tape;
            length = Math.min(bytes, tape.length);
            at = 0;
            wrong = 0;
            int act = acts.count;
            if (act >= MAX_ACTS) {
                return 0;
            }
            size = act * MAX_TEXT;
            acts.land[act] = land;
            acts.strikes[act] = 0;
            acts.whens[act] = 0;
            acts.clauses[act] = 0;
            next();
            for (int n = 0; n <= MAX_CLAUSES && token != END && wrong == 0; n++) {
                readClause(act, n);
            }
            return wrong;
        }

        private void readClause(int act, int n) {
            if (token != WORD || word > STRIKE) {
                fail(1);
                return;
            }
            if (n >= MAX_CLAUSES) {
                fail(2);
                return;
            }
            int clause = act * MAX_CLAUSES + n;
            acts.kind[clause] = word;
            acts.clauses[act] = n + 1;
            next();
            if (acts.kind[clause] == STRIKE) {
                readStrike(act);
            } else {
                readBond(act, clause);
            }
            expect(';');
        }

        private void readStrike(int act) {
            if (!isNumberHere()) {
                return;
            }
            if (number >= act || acts.land[number] != acts.land[act]) {
                fail(4);
                return;
            }
            acts.strikes[act] |= 1 << number;
            next();
        }

        private void readBond(int act, int clause) {
            if (token != WORD || word < FIRST_WHEN || word >= FIRST_VALUE) {
                fail(1);
                return;
            }
            acts.when[clause] = word - FIRST_WHEN;
            acts.whens[act] |= 1 << (word - FIRST_WHEN);
            next();
            acts.start[clause] = size;
            readEither(0);
            acts.middle[clause] = size;
            if (isWord(UNLESS)) {
                next();
                readEither(0);
            }
            acts.end[clause] = size;
            acts.children[clause] = NONE;
            if (isWord(CHILDREN)) {
                next();
                if (isNumberHere()) {
                    acts.children[clause] = number;
                    next();
                }
            }
        }

        /** EXPR. How many others it is within is the guard on the depth. */
        private void readEither(int within) {
            if (within >= MAX_WITHIN) {
                fail(token == NUMBER || token == WORD || token == '(' ? 2 : 1);
                return;
            }
            readBoth(within);
            for (int n = 0; n < MAX_TEXT && isWord(OR); n++) {
                next();
                readBoth(within);
                put(CODE_OR);
            }
        }

        private void readBoth(int within) {
            readTest(within);
            for (int n = 0; n < MAX_TEXT && isWord(AND); n++) {
                next();
                readTest(within);
                put(CODE_AND);
            }
        }

        private void readTest(int within) {
            int nots = 0;
            for (; nots <= MAX_NOTS && isWord(NOT); nots++) {
                if (nots == MAX_NOTS) {
                    fail(2);
                    return;
                }
                next();
            }
            readSum(within);
            if (isSign('<') || isSign('=')) {
                int sign = token;
                next();
                readSum(within);
                put(-sign);
            }
            for (int n = 0; n < nots; n++) {
                put(CODE_NOT);
            }
        }

        private void readSum(int within) {
            readProduct(within);
            for (int n = 0; n < MAX_TEXT && (isSign('+') || isSign('-')); n++) {
                int sign = token;
                next();
                readProduct(within);
                put(-sign);
            }
        }

        private void readProduct(int within) {
            readPart(within);
            for (int n = 0; n < MAX_TEXT && (isSign('*') || isSign('/')); n++) {
                int sign = token;
                next();
                readPart(within);
                put(-sign);
            }
        }

        private void readPart(int within) {
            if (isSign('(')) {
                next();
                readEither(within + 1);
                expect(')');
            } else if (token == WORD) {
                if (word < FIRST_VALUE || word >= UNKNOWN) {
                    fail(3);
                    return;
                }
                put(FIRST_VALUE_CODE - (word - FIRST_VALUE));
                next();
            } else if (isNumberHere()) {
                put(number);
                next();
            }
        }

        private boolean isWord(int which) {
            return wrong == 0 && token == WORD && word == which;
        }

        private boolean isSign(int sign) {
            return wrong == 0 && token == sign;
        }

        /** Whether a number stands here, as it must; it's a fault if not. */
        private boolean isNumberHere() {
            if (token != NUMBER) {
                fail(1);
            } else if (digits > MAX_DIGITS) {
                fail(2);
            }
            return wrong == 0;
        }

        private void expect(int sign) {
            if (token == sign) {
                next();
            } else {
                fail(1);
            }
        }

        private void fail(int fault) {
            if (wrong == 0) {
                wrong = fault;
                faultPlace = tokenStart;
            }
        }

        private void put(int code) {
            if (size >= 0 && size < acts.code.length) {
                acts.code[size] = code;
                size++;
            }
        }

        private void next() {
            while (at < length && (text[at] == 32 || text[at] == 10)) {
                at++;
            }
            tokenStart = at;
            if (at >= length) {
                token = END;
            } else if (isLetter(text[at])) {
                token = WORD;
                while (at < length && isLetter(text[at])) {
                    at++;
                }
                word = wordNumber();
            } else if (isDigit(text[at])) {
                token = NUMBER;
                readDigits();
            } else {
                boolean isSign = text[at] > 0 && SIGNS.indexOf((char) text[at]) >= 0;
                token = isSign ? text[at] : STRANGE;
                at++;
            }
        }

        private void readDigits() {
            digits = 0;
            number = 0;
            while (at < length && isDigit(text[at])) {
                digits++;
                if (digits <= MAX_DIGITS) {
                    number = number * 10 + (text[at] - '0');
                }
                at++;
            }
        }

        /** Which of WORDS, each with a blank behind it, is the token that ends here. */
        private int wordNumber() {
            int which = 0;
            int like = tokenStart;
            for (int i = 0; i < WORDS.length(); i++) {
                char sign = WORDS.charAt(i);
                if (sign != ' ') {
                    like = like >= 0 && like < at && text[like] == sign ? like + 1 : NONE;
                } else if (like == at) {
                    return which;
                } else {
                    which++;
                    like = tokenStart;
                }
            }
            return UNKNOWN;
        }

        private static boolean isLetter(int sign) {
            return sign >= 'a' && sign <= 'z';
        }

        private static boolean isDigit(int sign) {
            return sign >= '0' && sign <= '9';
        }
    }

    /** The facts in doubt as known on an evening, and the ways to choose their days. */
    private static final class Doubts {
        final int[] fact = new int[MAX_DOUBTS];
        final int[] size = new int[MAX_DOUBTS];
        final int[] step = new int[MAX_DOUBTS];
        private final Facts facts;
        int count;
        int ways;
        int evening;

        Doubts(Facts facts) {
            this.facts = facts;
            ways = 1;
        }

        void find(int k) {
            evening = k;
            count = 0;
            for (int f = 0; f < facts.count && count < MAX_DOUBTS; f++) {
                if (facts.dayCount[f] > 1 && facts.isKnown(f, k)) {
                    fact[count] = f;
                    count++;
                }
            }
            ways = 1;
            for (int i = MAX_DOUBTS - 1; i >= 0; i--) {
                size[i] = i < count ? facts.dayCount[fact[i]] : 1;
                step[i] = ways;
                ways *= size[i];
            }
        }

        /** Which of its days the i-th fact in doubt has in a way. */
        private int pick(int i, int way) {
            return step[i] > 0 && size[i] > 0 ? way / step[i] % size[i] : 0;
        }

        int dayIn(int way, int f) {
            for (int i = 0; i < count; i++) {
                if (fact[i] == f) {
                    return facts.days[f * MAX_DAYS + pick(i, way)];
                }
            }
            return facts.days[f * MAX_DAYS];
        }

        /** The first of the ways in which the set's facts have the same days as in this one. */
        int firstLike(int way, int set) {
            int first = 0;
            for (int i = 0; i < count; i++) {
                if ((set >> i & 1) == 1) {
                    first += pick(i, way) * step[i];
                }
            }
            return first;
        }
    }

    /** The happenings of one way, sorted by day, then acts by number, then facts by number. */
    private static final class Calendar {
        private static final int RANKS = 128;
        private final int[] keys = new int[MAX_FACTS + MAX_ACTS];
        int count;

        void clear() {
            count = 0;
        }

        void putAct(int act, int day) {
            put(day * RANKS + act);
        }

        void putFact(int fact, int day) {
            put(day * RANKS + MAX_ACTS + fact);
        }

        private void put(int key) {
            if (count >= keys.length) {
                return;
            }
            int i = count;
            while (i > 0 && keys[i - 1] > key) {
                keys[i] = keys[i - 1];
                i--;
            }
            keys[i] = key;
            count++;
        }

        int dayAt(int i) {
            return keys[i] / RANKS;
        }

        /** The fact that happens, NONE if an act begins. */
        int factAt(int i) {
            return Math.max(keys[i] % RANKS - MAX_ACTS, NONE);
        }

        int actAt(int i) {
            return keys[i] % RANKS;
        }
    }

    /** How bonds came and went in one way. Entries of gains tell what a link of a chain tells. */
    private static final class Ledger {
        private static final int ENTRY = 7;
        private static final int LEANS = 6;
        final int[] came = new int[MAX_PERSONS * MAX_LANDS];
        final int[] gains = new int[MAX_PERSONS * MAX_LANDS];
        final int[] losses = new int[MAX_PERSONS * MAX_LANDS];
        private int[] rows = new int[64 * ENTRY];
        private int count;

        void clear() {
            count = 0;
            Arrays.fill(came, NONE);
            Arrays.fill(gains, 0);
            Arrays.fill(losses, 0);
        }

        /** Each of the happenings brings at most two changes of a bond, so the rows stay small. */
        int gain(int holder, int land, int day, int clause, int fact, int child, int leans) {
            int at = count * ENTRY;
            if (at + ENTRY > rows.length) {
                rows = Arrays.copyOf(rows, rows.length * 2);
            }
            rows[at] = holder;
            rows[at + 1] = day;
            rows[at + 2] = clause / MAX_CLAUSES;
            rows[at + 3] = clause % MAX_CLAUSES;
            rows[at + 4] = fact;
            rows[at + 5] = child;
            rows[at + LEANS] = leans;
            came[holder * MAX_LANDS + land] = count;
            gains[holder * MAX_LANDS + land]++;
            count++;
            return count - 1;
        }

        int linksFrom(int entry) {
            int links = 0;
            for (int e = entry; e >= 0 && e < count && links < MAX_LINKS; e = rows[e * ENTRY + LEANS]) {
                links++;
            }
            return links;
        }

        /** What the i-th link from an entry on tells. */
        int tell(int entry, int i, int what) {
            int e = entry;
            for (int n = 0; n < i && e >= 0 && e < count; n++) {
                e = rows[e * ENTRY + LEANS];
            }
            return e >= 0 && e < count && what >= 0 && what < LEANS ? rows[e * ENTRY + what] : NONE;
        }
    }

    /** What happens just now: what clauses ask of it, and of whom and which lands it is asked. */
    private static final class Happening {
        int day;
        int when;
        int place;
        int toLand;
        int fact;
        /** Acts in force with a clause for it, as bits: without any, nobody need be asked. */
        int asked;
        /** NONE: each person is asked. */
        int one;
        /** A wedding's other one (NONE), asked last; so what both had ahead of it is kept. */
        int other;
        int oneHad;
        int otherHad;
        int firstLand;
        int lastLand;
    }

    /** One way, worked out from day 0 to the end of a day. */
    private static final class World {
        private static final int HERE = 0;
        private static final int FATHER = 1;
        private static final int MOTHER = 2;
        private static final int WEDDED = 3;
        private static final int SPOUSE = 4;
        private static final int SEX = 5;
        private static final int AGE = 6;
        private static final int STAYS = 7;
        private static final int HAS = 8;
        private static final int OTHERS = 9;
        private static final int TO = 10;
        private static final int YEAR_NOW = 11;
        private static final int NEVER_MOVED = 99999;
        /* Six expressions within one another leave at most five operands each. */
        private static final int STACK = 64;

        private final Persons persons;
        private final Places places;
        private final Facts facts;
        private final Acts acts;
        private final Doubts doubts;
        private final Calendar calendar = new Calendar();
        private final Happening now = new Happening();
        final Ledger ledger = new Ledger();
        /** A person's bonds: lands as bits. */
        final int[] bonds = new int[MAX_PERSONS];
        private final int[] born = new int[MAX_PERSONS];
        private final int[] bornAt = new int[MAX_PERSONS];
        private final int[] spouse = new int[MAX_PERSONS];
        private final int[] stayAt = new int[MAX_PERSONS];
        private final int[] staySince = new int[MAX_PERSONS];
        private final int[] landOfPlace = new int[MAX_PLACES];
        private final int[] movedOn = new int[MAX_PLACES];
        private final int[] chosen = new int[MAX_LANDS];
        private final int[] stack = new int[STACK];
        private int known;
        /** What stands in the rows (evening, way, day, act without), NONE if it no longer holds. */
        long lived;

        World(Places places, Persons persons, Facts facts, Acts acts, Doubts doubts) {
            this.places = places;
            this.persons = persons;
            this.facts = facts;
            this.acts = acts;
            this.doubts = doubts;
            lived = NONE;
        }

        /** Works out a way of the evening's doubts up to a day, an act (or NONE) taken as not known. */
        void live(int way, int lastDay, int without) {
            long life = ((long) doubts.evening * MAX_WAYS + way) * (LAST_DAY + 1) + lastDay;
            life = life * (MAX_ACTS + 1) + (without + 1);
            if (life == lived) {
                return;
            }
            lived = life;
            known = acts.known(doubts.evening);
            if (without != NONE) {
                known &= ~(1 << without);
            }
            begin();
            putHappenings(way, lastDay);
            for (int i = 0; i < calendar.count; i++) {
                now.day = calendar.dayAt(i);
                now.fact = calendar.factAt(i);
                if (now.fact == NONE) {
                    beginAct(calendar.actAt(i));
                } else {
                    happen(now.fact);
                }
                int people = countAsked();
                for (int n = 0; n < people; n++) {
                    ask(askedAt(n));
                }
            }
        }

        /** Who has a bond to a land, as bits. */
        int holders(int land) {
            int bits = 0;
            for (int p = 0; p < persons.count; p++) {
                bits |= (bonds[p] >> land & 1) << p;
            }
            return bits;
        }

        private void begin() {
            ledger.clear();
            Arrays.fill(bonds, 0);
            Arrays.fill(born, NONE);
            Arrays.fill(bornAt, NONE);
            Arrays.fill(spouse, NONE);
            Arrays.fill(stayAt, NONE);
            Arrays.fill(staySince, NONE);
            Arrays.fill(movedOn, NONE);
            System.arraycopy(places.firstLand, 0, landOfPlace, 0, MAX_PLACES);
        }

        private void putHappenings(int way, int lastDay) {
            calendar.clear();
            for (int a = 0; a < acts.count; a++) {
                if ((known >> a & 1) == 1 && acts.from[a] <= lastDay) {
                    calendar.putAct(a, acts.from[a]);
                }
            }
            for (int f = 0; f < facts.count; f++) {
                int on = doubts.dayIn(way, f);
                if (on <= lastDay && facts.isKnown(f, doubts.evening)) {
                    calendar.putFact(f, on);
                }
            }
        }

        private void beginAct(int act) {
            int force = acts.inForce(known, now.day);
            boolean begins = (force >> act & 1) == 1;
            now.when = ACT_BEGINS;
            now.place = NONE;
            now.toLand = acts.land[act];
            now.asked = begins ? acts.having(force, ACT_BEGINS) : 0;
            now.one = NONE;
            now.other = NONE;
            now.firstLand = acts.land[act];
            now.lastLand = acts.land[act];
        }

        private void happen(int f) {
            int kind = facts.kind[f];
            now.when = kind;
            now.place = facts.place[f];
            now.toLand = kind == WEDDING ? NONE : facts.other[f];
            now.asked = kind == STAY ? 0 : acts.having(acts.inForce(known, now.day), kind);
            now.one = facts.one[f];
            now.other = kind == WEDDING ? facts.other[f] : NONE;
            now.firstLand = 0;
            now.lastLand = places.lands - 1;
            if (kind == BIRTH) {
                bear(now.one);
            } else if (kind == WEDDING) {
                wed(now.one, now.other);
            } else if (kind == BORDER) {
                landOfPlace[now.place] = now.toLand;
                movedOn[now.place] = now.day;
            } else if (kind == STAY) {
                stayAt[now.one] = now.place;
                staySince[now.one] = now.day;
            }
        }

        private void bear(int one) {
            if (born[one] != NONE) {
                now.asked = 0;
                return;
            }
            born[one] = now.day;
            bornAt[one] = now.place;
        }

        private void wed(int one, int other) {
            spouse[one] = other;
            spouse[other] = one;
            now.oneHad = bonds[one];
            now.otherHad = bonds[other];
        }

        private int countAsked() {
            if (now.asked == 0) {
                return 0;
            }
            if (now.one == NONE) {
                return persons.count;
            }
            return now.other == NONE ? 1 : 2;
        }

        private int askedAt(int i) {
            if (now.one == NONE) {
                return i;
            }
            return i == 0 ? now.one : now.other;
        }

        /** Nothing changes before all lands are asked: each land sees the bonds as they were. */
        private void ask(int person) {
            for (int land = now.firstLand; land <= now.lastLand && land < MAX_LANDS; land++) {
                chosen[land] = choose(person, land);
            }
            for (int land = now.firstLand; land <= now.lastLand && land < MAX_LANDS; land++) {
                if (chosen[land] != NONE) {
                    change(person, land, chosen[land]);
                }
            }
        }

        /** The clause that gives or takes the bond, NONE without. */
        private int choose(int person, int land) {
            int kind = (bonds[person] >> land & 1) == 1 ? LOSE : GAIN;
            for (int a = 0; a < acts.count; a++) {
                if ((now.asked >> a & 1) == 0 || acts.land[a] != land) {
                    continue;
                }
                for (int n = 0; n < acts.clauses[a]; n++) {
                    int c = a * MAX_CLAUSES + n;
                    boolean isAsked = acts.kind[c] == kind && acts.when[c] == now.when;
                    if (isAsked && evaluate(acts.start[c], acts.middle[c], person, land) != 0
                            && evaluate(acts.middle[c], acts.end[c], person, land) == 0) {
                        return c;
                    }
                }
            }
            return NONE;
        }

        /** What an expression's codes come to; 0 if there are none. */
        private int evaluate(int start, int end, int person, int land) {
            int top = 0;
            for (int i = start; i < end; i++) {
                int code = acts.code[i];
                if (code >= LAST_VALUE_CODE && top < STACK) {
                    stack[top] = code >= 0 ? code : valueOf(FIRST_VALUE_CODE - code, person, land);
                    top++;
                } else if (code == CODE_NOT && top > 0) {
                    stack[top - 1] = stack[top - 1] == 0 ? 1 : 0;
                } else if (top > 1) {
                    top--;
                    stack[top - 1] = join(code, stack[top - 1], stack[top]);
                }
            }
            return top > 0 ? stack[0] : 0;
        }

        private static int join(int code, int left, int right) {
            switch (code) {
                case -'+':
                    return left + right;
                case -'-':
                    return left - right;
                case -'*':
                    return left * right;
                case -'/':
                    return right == 0 ? 0 : left / right;
                case -'<':
                    return left < right ? 1 : 0;
                case -'=':
                    return left == right ? 1 : 0;
                case CODE_AND:
                    return left != 0 && right != 0 ? 1 : 0;
                default:
                    return left != 0 || right != 0 ? 1 : 0;
            }
        }

        private int valueOf(int value, int person, int land) {
            int father = persons.father[person];
            int mother = persons.mother[person];
            switch (value) {
                case HERE:
                    boolean ownPlace = now.when == BIRTH || now.when == WEDDING || now.when == BORDER;
                    int place = ownPlace ? now.place : stayAt[person];
                    return place >= 0 && landOfPlace[place] == land ? 1 : 0;
                case FATHER:
                    return father >= 0 ? bonds[father] >> land & 1 : 0;
                case MOTHER:
                    return mother >= 0 ? bonds[mother] >> land & 1 : 0;
                case WEDDED:
                    if (now.when != BIRTH) {
                        return spouse[person] >= 0 ? 1 : 0;
                    }
                    boolean both = father >= 0 && mother >= 0;
                    return both && spouse[father] == mother && spouse[mother] == father ? 1 : 0;
                case SPOUSE:
                    if (now.when == WEDDING) {
                        return (person == now.one ? now.otherHad : now.oneHad) >> land & 1;
                    }
                    return spouse[person] >= 0 ? bonds[spouse[person]] >> land & 1 : 0;
                case SEX:
                    return persons.sex[person];
                case AGE:
                    return born[person] >= 0 ? (now.day - born[person]) / YEAR : 0;
                case STAYS:
                    boolean ours = stayAt[person] >= 0 && landOfPlace[stayAt[person]] == land;
                    return ours ? now.day - staySince[person] : 0;
                case HAS:
                    return bonds[person] >> land & 1;
                case OTHERS:
                    return Integer.bitCount(bonds[person] & ~(1 << land));
                case TO:
                    return now.toLand == land ? 1 : 0;
                case YEAR_NOW:
                    return now.day / YEAR;
                default:
                    boolean moved = bornAt[person] >= 0 && movedOn[bornAt[person]] >= 0;
                    return moved ? now.day - movedOn[bornAt[person]] : NEVER_MOVED;
            }
        }

        private void change(int person, int land, int clause) {
            boolean gains = acts.kind[clause] == GAIN;
            int entry = NONE;
            if (gains) {
                bonds[person] |= 1 << land;
                entry = ledger.gain(person, land, now.day, clause, now.fact, 0, leansOn(person, land));
            } else {
                bonds[person] &= ~(1 << land);
                ledger.losses[person * MAX_LANDS + land]++;
            }
            for (int c = 0; c < persons.count; c++) {
                boolean young = born[c] >= 0 && (now.day - born[c]) / YEAR < acts.children[clause];
                boolean has = (bonds[c] >> land & 1) == 1;
                if (!young || has == gains || !persons.isChildOf(c, person)) {
                    continue;
                }
                bonds[c] ^= 1 << land;
                if (gains) {
                    ledger.gain(c, land, now.day, clause, now.fact, 1, entry);
                } else {
                    ledger.losses[c * MAX_LANDS + land]++;
                }
            }
        }

        /** The ledger's entry of the bond on which one that is gained now leans, NONE without. */
        private int leansOn(int person, int land) {
            int father = persons.father[person];
            int mother = persons.mother[person];
            int spouseHad = person == now.one ? now.otherHad : now.oneHad;
            int on = NONE;
            if (now.when == WEDDING && (spouseHad >> land & 1) == 1) {
                on = spouse[person];
            } else if (now.when == BIRTH && father >= 0 && (bonds[father] >> land & 1) == 1) {
                on = father;
            } else if (now.when == BIRTH && mother >= 0 && (bonds[mother] >> land & 1) == 1) {
                on = mother;
            }
            return on >= 0 ? ledger.came[on * MAX_LANDS + land] : NONE;
        }
    }
}
