/** Each promise with ordinary inputs, the edges that the document names, and wrong inputs; answers worked out by hand. */
public final class Promises implements Kinds {
    private static int wrong = 0;

    private static void due(String what, long got, long want) {
        if (got == want) return;
        wrong++;
        System.out.println(what + " answered " + Calls.told(got) + ", due is " + Calls.told(want));
    }

    private static void dueOf(String what, Calls.Call call, long want) {
        due(what, Calls.outcome(call), want);
    }

    public static void main(String[] args) {
        newObject();
        land();
        place();
        person();
        fact();
        also();
        back();
        evenings();
        feed();
        actTape();
        actFaults();
        actFaultsNested();
        fault();
        force();
        landOf();
        ways();
        belongs();
        says();
        settles();
        lands();
        chain();
        chainOfWeddings();
        times();
        ifStruck();
        count();
        happenings();
        happeningsSideBySide();
        children();
        values();
        valuesOfTime();
        arithmetic();
        knownOnAnEvening();
        toldBetweenAnswers();
        System.out.println(wrong == 0 ? "Promises: all as due" : "Promises: " + wrong + " wrong");
        if (wrong != 0) System.exit(1);
    }

    private static LandBonds desk(int lands, int places, int persons) {
        return Calls.desk(lands, places, persons);
    }

    private static int act(LandBonds x, int land, String text, int from, int to) {
        return Calls.act(x, land, text, from, to);
    }

    /** Whether a person gains land 0's bond by an act that begins on day 1000. */
    private static long gainsByAct(LandBonds x, int person, String expr) {
        int a = act(x, 0, "gain act " + expr + ";", 1000, 1001);
        long has = x.belongs(person, 0, 1000, 0);
        x.back(true, a);
        return a < 0 ? a : has;
    }

    private static void newObject() {
        due("NONE", LandBonds.NONE, -1);
        LandBonds x = new LandBonds();
        for (int i = 0; i <= 6; i++) due("new count " + i, x.count(i), 0);
        due("new fault", x.fault(), -1);
        due("new ways", x.ways(0, 0), 1);
        dueOf("new belongs", () -> x.belongs(0, 0, 0, 0), NO_SUCH);
        dueOf("new landOf", () -> x.landOf(0, 0, 0), NO_SUCH);
        LandBonds y = new LandBonds();
        x.land();
        due("objects are apart", y.count(1), 0);
    }

    private static void land() {
        LandBonds x = new LandBonds();
        for (int i = 0; i < 5; i++) due("land", x.land(), i);
        due("sixth land", x.land(), -1);
        due("five lands", x.count(1), 5);
    }

    private static void place() {
        LandBonds x = new LandBonds();
        due("place of no land", x.place(0), -1);
        due("place of none", x.place(-1), 0);
        x.land();
        due("place", x.place(0), 1);
        due("place of land 1", x.place(1), -1);
        due("place of land -2", x.place(-2), -1);
        for (int i = 2; i < 12; i++) due("place", x.place(0), i);
        due("13th place", x.place(0), -1);
        due("12 places", x.count(2), 12);
        due("its land", x.landOf(1, 0, 0), 0);
        due("no land", x.landOf(0, 0, 0), -1);
    }

    private static void person() {
        LandBonds x = new LandBonds();
        due("person", x.person(0, -1, -1), 0);
        due("its own father", x.person(0, 1, -1), -1);
        due("its own mother", x.person(0, -1, 1), -1);
        due("sex 2", x.person(2, -1, -1), -1);
        due("sex -1", x.person(-1, -1, -1), -1);
        due("father -2", x.person(0, -2, -1), -1);
        due("mother -2", x.person(0, -1, -2), -1);
        due("father and mother one", x.person(1, 0, 0), 1);
        for (int i = 2; i < 20; i++) due("person", x.person(1, i - 1, i - 2), i);
        due("21st person", x.person(0, -1, -1), -1);
        due("20 persons", x.count(3), 20);
    }

    private static void fact() {
        LandBonds x = desk(1, 1, 2);
        dueOf("kind 7", () -> x.fact(7, 0, 0, 0, 0), NO_SUCH);
        dueOf("kind -1", () -> x.fact(-1, 0, 0, 0, 0), NO_SUCH);
        due("birth, other any", x.fact(BIRTH, 0, 99, 0, 0), 0);
        due("wedding", x.fact(WEDDING, 0, 1, 0, END), 1);
        due("oath, place any", x.fact(OATH, 0, 0, -7, 0), 2);
        due("choice, place any", x.fact(CHOICE, 0, 0, 88, 0), 3);
        due("service, place any", x.fact(SERVICE, 0, 0, 88, 0), 4);
        due("border, one any", x.fact(BORDER, -9, 0, 0, 0), 5);
        due("stay, other any", x.fact(STAY, 1, -9, 0, 0), 6);
        for (int kind = 0; kind <= 6; kind++) {
            int k = kind;
            if (kind != BORDER) dueOf("one, kind " + k, () -> x.fact(k, 2, 0, 0, 0), NO_SUCH);
            if (kind != BORDER) dueOf("one -1, kind " + k, () -> x.fact(k, -1, 0, 0, 0), NO_SUCH);
            if (kind >= 1 && kind <= 5) dueOf("other, kind " + k, () -> x.fact(k, 0, 2, 0, 0), NO_SUCH);
            if (kind >= 1 && kind <= 5) dueOf("other -1, kind " + k, () -> x.fact(k, 0, -1, 0, 0), NO_SUCH);
            boolean placed = kind < 2 || kind > 4;
            if (placed) dueOf("place, kind " + k, () -> x.fact(k, 0, k == 1 ? 1 : 0, 1, 0), NO_SUCH);
            if (placed) dueOf("place -1, kind " + k, () -> x.fact(k, 0, k == 1 ? 1 : 0, -1, 0), NO_SUCH);
        }
        dueOf("land 1 of an oath", () -> x.fact(OATH, 0, 1, 0, 0), NO_SUCH);
        due("wed to itself", x.fact(WEDDING, 1, 1, 0, 0), -1);
        due("day -1", x.fact(BIRTH, 0, 0, 0, -1), -1);
        due("day 73000", x.fact(BIRTH, 0, 0, 0, 73000), -1);
        due("still 7", x.count(4), 7);
        for (int i = 7; i < 100; i++) due("fact", x.fact(OATH, 0, 0, 0, i), i);
        due("101st fact", x.fact(OATH, 0, 0, 0, 5), -1);
        dueOf("101st fact of nobody", () -> x.fact(OATH, 5, 0, 0, 5), NO_SUCH);
        due("100 facts", x.count(4), 100);
    }

    private static void also() {
        LandBonds x = desk(1, 1, 1);
        dueOf("no fact", () -> x.also(0, 1), NO_SUCH);
        dueOf("fact -1", () -> x.also(-1, 1), NO_SUCH);
        x.fact(OATH, 0, 0, 0, 10);
        due("the same day", x.also(0, 10), -1);
        due("day -1", x.also(0, -1), -1);
        due("day 73000", x.also(0, 73000), -1);
        due("second", x.also(0, END), 2);
        due("second again", x.also(0, END), -1);
        due("third", x.also(0, 0), 3);
        due("fourth", x.also(0, 5), -1);
        due("three ways", x.ways(0, 0), 3);
        act(x, 0, "gain oath 1;", 0, END);
        due("way 0 as told", x.lands(0, 10, 0, 0), 1);
        due("way 0 ahead", x.lands(0, 9, 0, 0), 0);
        due("way 1 late", x.lands(0, END - 1, 1, 0), 0);
        due("way 2 at once", x.lands(0, 0, 2, 0), 1);
        x.evenings(3);
        x.fact(OATH, 0, 0, 0, 20);
        x.evenings(3);
        x.also(1, 30);
        due("in doubt as soon as known", x.ways(1, 3), 2);
        due("not ahead", x.ways(1, 2), 1);
    }

    private static void back() {
        LandBonds x = desk(1, 1, 1);
        dueOf("no fact", () -> x.back(false, 0) ? 1 : 0, NO_SUCH);
        dueOf("no act", () -> x.back(true, 0) ? 1 : 0, NO_SUCH);
        dueOf("-1", () -> x.back(true, -1) ? 1 : 0, NO_SUCH);
        act(x, 0, "gain oath 1;", 0, END);
        x.fact(OATH, 0, 0, 0, 10);
        x.fact(OATH, 0, 0, 0, 20);
        x.evenings(2);
        due("fact back", x.back(false, 0) ? 1 : 0, 1);
        due("fact back again", x.back(false, 0) ? 1 : 0, 0);
        due("ahead of it", x.belongs(0, 0, 15, 1), 1);
        due("from then on", x.belongs(0, 0, 15, 2), 0);
        due("the other one", x.belongs(0, 0, 20, 2), 1);
        dueOf("act 1", () -> x.back(true, 1) ? 1 : 0, NO_SUCH);
        x.evenings(1);
        due("act back", x.back(true, 0) ? 1 : 0, 1);
        due("act back again", x.back(true, 0) ? 1 : 0, 0);
        due("act ahead", x.belongs(0, 0, 20, 2), 1);
        due("act gone", x.belongs(0, 0, 20, 3), 0);
        due("force ahead", x.force(0, 20, 2) ? 1 : 0, 1);
        due("force gone", x.force(0, 20, 3) ? 1 : 0, 0);
        int f = x.fact(OATH, 0, 0, 0, 1);
        x.also(f, 2);
        x.back(false, f);
        due("told and back on one evening", x.ways(1, 3), 0);
        due("still counted", x.count(4), 3);
    }

    private static void evenings() {
        LandBonds x = new LandBonds();
        due("none", x.evenings(0), 0);
        due("one", x.evenings(1), 1);
        dueOf("-1", () -> x.evenings(-1), ILLEGAL);
        dueOf("999", () -> x.evenings(999), ILLEGAL);
        dueOf("the greatest", () -> x.evenings(Integer.MAX_VALUE), ILLEGAL);
        due("998", x.evenings(998), 999);
        dueOf("1000", () -> x.evenings(1), ILLEGAL);
        due("none more", x.evenings(0), 999);
        due("tonight", x.count(0), 999);
    }

    private static void feed() {
        LandBonds x = desk(1, 0, 1);
        int gain = 0x6761696e, act = 0x20616374, one = 0x20313b20, blank = 0x20202020;
        due("feed", x.feed(gain, act, one, blank, blank), 20);
        due("bytes in their order", x.act(0, 20, 5, 6), 0);
        due("it gains", x.belongs(0, 0, 5, 0), 1);
        due("empty", x.count(6), 0);
        for (int i = 1; i <= 25; i++) due("feed", x.feed(blank, blank, blank, blank, -1), 20 * i);
        due("too many", x.feed(0, 0, 0, 0, 0), -1);
        due("none came", x.count(6), 500);
        due("the last byte is none", x.act(0, 500, 0, 1), -2);
        due("where", x.fault(), 16);
    }

    private static void actTape() {
        LandBonds x = desk(1, 0, 1);
        x.feed(0x20202020, 0x20202020, 0x20202020, 0x20202020, 0x20202020);
        dueOf("no land", () -> x.act(1, 99, 0, 1), NO_SUCH);
        dueOf("land -1", () -> x.act(-1, -1, 0, 1), NO_SUCH);
        dueOf("n 21", () -> x.act(0, 21, 0, 1), ILLEGAL);
        dueOf("n -1", () -> x.act(0, -1, 0, 1), ILLEGAL);
        dueOf("n -1, no days", () -> x.act(0, -1, -1, 1), ILLEGAL);
        due("nothing changes", x.count(6), 20);
        due("day -1", x.act(0, 20, -1, 5), -9);
        due("tape is empty", x.count(6), 0);
        due("day 73000", x.act(0, 0, 0, 73000), -9);
        due("from 73000", x.act(0, 0, 73000, 0), -9);
        due("to -1", x.act(0, 0, 0, -1), -9);
        due("part of the tape", act(x, 0, "gain birth 1;", 0, 1), 0);
        due("backwards", x.act(0, 0, 9, 3), 1);
        for (int i = 2; i < 12; i++) due("act", x.act(0, 0, 0, END), i);
        due("13th act", x.act(0, 0, 0, END), -9);
        due("twelve", x.count(5), 12);
        LandBonds y = desk(1, 0, 0);
        int[] n = Calls.numbers("gain birth 1; nonsense to the end of the tape");
        for (int i = 0; i < n.length; i += 5) y.feed(n[i], n[i + 1], n[i + 2], n[i + 3], n[i + 4]);
        due("the first n bytes", y.act(0, 13, 0, 1), 0);
        due("the rest is gone", y.count(6), 0);
        LandBonds z = desk(1, 1, 1);
        act(z, 0, "gain act 1; gain act 1; foo", 0, 1);
        due("behind a fault", z.act(0, 0, 0, 1), 0);
        due("nothing is left of it", z.belongs(0, 0, 0, 0), 0);
    }

    /** The text's answer and place of fault, as an act of land 1 behind acts 0 (of land 0) and 1 (of land 1). */
    private static void faulty(String text, int kind, int place) {
        LandBonds x = desk(2, 0, 0);
        act(x, 0, "gain act 1;", 0, 1);
        act(x, 1, "gain act 1;", 0, 1);
        due("act '" + text + "'", act(x, 1, text, 0, 1), kind == 0 ? 2 : -1 - kind);
        due("fault of '" + text + "'", x.fault(), place);
        due("acts", x.count(5), kind == 0 ? 3 : 2);
    }

    private static void actFaults() {
        faulty("", 0, -1);
        faulty(" \n ", 0, -1);
        faulty("gainbirth 1;", 1, 0);
        faulty("gain\nbirth 1;lose act 2<3 unless 1 children 5;strike 1;", 0, -1);
        faulty("gain birth1;", 0, -1);
        faulty("gain birth 1and 2or 3;", 0, -1);
        faulty("give birth 1;", 1, 0);
        faulty("1", 1, 0);
        faulty(" ;", 1, 1);
        faulty("gain", 1, 4);
        faulty("gain ", 1, 5);
        faulty("gain stay 1;", 1, 5);
        faulty("gain 5;", 1, 5);
        faulty("gain 1234567;", 1, 5);
        faulty("gain birth", 1, 10);
        faulty("gain birth;", 1, 10);
        faulty("gain birth 1", 1, 12);
        faulty("gain birth 1 1;", 1, 13);
        faulty("gain birth 1 foo;", 1, 13);
        faulty("gain birth 1 not 1;", 1, 13);
        faulty("gain birth 1<2<3;", 1, 14);
        faulty("gain birth 1=2<3;", 1, 14);
        faulty("gain birth -1;", 1, 11);
        faulty("gain birth 1+;", 1, 13);
        faulty("gain birth (1;", 1, 13);
        faulty("gain birth 1);", 1, 12);
        faulty("gain birth ();", 1, 12);
        faulty("gain birth 1 unless 2 unless 3;", 1, 22);
        faulty("gain birth (1 unless 2);", 1, 14);
        faulty("gain birth 1 children;", 1, 21);
        faulty("gain birth 1 children x;", 1, 22);
        faulty("gain birth 1 children 5 5;", 1, 24);
        faulty("gain birth 1 children 5 unless 1;", 1, 24);
        faulty("gain birth 1 children 00005;", 0, -1);
        faulty("gain birth 1 children 000005;", 2, 22);
        faulty("gain birth A;", 1, 11);
        faulty("gain birth 1\t;", 1, 12);
        faulty("gain birth \u00e9;", 1, 11);
        faulty("gain birth 99999;", 0, -1);
        faulty("gain birth 100000;", 2, 11);
        faulty("gain birth 000000;", 2, 11);
        faulty("gain birth 1 123456;", 1, 13);
        faulty("gain birth foo;", 3, 11);
        faulty("gain birth z;", 3, 11);
        faulty("gain birth a;", 3, 11);
        faulty("gain birth and;", 3, 11);
        faulty("gain birth gain;", 3, 11);
        faulty("gain birth unless 1;", 3, 11);
        faulty("gain birth heres;", 3, 11);
        faulty("gain birth her;", 3, 11);
        faulty("gain birth 1+not 1;", 3, 13);
        faulty("gain birth 1<not 1;", 3, 13);
        faulty("gain birth not or;", 3, 15);
        faulty("strike;", 1, 6);
        faulty("strike 1", 1, 8);
        faulty("strike 1 1;", 1, 9);
        faulty("strike foo;", 1, 7);
        faulty("strike 123456;", 2, 7);
        faulty("strike 2;", 4, 7);
        faulty("strike 99999;", 4, 7);
        faulty("strike 0;", 4, 7);
        faulty("strike 00001;", 0, -1);
        faulty("gain birth foo; strike 0;", 3, 11);
        faulty("strike 0; gain birth foo;", 4, 7);
        String twelve = "strike 1;".repeat(12);
        faulty(twelve, 0, -1);
        faulty(twelve + " lose act 1;", 2, 109);
        faulty(twelve + "strike 1;", 2, 108);
        faulty(twelve + "gain", 2, 108);
        faulty(twelve + "foo", 1, 108);
        faulty(twelve + ";", 1, 108);
        for (String value : "here father mother wedded spouse sex age stay has others to year moved".split(" ")) {
            faulty("gain birth " + value + ";", 0, -1);
        }
        for (String when : "birth wed oath choose serve border act".split(" ")) faulty("lose " + when + " 1;", 0, -1);
    }

    private static void actFaultsNested() {
        faulty("gain act (((((1)))));", 0, -1);
        faulty("gain act ((((((1))))));", 2, 15);
        faulty("gain act ((((((foo))))));", 2, 15);
        faulty("gain act ((((((not 1))))));", 2, 15);
        faulty("gain act (((((((1)))))));", 2, 15);
        faulty("gain act ((((((1234567))))));", 2, 15);
        faulty("gain act (((((())))));", 1, 15);
        faulty("gain act ((((((;", 1, 15);
        faulty("gain act ((((((", 1, 15);
        faulty("gain act ((((((?", 1, 15);
        faulty("gain act (((((1)))))+(((((2))))) unless (((((3)))));", 0, -1);
        faulty("gain act 1 unless ((((((3))))));", 2, 24);
        faulty("gain act not not not not not not 1;", 0, -1);
        faulty("gain act not not not not not not not 1;", 2, 33);
        faulty("gain act not not not not not not(not 1);", 0, -1);
        faulty("gain act not not not not 1 and not not not not 1;", 0, -1);
        faulty("gain act not not not not not not;", 1, 32);
    }

    private static void fault() {
        LandBonds x = desk(1, 0, 0);
        due("without", x.fault(), -1);
        act(x, 0, "  foo", 0, 1);
        due("its place", x.fault(), 2);
        dueOf("thrown", () -> x.act(0, 1, 0, 1), ILLEGAL);
        due("nothing changed", x.fault(), 2);
        x.act(0, 0, 0, 1);
        due("none again", x.fault(), -1);
        act(x, 0, " foo", 0, 1);
        due("another place", x.fault(), 1);
        act(x, 0, " foo", 0, -1);
        due("-9 has no fault", x.fault(), -1);
    }

    private static void force() {
        LandBonds x = desk(2, 0, 0);
        dueOf("no act", () -> x.force(0, 0, 0) ? 1 : 0, NO_SUCH);
        act(x, 0, "", 10, 100);
        act(x, 0, "strike 0;", 20, 40);
        act(x, 0, "strike 1;", 30, 35);
        act(x, 1, "", 50, 50);
        act(x, 1, "", 60, 50);
        dueOf("day -1", () -> x.force(0, -1, 0) ? 1 : 0, NO_SUCH);
        dueOf("day 73000", () -> x.force(0, 73000, 0) ? 1 : 0, NO_SUCH);
        dueOf("act 5", () -> x.force(5, 0, 0) ? 1 : 0, NO_SUCH);
        dueOf("evening 1", () -> x.force(0, 0, 1) ? 1 : 0, ILLEGAL);
        dueOf("evening -1", () -> x.force(0, 0, -1) ? 1 : 0, ILLEGAL);
        int[][] rows = {{0, 9, 0}, {0, 10, 1}, {0, 19, 1}, {0, 20, 0}, {0, 29, 0}, {0, 30, 1}, {0, 34, 1}, {0, 35, 0},
            {0, 39, 0}, {0, 40, 1}, {0, 99, 1}, {0, 100, 0}, {1, 19, 0}, {1, 20, 1}, {1, 30, 0}, {1, 35, 1},
            {1, 40, 0}, {2, 30, 1}, {2, 35, 0}, {3, 50, 0}, {3, 49, 0}, {4, 55, 0}, {4, 60, 0}};
        for (int[] r : rows) due("force " + r[0] + " on " + r[1], x.force(r[0], r[1], 0) ? 1 : 0, r[2]);
        x.evenings(1);
        x.back(true, 2);
        due("struck again, its striker taken back", x.force(0, 32, 1) ? 1 : 0, 0);
        due("as known ahead", x.force(0, 32, 0) ? 1 : 0, 1);
        due("an act taken back can be struck without fault", act(x, 0, "strike 2;", 0, 1), 5);
        due("not known ahead", x.force(5, 0, 0) ? 1 : 0, 0);
        due("known now", x.force(5, 0, 1) ? 1 : 0, 1);
    }

    private static void landOf() {
        LandBonds x = desk(3, 2, 0);
        dueOf("no place", () -> x.landOf(2, 0, 0), NO_SUCH);
        dueOf("place -1", () -> x.landOf(-1, 0, 0), NO_SUCH);
        dueOf("day 73000", () -> x.landOf(0, 73000, 0), NO_SUCH);
        dueOf("day -1", () -> x.landOf(0, -1, 0), NO_SUCH);
        dueOf("evening 1", () -> x.landOf(0, 0, 1), ILLEGAL);
        x.fact(BORDER, 0, 2, 0, 50);
        x.fact(BORDER, 0, 1, 0, 20);
        x.fact(BORDER, 0, 0, 0, 50);
        x.also(1, 10);
        due("at first", x.landOf(0, 19, 0), 0);
        due("as told", x.landOf(0, 20, 0), 1);
        due("the last of a day", x.landOf(0, 50, 0), 0);
        due("for good", x.landOf(0, END, 0), 0);
        due("another place", x.landOf(1, END, 0), 1);
        x.evenings(1);
        x.back(false, 2);
        due("without the last", x.landOf(0, 50, 1), 2);
        due("known ahead", x.landOf(0, 50, 0), 0);
    }

    private static void ways() {
        LandBonds x = desk(1, 1, 1);
        due("one way", x.ways(0, 0), 1);
        due("none in doubt", x.ways(1, 0), 0);
        for (int i = 2; i <= 4; i++) due("none", x.ways(i, 0), -1);
        dueOf("what 5", () -> x.ways(5, 0), NO_SUCH);
        dueOf("what -1", () -> x.ways(-1, 0), NO_SUCH);
        dueOf("evening 1", () -> x.ways(0, 1), ILLEGAL);
        for (int i = 0; i < 5; i++) {
            x.fact(OATH, 0, 0, 0, 10 * i);
            if (i != 1) x.also(i, 500 + i);
            if (i != 1 && i != 3) x.also(i, 600 + i);
        }
        due("first three", x.ways(1, 0), 3);
        due("ways", x.ways(0, 0), 18);
        due("first", x.ways(2, 0), 0);
        due("second", x.ways(3, 0), 2);
        due("third", x.ways(4, 0), 3);
        x.evenings(1);
        x.back(false, 2);
        due("the next comes up", x.ways(4, 1), 4);
        due("second now", x.ways(3, 1), 3);
        due("as it was", x.ways(3, 0), 2);
        x.back(false, 0);
        x.back(false, 3);
        due("ways of one", x.ways(0, 1), 3);
        due("one", x.ways(1, 1), 1);
    }

    private static void belongs() {
        LandBonds x = desk(2, 1, 1);
        act(x, 0, "gain oath to;", 0, END);
        x.fact(OATH, 0, 0, 0, 100);
        x.also(0, 200);
        x.also(0, 50);
        due("none", x.belongs(0, 0, 49, 0), 0);
        due("open", x.belongs(0, 0, 50, 0), 2);
        due("open", x.belongs(0, 0, 199, 0), 2);
        due("surely", x.belongs(0, 0, 200, 0), 1);
        due("another land", x.belongs(0, 1, 200, 0), 0);
        dueOf("no person", () -> x.belongs(1, 0, 0, 0), NO_SUCH);
        dueOf("person -1", () -> x.belongs(-1, 0, 0, 0), NO_SUCH);
        dueOf("no land", () -> x.belongs(0, 2, 0, 0), NO_SUCH);
        dueOf("land -1", () -> x.belongs(0, -1, 0, 0), NO_SUCH);
        dueOf("no day", () -> x.belongs(0, 0, 73000, 0), NO_SUCH);
        dueOf("day -1", () -> x.belongs(0, 0, -1, 0), NO_SUCH);
        dueOf("no evening", () -> x.belongs(0, 0, 0, 1), ILLEGAL);
        dueOf("evening -1", () -> x.belongs(0, 0, 0, -1), ILLEGAL);
    }

    private static void says() {
        LandBonds x = desk(1, 1, 1);
        act(x, 0, "gain oath 1;", 0, END);
        x.fact(OATH, 0, 0, 0, 100);
        x.also(0, 200);
        x.also(0, 50);
        x.fact(OATH, 0, 0, 0, 300);
        x.also(1, 60);
        due("says 0", x.says(0, 0, 49, 0), 0);
        due("says 2", x.says(0, 0, 50, 0), 2);
        due("says 4", x.says(0, 0, 60, 0), 4);
        due("says 5", x.says(0, 0, 100, 0), 5);
        due("says 6", x.says(0, 0, 200, 0), 6);
        dueOf("no person", () -> x.says(1, 0, 0, 0), NO_SUCH);
        dueOf("no land", () -> x.says(0, 1, 0, 0), NO_SUCH);
        dueOf("no day", () -> x.says(0, 0, -1, 0), NO_SUCH);
        dueOf("no evening", () -> x.says(0, 0, 0, 1), ILLEGAL);
    }

    private static void settles() {
        LandBonds x = desk(1, 1, 3);
        act(x, 0, "gain oath 1; lose choose 1;", 0, END);
        x.fact(OATH, 0, 0, 0, 100);
        x.also(0, 500);
        x.fact(OATH, 1, 0, 0, 100);
        x.also(1, 500);
        x.fact(CHOICE, 1, 0, 0, 200);
        x.also(2, 600);
        due("surely not", x.settles(2, 0, 300, 0), 0);
        due("surely", x.settles(0, 0, 500, 0), 0);
        due("the first", x.settles(0, 0, 300, 0), 1);
        due("the second: day 150", x.settles(1, 0, 150, 0), 2);
        due("both of the last", x.settles(1, 0, 300, 0), 6);
        due("both, in two of eight", x.says(1, 0, 700, 0), 2);
        dueOf("no person", () -> x.settles(3, 0, 0, 0), NO_SUCH);
        dueOf("no land", () -> x.settles(0, 1, 0, 0), NO_SUCH);
        dueOf("no day", () -> x.settles(0, 0, -1, 0), NO_SUCH);
        dueOf("no evening", () -> x.settles(0, 0, 0, 1), ILLEGAL);
        LandBonds y = desk(1, 1, 1);
        act(y, 0, "gain oath 1;", 0, END);
        for (int i = 0; i < 3; i++) {
            y.fact(OATH, 0, 0, 0, 100);
            y.also(i, 500);
        }
        due("all three", y.settles(0, 0, 300, 0), 7);
        y.back(false, 2);
        due("both", y.settles(0, 0, 300, 0), 3);
        due("in three of four", y.says(0, 0, 300, 0), 3);
        LandBonds z = desk(1, 1, 1);
        act(z, 0, "gain oath 1; lose choose 1;", 0, END);
        z.fact(CHOICE, 0, 0, 0, 100);
        z.also(0, 500);
        z.fact(SERVICE, 0, 0, 0, 100);
        z.also(1, 500);
        z.fact(OATH, 0, 0, 0, 50);
        z.also(2, 300);
        due("the third", z.settles(0, 0, 70, 0), 4);
        due("first and third", z.settles(0, 0, 400, 0), 5);
        due("and again", z.settles(0, 0, 600, 0), 5);
    }

    private static void lands() {
        LandBonds x = desk(3, 1, 1);
        for (int i = 0; i < 3; i++) act(x, i, "gain oath to;", 0, END);
        x.fact(OATH, 0, 2, 0, 100);
        x.also(0, 300);
        x.fact(OATH, 0, 0, 0, 100);
        x.also(1, 300);
        x.also(1, 500);
        int[] on200 = {5, 4, 4, 1, 0, 0}, on400 = {5, 5, 4, 5, 5, 4};
        for (int w = 0; w < 6; w++) {
            due("way " + w, x.lands(0, 200, w, 0), on200[w]);
            due("way " + w, x.lands(0, 400, w, 0), on400[w]);
        }
        dueOf("no way", () -> x.lands(0, 200, 6, 0), NO_SUCH);
        dueOf("way -1", () -> x.lands(0, 200, -1, 0), NO_SUCH);
        dueOf("no person", () -> x.lands(1, 200, 0, 0), NO_SUCH);
        dueOf("no day", () -> x.lands(0, 73000, 0, 0), NO_SUCH);
        dueOf("no evening", () -> x.lands(0, 200, 9, 1), ILLEGAL);
    }

    private static void link(LandBonds x, int person, int land, int day, int i, int... due) {
        for (int what = 0; what < 6; what++) {
            due("link " + i + " of " + person + ", " + what, x.chain(person, land, day, i, what, 0), due[what]);
        }
    }

    private static void chain() {
        LandBonds x = desk(2, 2, 2);
        x.person(0, 0, 1);
        x.person(0, -1, 2);
        x.person(0, 2, 1);
        act(x, 0, "strike 0;", 0, 1);
        act(x, 0, "lose oath not to; gain act stay children 30;", 400, 72999);
        act(x, 0, "gain birth father or mother; lose choose 1 children 5;", 0, 72999);
        x.fact(STAY, 0, 0, 0, 10);
        x.fact(BIRTH, 2, 0, 0, 100);
        x.fact(BIRTH, 3, 0, 1, 500);
        x.fact(BIRTH, 4, 0, 1, 600);
        due("strike 0 in act 0 is a fault", x.count(5), 2);
        due("no bond", x.chain(0, 0, 399, -1, 0, 0), 0);
        due("one link", x.chain(0, 0, 400, -1, 0, 0), 1);
        link(x, 0, 0, 400, 0, 0, 400, 0, 1, -1, 0);
        due("by children", x.chain(2, 0, 400, -1, 0, 0), 2);
        link(x, 2, 0, 400, 0, 2, 400, 0, 1, -1, 1);
        link(x, 2, 0, 400, 1, 0, 400, 0, 1, -1, 0);
        due("by birth, of the mother", x.chain(3, 0, 500, -1, 0, 0), 3);
        link(x, 3, 0, 500, 0, 3, 500, 1, 0, 2, 0);
        link(x, 3, 0, 500, 1, 2, 400, 0, 1, -1, 1);
        link(x, 3, 0, 500, 2, 0, 400, 0, 1, -1, 0);
        link(x, 4, 0, 600, 1, 2, 400, 0, 1, -1, 1);
        dueOf("no link 3", () -> x.chain(3, 0, 500, 3, 0, 0), NO_SUCH);
        dueOf("no link -2", () -> x.chain(3, 0, 500, -2, 0, 0), NO_SUCH);
        dueOf("no link without a bond", () -> x.chain(1, 0, 500, 0, 0, 0), NO_SUCH);
        dueOf("what 6", () -> x.chain(3, 0, 500, 0, 6, 0), NO_SUCH);
        dueOf("what 6 of all", () -> x.chain(3, 0, 500, -1, 6, 0), NO_SUCH);
        dueOf("what -1 of all", () -> x.chain(3, 0, 500, -1, -1, 0), NO_SUCH);
        dueOf("no person", () -> x.chain(5, 0, 500, -1, 0, 0), NO_SUCH);
        dueOf("no land", () -> x.chain(0, 2, 500, -1, 0, 0), NO_SUCH);
        dueOf("no day", () -> x.chain(0, 0, -1, -1, 0, 0), NO_SUCH);
        dueOf("no evening", () -> x.chain(0, 0, 500, -1, 0, 1), ILLEGAL);
        dueOf("no evening, no link", () -> x.chain(0, 0, 500, 7, 0, 1), ILLEGAL);
        x.fact(OATH, 0, 1, 0, 700);
        due("the father's is lost", x.belongs(0, 0, 700, 0), 0);
        link(x, 2, 0, 700, 1, 0, 400, 0, 1, -1, 0);
        act(x, 0, "gain serve 1;", 650, 900);
        x.fact(SERVICE, 0, 0, 0, 800);
        link(x, 0, 0, 800, 0, 0, 800, 2, 0, 5, 0);
        link(x, 2, 0, 800, 1, 0, 400, 0, 1, -1, 0);
    }

    private static void chainOfWeddings() {
        LandBonds x = desk(1, 1, 2);
        act(x, 0, "gain choose 1; lose oath 1; gain wed spouse;", 0, END);
        x.fact(CHOICE, 0, 0, 0, 0);
        for (int i = 1; i < 47; i++) {
            x.fact(WEDDING, i % 2, 1 - i % 2, 0, 10 * i);
            x.fact(OATH, 1 - i % 2, 0, 0, 10 * i + 1);
        }
        due("39 links", x.chain(0, 0, 380, -1, 0, 0), 39);
        due("its last", x.chain(0, 0, 380, 38, 1, 0), 0);
        due("40 links", x.chain(1, 0, 390, -1, 0, 0), 40);
        due("its last", x.chain(1, 0, 390, 39, 1, 0), 0);
        due("at most 40", x.chain(0, 0, 400, -1, 0, 0), 40);
        due("the 40th", x.chain(0, 0, 400, 39, 1, 0), 10);
        dueOf("no 41st", () -> x.chain(0, 0, 400, 40, 1, 0), NO_SUCH);
    }

    private static void times() {
        LandBonds x = desk(2, 1, 1);
        act(x, 0, "gain oath to; lose oath not to;", 0, END);
        for (int i = 0; i < 7; i++) x.fact(OATH, 0, i % 2, 0, 10 * i + 10);
        x.also(0, 65);
        due("gained by 9", x.times(0, 0, 9, 0, 0), 0);
        due("gained by 10", x.times(0, 0, 10, 0, 0), 1);
        due("lost by 19", x.times(0, 0, 19, 1, 0), 0);
        due("lost by 20", x.times(0, 0, 20, 1, 0), 1);
        due("gained by 100", x.times(0, 0, 100, 0, 0), 4);
        due("lost by 100", x.times(0, 0, 100, 1, 0), 3);
        due("another land", x.times(0, 1, 100, 0, 0), 0);
        dueOf("what 2", () -> x.times(0, 0, 0, 2, 0), NO_SUCH);
        dueOf("what -1", () -> x.times(0, 0, 0, -1, 0), NO_SUCH);
        dueOf("no person", () -> x.times(1, 0, 0, 0, 0), NO_SUCH);
        dueOf("no land", () -> x.times(0, 2, 0, 0, 0), NO_SUCH);
        dueOf("no day", () -> x.times(0, 0, 73000, 0, 0), NO_SUCH);
        dueOf("no evening", () -> x.times(0, 0, 0, 0, 1), ILLEGAL);
    }

    private static void ifStruck() {
        LandBonds x = desk(2, 1, 4);
        act(x, 0, "gain act sex;", 10, 100);
        act(x, 0, "lose oath 1;", 10, 100);
        act(x, 0, "strike 1;", 40, 60);
        act(x, 1, "gain act 1;", 10, 100);
        x.fact(OATH, 1, 0, 0, 30);
        x.fact(OATH, 3, 0, 0, 50);
        due("gone without act 0", x.ifStruck(0, 20, 1, 0), 2);
        due("none more without act 0", x.ifStruck(0, 20, 0, 0), 0);
        due("the day ahead", x.ifStruck(0, 9, 1, 0), 0);
        due("without the loss", x.ifStruck(1, 30, 0, 0), 1);
        due("none less", x.ifStruck(1, 30, 1, 0), 0);
        due("without what strikes, and what its beginning gives", x.ifStruck(2, 50, 1, 0), 2);
        due("the other land", x.ifStruck(3, 50, 1, 0), 4);
        dueOf("no act", () -> x.ifStruck(4, 0, 0, 0), NO_SUCH);
        dueOf("act -1", () -> x.ifStruck(-1, 0, 0, 0), NO_SUCH);
        dueOf("no day", () -> x.ifStruck(0, -1, 0, 0), NO_SUCH);
        dueOf("what 2", () -> x.ifStruck(0, 0, 2, 0), NO_SUCH);
        dueOf("what -1", () -> x.ifStruck(0, 0, -1, 0), NO_SUCH);
        dueOf("no evening", () -> x.ifStruck(0, 0, 0, 1), ILLEGAL);
        x.evenings(1);
        x.back(true, 0);
        due("not known", x.ifStruck(0, 20, 1, 1), 0);
        due("known ahead", x.ifStruck(0, 20, 1, 0), 2);
        dueOf("not known, what 2", () -> x.ifStruck(0, 20, 2, 1), NO_SUCH);
        due("it is as it was", x.belongs(1, 0, 20, 0), 1);
    }

    private static void count() {
        LandBonds x = desk(2, 3, 4);
        x.fact(STAY, 0, 0, 0, 0);
        x.act(0, 0, 0, 0);
        x.feed(0, 0, 0, 0, 0);
        x.evenings(7);
        int[] due = {7, 2, 3, 4, 1, 1, 20};
        for (int i = 0; i < 7; i++) due("count " + i, x.count(i), due[i]);
        dueOf("count 7", () -> x.count(7), NO_SUCH);
        dueOf("count -1", () -> x.count(-1), NO_SUCH);
    }

    /** Who is asked what, and in which order. */
    private static void happenings() {
        LandBonds x = desk(2, 2, 2);
        act(x, 0, "gain birth 1; lose choose to; gain serve to; lose border to; gain wed 1; lose birth 1;", 5, END);
        x.fact(BIRTH, 0, 0, 0, 4);
        x.fact(BIRTH, 1, 0, 0, 5);
        x.fact(BIRTH, 1, 0, 0, 6);
        due("ahead of the act", x.belongs(0, 0, 4, 0), 0);
        due("born on its first day", x.belongs(1, 0, 5, 0), 1);
        due("a second birth is nothing", x.belongs(1, 0, 6, 0), 1);
        x.fact(CHOICE, 1, 1, 0, 10);
        due("a choice of another land", x.belongs(1, 0, 10, 0), 1);
        x.fact(CHOICE, 1, 0, 0, 11);
        due("a choice", x.belongs(1, 0, 11, 0), 0);
        x.fact(SERVICE, 1, 0, 0, 12);
        due("a service", x.belongs(1, 0, 12, 0), 1);
        x.fact(BORDER, 0, 0, 1, 13);
        due("a border asks each person", x.belongs(1, 0, 13, 0), 0);
        x.fact(WEDDING, 0, 1, 0, 14);
        due("a wedding asks the one", x.belongs(0, 0, 14, 0), 1);
        due("and the other", x.belongs(1, 0, 14, 0), 1);
        x.fact(STAY, 0, 0, 0, 15);
        due("a stay asks nothing", x.times(0, 0, 15, 0, 0) + x.times(0, 0, 15, 1, 0), 1);

        LandBonds y = desk(1, 1, 1);
        act(y, 0, "gain oath 1; lose act 1;", 50, 60);
        act(y, 0, "lose choose 1; gain act 0;", 50, 60);
        y.fact(CHOICE, 0, 0, 0, 50);
        y.fact(OATH, 0, 0, 0, 50);
        due("acts, then facts by number", y.belongs(0, 0, 50, 0), 1);
        due("gained once", y.times(0, 0, 50, 0, 0), 1);
        y.fact(OATH, 0, 0, 0, 20);
        act(y, 0, "gain oath 1;", 10, 30);
        due("each beginning act asks", y.times(0, 0, 50, 1, 0), 1);
        due("gained again", y.times(0, 0, 50, 0, 0), 2);

        LandBonds z = desk(1, 1, 1);
        act(z, 0, "gain act 1;", 10, 50);
        act(z, 0, "strike 0;", 5, 20);
        due("struck as it begins", z.belongs(0, 0, 40, 0), 0);
        z.evenings(1);
        z.back(true, 1);
        due("not struck", z.belongs(0, 0, 40, 1), 1);

        LandBonds w = desk(2, 1, 1);
        act(w, 0, "gain oath 0; gain oath 2-3; gain oath 1;", 0, END);
        act(w, 0, "gain oath 1;", 0, END);
        w.fact(OATH, 0, 1, 0, 1);
        due("the first clause that isn't 0", w.chain(0, 0, 1, 0, 3, 0), 1);
        due("of the first act", w.chain(0, 0, 1, 0, 2, 0), 0);
    }

    /** What is seen while lands and persons are asked one after another. */
    private static void happeningsSideBySide() {
        LandBonds x = desk(2, 1, 1);
        act(x, 0, "gain act 1; lose oath 1;", 0, END);
        act(x, 1, "gain oath others;", 0, END);
        x.fact(OATH, 0, 1, 0, 5);
        due("all lands see the bonds ahead", x.lands(0, 5, 0, 0), 2);

        LandBonds y = desk(1, 1, 1);
        y.person(0, 0, -1);
        act(y, 0, "gain border not father;", 0, END);
        y.fact(BORDER, 0, 0, 0, 5);
        due("the first is asked first", y.belongs(0, 0, 5, 0), 1);
        due("the next sees it", y.belongs(1, 0, 5, 0), 0);

        LandBonds z = desk(1, 1, 2);
        act(z, 0, "gain wed not spouse or sex;", 0, END);
        z.fact(WEDDING, 0, 1, 0, 5);
        due("the one", z.belongs(0, 0, 5, 0), 1);
        due("the other, its spouse had none", z.chain(1, 0, 5, -1, 0, 0), 1);

        LandBonds w = desk(1, 1, 2);
        act(w, 0, "gain act sex=0; lose wed 1; gain wed spouse;", 0, END);
        w.fact(WEDDING, 0, 1, 0, 5);
        due("the one loses", w.belongs(0, 0, 5, 0), 0);
        due("the other gains by what it had", w.belongs(1, 0, 5, 0), 1);
        due("and leans on it", w.chain(1, 0, 5, 1, 0, 0), 0);
    }

    private static void children() {
        LandBonds x = desk(1, 1, 2);
        x.person(0, 0, 1);
        x.person(0, -1, 1);
        x.person(0, 2, -1);
        x.person(0, 0, -1);
        x.person(0, 0, -1);
        act(x, 0, "gain oath 1 children 2; lose choose 1 children 2;", 0, END);
        x.fact(BIRTH, 2, 0, 0, 100);
        x.fact(BIRTH, 3, 0, 0, 100);
        x.fact(BIRTH, 4, 0, 0, 101);
        x.fact(BIRTH, 5, 0, 0, 99);
        x.fact(OATH, 0, 0, 0, 829);
        x.fact(OATH, 1, 0, 0, 829);
        due("one day short of two years", x.belongs(2, 0, 829, 0), 1);
        due("two years", x.belongs(5, 0, 829, 0), 0);
        due("not born", x.belongs(6, 0, 829, 0), 0);
        due("not in turn", x.belongs(4, 0, 829, 0), 0);
        due("of the mother, no father is told", x.belongs(3, 0, 829, 0), 1);
        due("not of the mother, a father is told", x.chain(2, 0, 829, 0, 4, 0), 4);
        due("counted", x.times(2, 0, 829, 0, 0), 1);
        x.fact(CHOICE, 0, 0, 0, 829);
        due("loses with it", x.belongs(2, 0, 829, 0), 0);
        due("lost", x.times(2, 0, 829, 1, 0), 1);
        due("one that hasn't it loses nothing", x.times(5, 0, 829, 1, 0), 0);
        LandBonds y = desk(1, 1, 1);
        y.person(0, 0, -1);
        act(y, 0, "gain oath 1 children 0;", 0, END);
        y.fact(BIRTH, 1, 0, 0, 5);
        y.fact(OATH, 0, 0, 0, 5);
        due("younger than 0", y.belongs(1, 0, 5, 0), 0);
        LandBonds z = desk(1, 1, 1);
        z.person(0, 0, -1);
        act(z, 0, "gain oath 1;", 0, END);
        z.fact(BIRTH, 1, 0, 0, 5);
        z.fact(OATH, 0, 0, 0, 5);
        due("without children", z.belongs(1, 0, 5, 0), 0);
    }

    private static void values() {
        LandBonds x = family();
        due("here", gainsByAct(x, 0, "here"), 1);
        due("not here", gainsByAct(x, 1, "here"), 0);
        due("nowhere", gainsByAct(x, 2, "here"), 0);
        due("sex 0", gainsByAct(x, 0, "sex"), 0);
        due("sex 1", gainsByAct(x, 1, "sex"), 1);
        due("to of an act", gainsByAct(x, 1, "to"), 1);
        due("father asked ahead", gainsByAct(x, 4, "sex=0 or father"), 1);
        due("mother hasn't it", gainsByAct(x, 4, "sex=0 or mother"), 0);
        due("has", gainsByAct(x, 0, "has"), 0);
        due("no wedding", gainsByAct(x, 0, "wedded"), 0);
        weddings();
        happeningsOfValues();
    }

    /** Persons 0 (staying in land 0) to 3 (1 stays in land 1), 4 their child. */
    private static LandBonds family() {
        LandBonds x = desk(2, 2, 4);
        x.person(1, 0, 1);
        x.fact(STAY, 0, 0, 0, 10);
        x.fact(STAY, 1, 0, 1, 10);
        return x;
    }

    private static void weddings() {
        LandBonds x = family();
        x.fact(WEDDING, 1, 0, 1, 500);
        due("wedded", gainsByAct(x, 0, "wedded"), 1);
        due("spouse has it", gainsByAct(x, 1, "sex=0 or spouse"), 1);
        due("spouse hasn't it yet", gainsByAct(x, 0, "spouse"), 0);
        x.fact(WEDDING, 3, 1, 1, 600);
        due("still wedded", gainsByAct(x, 0, "wedded"), 1);
        due("its last wedding's other", gainsByAct(x, 1, "(stay=990) or spouse"), 0);
        due("the wedding's other", gainsByAct(x, 3, "sex=1 and (not wedded or spouse) or stay"), 0);
    }

    private static void happeningsOfValues() {
        LandBonds y = desk(3, 3, 2);
        y.person(0, 0, 1);
        y.person(0, 1, 0);
        y.person(0, 0, -1);
        y.person(0, 0, 1);
        act(y, 0, "gain birth wedded; gain wed here; lose wed has;", 0, END);
        act(y, 1, "gain birth here; gain border here and to; lose border not to and others=0;", 0, END);
        act(y, 2, "gain choose to=0; gain serve wedded;", 0, END);
        y.fact(BIRTH, 2, 0, 1, 10);
        y.fact(WEDDING, 0, 1, 1, 20);
        y.fact(BIRTH, 3, 0, 0, 30);
        y.fact(BIRTH, 4, 0, 0, 30);
        due("born here, not of wedded ones", y.lands(2, 10, 0, 0), 2);
        due("born of wedded ones", y.lands(3, 30, 0, 0), 1);
        due("no mother", y.lands(4, 30, 0, 0), 0);
        y.fact(BIRTH, 5, 0, 0, 31);
        due("born of wedded ones, person 0 the father", y.lands(5, 31, 0, 0), 1);
        due("a wedding elsewhere", y.lands(0, 20, 0, 0), 0);
        y.fact(WEDDING, 1, 0, 0, 40);
        due("a wedding here", y.lands(0, 40, 0, 0), 1);
        due("a wedding here, the other", y.lands(1, 40, 0, 0), 1);
        y.fact(BORDER, 0, 2, 1, 50);
        due("a border away", y.lands(2, 50, 0, 0), 0);
        y.fact(BORDER, 0, 1, 2, 60);
        due("a border to it", y.lands(2, 60, 0, 0), 2);
        y.fact(CHOICE, 3, 0, 0, 70);
        due("a choice of another", y.lands(3, 70, 0, 0), 7);
        y.fact(SERVICE, 4, 0, 0, 80);
        due("not wedded", y.lands(4, 80, 0, 0), 2);
        y.fact(SERVICE, 1, 0, 0, 80);
        due("wedded", y.lands(1, 80, 0, 0), 7);
    }

    private static void valuesOfTime() {
        LandBonds x = desk(2, 3, 2);
        due("no birth, age 0", gainsByAct(x, 0, "age=0"), 1);
        due("no birth, not moved", gainsByAct(x, 0, "moved=99999"), 1);
        due("no stay", gainsByAct(x, 0, "stay=0"), 1);
        x.fact(BIRTH, 0, 0, 0, 270);
        due("two years, day for day", gainsByAct(x, 0, "age=2"), 1);
        x.fact(BIRTH, 1, 0, 0, 271);
        due("a day short", gainsByAct(x, 1, "age=1"), 1);
        due("a second birth is nothing", x.fact(BIRTH, 0, 0, 1, 900), 2);
        due("age since the first", gainsByAct(x, 0, "age=2"), 1);
        due("year", gainsByAct(x, 0, "year=2"), 1);
        due("no border", gainsByAct(x, 0, "moved=99999"), 1);
        x.fact(BORDER, 0, 1, 0, 600);
        due("moved", gainsByAct(x, 0, "moved=400"), 1);
        x.fact(BORDER, 0, 0, 0, 700);
        x.fact(BORDER, 0, 0, 1, 800);
        due("the last border of its birth's place", gainsByAct(x, 0, "moved=300"), 1);

        LandBonds y = desk(2, 3, 2);
        y.fact(STAY, 0, 0, 2, 100);
        due("stay", gainsByAct(y, 0, "stay=900"), 1);
        y.fact(STAY, 0, 0, 2, 200);
        due("the last stay", gainsByAct(y, 0, "stay=800"), 1);
        y.fact(BORDER, 0, 1, 2, 900);
        due("a stay in another land", gainsByAct(y, 0, "stay=0"), 1);
        due("and not here", gainsByAct(y, 0, "here"), 0);
    }

    private static void arithmetic() {
        LandBonds x = desk(1, 1, 1);
        String most = "(21475*99999+5122)";
        String[] hold = {"1", "2", "0-1", "7-2-4", "2+3*4=14", "(2+3)*4=20", "100/7/2=7", "(0-7)/2=0-3", "5/0=0", "0/0=0",
            "99999*99999=14098*99999+79507", "not 0", "(not not 2)=1", "1<2", "0-1<0", "2=2", "not 2<1",
            "1 or 0", "0 or 2", "2 and 3", "(2 and 3)=1", "(0 or 5)=1", "(5)=5", "(not 5)=0", "0 and 0 or 1", "1 or 0 and 0",
            "not 1 or 1", "1 unless 0", "2<3 unless 3<2", "1 unless 5-5", "1-(1-1)", "12/5*5=10", "not not not 0",
            "0<" + most, most + "+1<0", most + "+1=0-" + most + "-1", "(" + most + "+1)/(0-1)=" + most + "+1",
            "(" + most + "+1)*(0-1)<0", "0-(0-7)/(0-2)=0-3", "99999=99998+1", "00007=7"};
        for (String e : hold) due(e, gainsOnce(e), 1);
        String[] fail = {"0", "1-1", "2+2*2=8", "not 1", "1=2", "2<2", "3<2", "1 and 0", "0 and 1", "0 or 0", "1 unless 1",
            "1 unless 2", "0 unless 0", "0 unless 1", "1/2", "(0-1)/2", "9/0", "not (1 or 1)", "(1 or 0) and 0",
            "1-1-0", "not not 0", "not not 2=1", "not 1 and 0", "10-5-5", "8/2/8"};
        for (String e : fail) due(e, gainsOnce(e), 0);
    }

    private static long gainsOnce(String expr) {
        return gainsByAct(desk(1, 1, 1), 0, expr);
    }

    private static void knownOnAnEvening() {
        LandBonds x = desk(1, 1, 1);
        act(x, 0, "gain oath 1;", 0, END);
        x.evenings(2);
        x.fact(OATH, 0, 0, 0, 100);
        x.evenings(2);
        x.fact(CHOICE, 0, 0, 0, 200);
        act(x, 0, "lose choose 1;", 0, END);
        x.evenings(2);
        x.back(true, 1);
        int[] on150 = {0, 0, 1, 1, 1, 1, 1}, on250 = {0, 0, 1, 1, 0, 0, 1};
        for (int k = 0; k <= 6; k++) {
            due("day 150 as known on " + k, x.belongs(0, 0, 150, k), on150[k]);
            due("day 250 as known on " + k, x.belongs(0, 0, 250, k), on250[k]);
        }
        due("a person told later is there, too", x.person(0, -1, -1), 1);
        act(x, 0, "gain act 1;", 0, END);
        due("tonight", x.belongs(1, 0, 0, 6), 1);
        due("ahead", x.belongs(1, 0, 0, 5), 0);
    }

    /** The same calls ahead of and behind each telling. */
    private static void toldBetweenAnswers() {
        LandBonds x = desk(1, 1, 1);
        due("nothing told", x.belongs(0, 0, 50, 0) + x.lands(0, 50, 0, 0), 0);
        act(x, 0, "gain act 1; lose oath 1;", 10, END);
        due("an act", x.belongs(0, 0, 50, 0) + x.lands(0, 50, 0, 0), 2);
        x.fact(OATH, 0, 0, 0, 40);
        due("a fact", x.belongs(0, 0, 50, 0) + x.lands(0, 50, 0, 0), 0);
        x.also(0, 60);
        due("another day", x.belongs(0, 0, 50, 0) + x.says(0, 0, 50, 0), 3);
        due("way 1", x.lands(0, 50, 1, 0), 1);
        x.back(false, 0);
        due("taken back", x.belongs(0, 0, 50, 0) + x.lands(0, 50, 0, 0), 2);
        x.person(0, -1, -1);
        due("a person", x.belongs(1, 0, 50, 0) + x.lands(1, 50, 0, 0), 2);
        due("counted", x.times(1, 0, 50, 0, 0), 1);
        x.back(true, 0);
        due("the act taken back", x.belongs(1, 0, 50, 0) + x.times(1, 0, 50, 0, 0), 0);
        act(x, 0, "gain border 1;", 0, END);
        x.fact(BORDER, 0, 0, 0, 7);
        due("a border", x.belongs(1, 0, 50, 0) + x.belongs(0, 0, 50, 0), 2);
        x.person(0, -1, -1);
        due("a person again", x.belongs(2, 0, 50, 0) + x.belongs(0, 0, 50, 0), 2);
    }
}
