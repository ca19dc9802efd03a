/** Each sentence of the document that names an edge of how a way is worked out: what happens, who is asked, values. */
public final class EdgesOfWays extends Edges {
    public static void main(String[] args) throws java.io.IOException {
        begin("EdgesOfWays");
        dayNull();
        orderOfADay();
        actsBegin();
        births();
        weddings();
        oaths();
        borders();
        stays();
        firstClauses();
        allLandsAtOnce();
        childrenByAge();
        childrenByParent();
        childrenInTurn();
        here();
        parents();
        wedded();
        spouse();
        sexAndAge();
        stay();
        hasAndOthers();
        to();
        moved();
        leansByBirth();
        leansByWedding();
        leansElse();
        end();
    }

    private static void has(LandBonds x, int person, int day, int want) {
        due("person " + person + " on " + day, x.belongs(person, 0, day, 0), want);
    }

    /** On this day an act asks person of land 0 whether the value is the number. */
    private static void value(LandBonds x, String value, int person, int day, int want) {
        int a = act(x, 0, "gain act " + value + "=" + want + ";", day, day + 1);
        gained(x, value + "=" + want, person, day);
        x.back(true, a);
    }

    private static void gained(LandBonds x, String by, int person, int day) {
        if (day > 0) due("person " + person + " ahead of " + day, x.belongs(person, 0, day - 1, 0), 0);
        due(by + " of person " + person + " on " + day, x.belongs(person, 0, day, 0), 1);
    }

    /** The same, asked of that person alone, by a service to land 0 behind the other facts of the day. */
    private static void served(LandBonds x, String value, int person, int day, int want) {
        int a = act(x, 0, "gain serve " + value + "=" + want + ";", day, day + 1);
        int f = x.fact(SERVICE, person, 0, 0, day);
        gained(x, value + "=" + want, person, day);
        x.back(true, a);
        x.back(false, f);
    }

    /** How many links the chain has, and whose bond it leans on (NONE: on none). */
    private static void leans(LandBonds x, int person, int day, int on) {
        due("links", Math.min(x.chain(person, 0, day, NONE, 0, 0), 2), on == NONE ? 1 : 2);
        if (on != NONE) due("on whose", x.chain(person, 0, day, 1, 0, 0), on);
    }

    private static void dayNull() {
        String zero = "ONE WAY is worked out from DAY 0 on: nobody has a BOND to any LAND";
        edge(zero, "nobody, without acts", () -> {
            LandBonds x = desk(5, 1, 20);
            x.fact(BIRTH, 19, 0, 0, 0);
            for (int p = 0; p < 20; p++) due("on the last day", x.lands(p, END, 0, 0), 0);
        });
        edge(zero, "an act and a fact on day 0", () -> {
            LandBonds x = desk(1, 1, 2);
            act(x, 0, "gain act sex;gain oath 1;", 0, END);
            x.fact(OATH, 0, 0, 0, 0);
            has(x, 0, 0, 1);
            has(x, 1, 0, 1);
        });
    }

    private static void orderOfADay() {
        String order = "of each DAY first ACTS that begin on it (and are IN FORCE on it), by number, then FACTS, by number.";
        edge(order, "days ahead of numbers", () -> {
            LandBonds x = desk(1, 1, 1);
            act(x, 0, "gain oath 1;lose choose 1;", 0, END);
            x.fact(CHOICE, 0, 0, 0, 11);
            x.fact(OATH, 0, 0, 0, 10);
            has(x, 0, 10, 1);
            has(x, 0, 11, 0);
        });
        edge(order, "facts of a day by number", () -> {
            LandBonds x = desk(1, 1, 2);
            act(x, 0, "gain oath 1;lose choose 1;", 0, END);
            x.fact(CHOICE, 0, 0, 0, 10);
            x.fact(OATH, 0, 0, 0, 10);
            x.fact(OATH, 1, 0, 0, 10);
            x.fact(CHOICE, 1, 0, 0, 10);
            has(x, 0, 10, 1);
            has(x, 1, 10, 0);
            due("gained and lost", x.times(1, 0, 10, 1, 0), 1);
        });
        edge(order, "facts 9 and 10, 98 and 99 of a day", () -> {
            LandBonds x = desk(1, 1, 2);
            act(x, 0, "gain oath 1;lose choose 1;", 0, END);
            for (int f = 0; f < 100; f++) {
                boolean one = f == 9 || f == 10, other = f > 97;
                x.fact(one ? OATH + f - 9 : other ? CHOICE - f + 98 : STAY, one ? 0 : 1, 0, 0, 10);
            }
            has(x, 0, 10, 0);
            has(x, 1, 10, 1);
        });
        edge(order, "acts ahead of facts", () -> {
            LandBonds x = desk(1, 1, 2);
            x.fact(OATH, 0, 0, 0, 10);
            x.fact(CHOICE, 1, 0, 0, 10);
            act(x, 0, "gain act sex;lose act 1;gain oath 1;lose choose 1;", 10, END);
            has(x, 0, 10, 1);
            has(x, 1, 10, 0);
        });
        edge(order, "acts of a day by number", () -> {
            LandBonds x = desk(2, 0, 1);
            act(x, 1, "gain act others;", 10, END);
            act(x, 0, "gain act 1;", 10, END);
            due("1 ahead of 0", x.lands(0, 10, 0, 0), 1);
            LandBonds y = desk(2, 0, 1);
            act(y, 0, "gain act 1;", 10, END);
            act(y, 1, "gain act others;", 10, END);
            due("0 ahead of 1", y.lands(0, 10, 0, 0), 3);
        });
        edge(order, "of acts that begin on other days the earlier one first", () -> {
            LandBonds x = desk(2, 0, 1);
            act(x, 1, "gain act others;", 11, END);
            act(x, 0, "gain act 1;", 10, END);
            due("both", x.lands(0, 11, 0, 0), 3);
        });
        edge(order, "one that is struck on its first day doesn't begin, nor later", () -> {
            LandBonds x = desk(1, 0, 1);
            act(x, 0, "gain act 1;", 10, END);
            act(x, 0, "strike 0;", 10, 11);
            has(x, 0, 10, 0);
            has(x, 0, END, 0);
        });
        edge(order, "one that isn't in force on its first day asks nothing of the others, either", () -> {
            LandBonds x = desk(1, 0, 1);
            act(x, 0, "gain act year;", 0, END);
            act(x, 0, "", 400, END);
            act(x, 0, "", 500, 500);
            act(x, 0, "", 600, 599);
            act(x, 0, "strike 1;", 100, END);
            has(x, 0, END, 0);
            act(x, 0, "", 700, 701);
            has(x, 0, 699, 0);
            has(x, 0, 700, 1);
        });
        edge(order, "one that isn't struck on its first day begins", () -> {
            LandBonds x = desk(1, 0, 1);
            act(x, 0, "gain act 1;", 10, END);
            act(x, 0, "strike 0;", 9, 10);
            act(x, 0, "strike 0;", 11, END);
            has(x, 0, 10, 1);
        });
        edge(order, "one with its end ahead of its beginning doesn't begin", () -> {
            LandBonds x = desk(1, 0, 1);
            act(x, 0, "gain act 1;", 10, 10);
            act(x, 0, "gain act 1;", 10, 5);
            has(x, 0, END, 0);
        });
    }

    private static void actsBegin() {
        String begins = "an ACT begins: of its LAND 'act' is asked of each PERSON, 0 first.";
        edge(begins, "each one, up to the last", () -> {
            LandBonds x = desk(1, 0, 20);
            act(x, 0, "gain act 1;", 10, END);
            for (int p = 0; p < 20; p++) has(x, p, 10, 1);
        });
        edge(begins, "0 first", () -> {
            LandBonds x = desk(1, 0, 1);
            x.person(0, 0, NONE);
            x.person(0, 1, NONE);
            act(x, 0, "gain act not father;", 10, END);
            for (int p = 0; p < 3; p++) has(x, p, 10, p == 1 ? 0 : 1);
        });
        edge(begins, "of its land alone", () -> {
            LandBonds x = desk(2, 0, 1);
            act(x, 0, "gain act 1;", 20, END);
            act(x, 1, "", 30, END);
            due("ahead of its own", x.lands(0, 19, 0, 0), 0);
            due("behind the other's", x.lands(0, 30, 0, 0), 1);
            due("once", x.times(0, 0, 30, 0, 0), 1);
        });
        for (int land = 0; land < 3; land++) {
            int begun = land;
            edge(begins, "of its land alone: land " + begun, () -> {
                LandBonds x = desk(3, 0, 1);
                for (int other = 0; other < 3; other++) act(x, other, "gain act year;", 0, END);
                act(x, begun, "", 365, END);
                due("lands", x.lands(0, 365, 0, 0), 1 << begun);
            });
        }
        edge(begins, "by all acts of that land that are in force", () -> {
            LandBonds x = desk(1, 0, 1);
            act(x, 0, "gain act year;", 10, END);
            act(x, 0, "", 400, 401);
            has(x, 0, 399, 0);
            due("by act 0", x.chain(0, 0, 400, 0, 2, 0), 0);
            due("without a fact", x.chain(0, 0, 400, 0, 4, 0), NONE);
        });
        edge(begins, "not at its end, nor each day", () -> {
            LandBonds x = desk(1, 1, 1);
            act(x, 0, "gain act 1;lose oath 1;lose act 1;", 10, 20);
            x.fact(OATH, 0, 0, 0, 15);
            has(x, 0, 15, 0);
            has(x, 0, 16, 0);
            has(x, 0, 20, 0);
            due("gained once", x.times(0, 0, END, 0, 0), 1);
        });
        edge(begins, "without persons", () -> {
            LandBonds x = desk(1, 0, 0);
            act(x, 0, "gain act 1;", 0, END);
            due("nobody gone", x.ifStruck(0, 5, 1, 0), 0);
        });
    }

    private static void births() {
        String birth = "A BIRTH ('birth', of that one; a second BIRTH of a PERSON is nothing)";
        edge(birth, "of that one alone", () -> {
            LandBonds x = desk(1, 1, 3);
            act(x, 0, "gain birth 1;", 0, END);
            x.fact(BIRTH, 1, 0, 0, 5);
            for (int p = 0; p < 3; p++) has(x, p, 5, p == 1 ? 1 : 0);
        });
        edge(birth, "a second one asks nothing", () -> {
            LandBonds x = desk(1, 1, 1);
            act(x, 0, "gain birth 1;lose birth 1;", 0, END);
            x.fact(BIRTH, 0, 0, 0, 5);
            x.fact(BIRTH, 0, 0, 0, 6);
            x.fact(BIRTH, 0, 0, 0, 7);
            has(x, 0, 6, 1);
            has(x, 0, 7, 1);
            due("lost", x.times(0, 0, END, 1, 0), 0);
        });
        edge(birth, "a second one of the same day", () -> {
            LandBonds x = desk(1, 1, 1);
            act(x, 0, "gain birth 1;lose birth 1;", 0, END);
            x.fact(BIRTH, 0, 0, 0, 5);
            x.fact(BIRTH, 0, 0, 0, 5);
            has(x, 0, 5, 1);
        });
        edge(birth, "the first by day, not by number", () -> {
            LandBonds x = desk(1, 1, 1);
            act(x, 0, "gain birth 1;", 0, END);
            x.fact(BIRTH, 0, 0, 0, 9);
            x.fact(BIRTH, 0, 0, 0, 5);
            due("its fact", x.chain(0, 0, 9, 0, 4, 0), 1);
            due("its day", x.chain(0, 0, 9, 0, 1, 0), 5);
        });
        edge(birth, "a second one changes neither age nor place", () -> {
            LandBonds x = desk(1, 2, 1);
            x.fact(BIRTH, 0, 0, 0, 5);
            x.fact(BIRTH, 0, 0, 1, 300);
            x.fact(BORDER, 0, 0, 1, 350);
            value(x, "age", 0, 370, 1);
            value(x, "moved", 0, 370, 99999);
        });
        edge(birth, "a second one ahead of the first act, behind it nothing", () -> {
            LandBonds x = desk(1, 1, 1);
            act(x, 0, "gain birth 1;", 6, END);
            x.fact(BIRTH, 0, 0, 0, 5);
            x.fact(BIRTH, 0, 0, 0, 6);
            has(x, 0, END, 0);
        });
        edge(birth, "with the first one taken back", () -> {
            LandBonds x = desk(1, 1, 1);
            act(x, 0, "gain birth 1;", 6, END);
            x.fact(BIRTH, 0, 0, 0, 5);
            x.fact(BIRTH, 0, 0, 0, 6);
            x.back(false, 0);
            has(x, 0, END, 1);
        });
        edge(birth, "first in one way, second in the other", () -> {
            LandBonds x = desk(1, 1, 1);
            act(x, 0, "gain birth 1;", 6, END);
            x.fact(BIRTH, 0, 0, 0, 5);
            x.also(0, 8);
            x.fact(BIRTH, 0, 0, 0, 6);
            due("way 0", x.lands(0, END, 0, 0), 0);
            due("way 1", x.lands(0, END, 1, 0), 1);
        });
    }

    private static void weddings() {
        String wed = "a WEDDING ('wed', of the one, then of the other; both are WEDDED to each other from then on)";
        edge(wed, "of these two alone", () -> {
            LandBonds x = desk(1, 1, 4);
            act(x, 0, "gain wed 1;", 0, END);
            x.fact(WEDDING, 2, 1, 0, 5);
            for (int p = 0; p < 4; p++) has(x, p, 5, p == 1 || p == 2 ? 1 : 0);
        });
        edge(wed, "the one, then the other", () -> {
            LandBonds x = desk(1, 1, 1);
            x.person(1, 0, NONE);
            act(x, 0, "gain wed not father;", 0, END);
            x.fact(WEDDING, 0, 1, 0, 5);
            has(x, 0, 5, 1);
            has(x, 1, 5, 0);
        });
        edge(wed, "the one has the greater number", () -> {
            LandBonds x = desk(1, 1, 1);
            x.person(1, 0, NONE);
            act(x, 0, "gain wed not father;", 0, END);
            x.fact(WEDDING, 1, 0, 0, 5);
            has(x, 0, 5, 1);
            has(x, 1, 5, 1);
        });
        edge(wed, "wedded from then on, both", () -> {
            LandBonds x = desk(1, 1, 3);
            x.fact(WEDDING, 0, 1, 0, 10);
            for (int p = 0; p < 3; p++) {
                value(x, "wedded", p, 9, 0);
                value(x, "wedded", p, 10, 0);
                value(x, "wedded", p, 11, p < 2 ? 1 : 0);
            }
        });
    }

    private static void oaths() {
        String asked = "OATH, CHOICE, SERVICE ('oath', 'choose', 'serve', of that one): asked of each LAND, 0 first.";
        String[] whens = {"oath", "choose", "serve"};
        for (int kind = OATH; kind <= SERVICE; kind++) {
            int k = kind;
            edge(asked, whens[k - OATH] + " of that one alone, of each land", () -> {
                LandBonds x = desk(5, 1, 3);
                for (int land = 0; land < 5; land++) act(x, land, "gain " + whens[k - OATH] + " 1;", 0, END);
                x.fact(k, 1, 3, 0, 5);
                for (int p = 0; p < 3; p++) due("lands of " + p, x.lands(p, 5, 0, 0), p == 1 ? 31 : 0);
            });
            edge(asked, whens[k - OATH] + " is no other word", () -> {
                LandBonds x = desk(1, 1, 1);
                String others = "";
                for (String when : "birth wed oath choose serve border".split(" ")) {
                    if (!when.equals(whens[k - OATH])) others += "gain " + when + " 1;";
                }
                act(x, 0, others, 0, END);
                x.fact(k, 0, 0, 0, 5);
                has(x, 0, 5, 0);
            });
        }
    }

    private static void borders() {
        String border = "BORDER: the PLACE is of that LAND from then on; 'border' is asked of each PERSON, 0 first, of each LAND.";
        edge(border, "of that land already when it is asked", () -> {
            LandBonds x = desk(2, 1, 1);
            act(x, 1, "gain border here;", 0, END);
            act(x, 0, "gain border here;", 0, END);
            x.fact(BORDER, 0, 1, 0, 5);
            due("lands", x.lands(0, 5, 0, 0), 2);
        });
        edge(border, "from then on, on its day already", () -> {
            LandBonds x = desk(2, 2, 0);
            x.fact(BORDER, 0, 1, 0, 5);
            due("ahead", x.landOf(0, 4, 0), 0);
            due("on it", x.landOf(0, 5, 0), 1);
            due("on the last", x.landOf(0, END, 0), 1);
            due("another place", x.landOf(1, END, 0), 1);
        });
        edge(border, "on the last day", () -> {
            LandBonds x = desk(2, 1, 0);
            x.fact(BORDER, 0, 1, 0, END);
            due("ahead", x.landOf(0, END - 1, 0), 0);
            due("on it", x.landOf(0, END, 0), 1);
        });
        edge(border, "on day 0", () -> {
            LandBonds x = desk(2, 1, 0);
            x.fact(BORDER, 0, 1, 0, 0);
            due("on it", x.landOf(0, 0, 0), 1);
        });
        edge(border, "two of a day, by number", () -> {
            LandBonds x = desk(3, 1, 0);
            x.fact(BORDER, 0, 2, 0, 5);
            x.fact(BORDER, 0, 1, 0, 5);
            due("the later one", x.landOf(0, 5, 0), 1);
        });
        edge(border, "two, the later day first by number", () -> {
            LandBonds x = desk(3, 1, 0);
            x.fact(BORDER, 0, 2, 0, 9);
            x.fact(BORDER, 0, 1, 0, 5);
            due("on 5", x.landOf(0, 5, 0), 1);
            due("on 9", x.landOf(0, 9, 0), 2);
        });
        edge(border, "the last of a hundred facts", () -> {
            LandBonds x = desk(2, 2, 1);
            for (int f = 0; f < 99; f++) x.fact(f % 2 == 0 ? STAY : BORDER, 0, 0, 0, f);
            x.fact(BORDER, 0, 1, 0, 99);
            due("ahead", x.landOf(0, 98, 0), 0);
            due("then", x.landOf(0, 99, 0), 1);
            due("another place", x.landOf(1, 99, 0), 1);
        });
        edge(border, "of a place that is of none", () -> {
            LandBonds x = desk(1, 0, 0);
            x.place(NONE);
            x.fact(BORDER, 0, 0, 0, 5);
            due("ahead", x.landOf(0, 4, 0), NONE);
            due("then", x.landOf(0, 5, 0), 0);
        });
        edge(border, "to the land that it is of", () -> {
            LandBonds x = desk(1, 1, 1);
            act(x, 0, "gain border to;", 0, END);
            x.fact(BORDER, 0, 0, 0, 5);
            due("its land", x.landOf(0, 5, 0), 0);
            has(x, 0, 5, 1);
        });
        edge(border, "asked of each person, 0 first", () -> {
            LandBonds x = desk(1, 1, 1);
            for (int p = 1; p < 20; p++) x.person(0, p - 1, NONE);
            act(x, 0, "gain border not father;", 0, END);
            x.fact(BORDER, 7, 0, 0, 5);
            for (int p = 0; p < 20; p++) has(x, p, 5, 1 - p % 2);
        });
        edge(border, "of each land", () -> {
            LandBonds x = desk(5, 1, 1);
            for (int land = 0; land < 5; land++) act(x, land, "gain border 1;", 0, END);
            x.fact(BORDER, 0, 4, 0, 5);
            due("lands", x.lands(0, 5, 0, 0), 31);
        });
        edge("The LAND of a PLACE on a DAY in WAY 0; NONE.", "a border in doubt", () -> {
            LandBonds x = desk(2, 1, 0);
            x.fact(BORDER, 0, 1, 0, 9);
            x.also(0, 5);
            due("on the other day", x.landOf(0, 5, 0), 0);
            due("on the day told first", x.landOf(0, 9, 0), 1);
        });
        for (int place : new int[] {-1, 2, 12, LEAST, GREATEST}) {
            edge("NoSuchElementException: no such PLACE, DAY (as everywhere).", "place " + place, () -> {
                dueOf("landOf", () -> desk(2, 2, 0).landOf(place, 0, 0), NO_SUCH);
            });
        }
    }

    private static void stays() {
        String stay = "STAY: the PERSON is at that PLACE from then on; nothing is asked.";
        edge(stay, "nothing is asked", () -> {
            LandBonds x = desk(1, 1, 1);
            act(x, 0, "gain birth 1;gain wed 1;gain oath 1;gain choose 1;gain serve 1;gain border 1;gain act year;", 0, END);
            x.fact(STAY, 0, 0, 0, 400);
            has(x, 0, 400, 0);
        });
        edge(stay, "on its day, in front of a fact that follows, not behind one", () -> {
            LandBonds x = desk(1, 1, 2);
            act(x, 0, "gain oath here;", 0, END);
            x.fact(OATH, 1, 0, 0, 5);
            x.fact(STAY, 0, 0, 0, 5);
            x.fact(STAY, 1, 0, 0, 5);
            x.fact(OATH, 0, 0, 0, 5);
            has(x, 0, 5, 1);
            has(x, 1, 5, 0);
        });
        edge(stay, "until the next one", () -> {
            LandBonds x = desk(2, 2, 1);
            x.fact(STAY, 0, 0, 0, 5);
            x.fact(STAY, 0, 0, 1, 9);
            value(x, "here", 0, 5, 0);
            value(x, "here", 0, 6, 1);
            value(x, "here", 0, 9, 1);
            value(x, "here", 0, 10, 0);
        });
    }

    private static void firstClauses() {
        String asked = "if it has that BOND: the first 'lose' of that WHEN, by ACTS IN FORCE of that LAND by number, along each text, "
            + "that isn't 0: it has it no more; if it hasn't: the first 'gain' likewise.";
        edge(asked, "the first along a text", () -> {
            LandBonds x = desk(1, 1, 1);
            act(x, 0, "lose oath 1;gain oath 0;gain serve 1;gain oath 5;gain oath 1;", 0, END);
            x.fact(OATH, 0, 0, 0, 5);
            due("its clause", x.chain(0, 0, 5, 0, 3, 0), 3);
        });
        edge(asked, "the first act by number, in force", () -> {
            LandBonds x = desk(2, 1, 1);
            act(x, 0, "gain oath 1;", 6, END);
            act(x, 1, "gain oath 1;", 0, END);
            act(x, 0, "gain oath 0;", 0, END);
            act(x, 0, "gain oath 1;", 4, END);
            act(x, 0, "gain oath 1;", 0, END);
            x.fact(OATH, 0, 0, 0, 5);
            due("its act", x.chain(0, 0, 5, 0, 2, 0), 3);
        });
        edge(asked, "below 0 isn't 0", () -> {
            LandBonds x = desk(1, 1, 1);
            act(x, 0, "gain oath 0-1;gain oath 1;lose choose 0-5;", 0, END);
            x.fact(OATH, 0, 0, 0, 5);
            x.fact(CHOICE, 0, 0, 0, 6);
            due("its clause", x.chain(0, 0, 5, 0, 3, 0), 0);
            has(x, 0, 6, 0);
        });
        edge(asked, "one change of a happening", () -> {
            LandBonds x = desk(1, 1, 1);
            act(x, 0, "gain oath 1;lose oath 1;gain oath 1;lose oath 1;", 0, END);
            for (int day = 5; day < 9; day++) x.fact(OATH, 0, 0, 0, day);
            for (int day = 5; day < 9; day++) has(x, 0, day, day % 2);
            due("gained", x.times(0, 0, 9, 0, 0), 2);
            due("lost", x.times(0, 0, 9, 1, 0), 2);
        });
        edge(asked, "one that has it gains it not again", () -> {
            LandBonds x = desk(1, 1, 1);
            act(x, 0, "gain oath 1;", 0, END);
            x.fact(OATH, 0, 0, 0, 5);
            x.fact(OATH, 0, 0, 0, 6);
            due("gained", x.times(0, 0, 9, 0, 0), 1);
            due("when", x.chain(0, 0, 9, 0, 1, 0), 5);
        });
        edge(asked, "one that hasn't it loses nothing", () -> {
            LandBonds x = desk(1, 1, 1);
            act(x, 0, "lose oath 1;", 0, END);
            x.fact(OATH, 0, 0, 0, 5);
            due("lost", x.times(0, 0, 9, 1, 0), 0);
        });
        edge(asked, "the first 'lose' and its children alone", () -> {
            LandBonds x = desk(1, 1, 1);
            x.person(0, 0, NONE);
            x.fact(BIRTH, 1, 0, 0, 0);
            act(x, 0, "gain act 1;lose oath 0 children 9;lose oath 1;lose oath 1 children 9;", 1, END);
            x.fact(OATH, 0, 0, 0, 5);
            has(x, 0, 5, 0);
            has(x, 1, 5, 1);
        });
        edge(asked, "of another land", () -> {
            LandBonds x = desk(2, 1, 1);
            act(x, 1, "gain oath 1;", 0, END);
            x.fact(OATH, 0, 0, 0, 5);
            due("lands", x.lands(0, 5, 0, 0), 2);
        });
        edge(asked, "'unless' is behind its own clause alone", () -> {
            LandBonds x = desk(1, 1, 1);
            act(x, 0, "gain oath 1 unless 1;gain oath 1 unless 0;", 0, END);
            x.fact(OATH, 0, 0, 0, 5);
            due("its clause", x.chain(0, 0, 5, 0, 3, 0), 1);
        });
    }

    private static void allLandsAtOnce() {
        String all = "All LANDS are asked of a PERSON as it was ahead of that happening to it; then all changes.";
        edge(all, "what land 0 gives isn't seen by land 1", () -> {
            LandBonds x = desk(2, 1, 1);
            act(x, 0, "gain oath 1;", 0, END);
            act(x, 1, "gain oath others;", 0, END);
            x.fact(OATH, 0, 0, 0, 5);
            due("on 5", x.lands(0, 5, 0, 0), 1);
            x.fact(OATH, 0, 0, 0, 6);
            due("on 6", x.lands(0, 6, 0, 0), 3);
        });
        edge(all, "what land 0 takes is still seen by land 1", () -> {
            LandBonds x = desk(2, 1, 1);
            act(x, 0, "gain act 1;lose oath 1;", 1, END);
            act(x, 1, "gain oath others;", 0, END);
            x.fact(OATH, 0, 0, 0, 5);
            due("on 5", x.lands(0, 5, 0, 0), 2);
        });
        edge(all, "what land 1 gives isn't seen by land 0", () -> {
            LandBonds x = desk(2, 1, 1);
            act(x, 1, "gain oath 1;", 0, END);
            act(x, 0, "gain oath others;", 0, END);
            x.fact(OATH, 0, 0, 0, 5);
            due("on 5", x.lands(0, 5, 0, 0), 2);
        });
        edge(all, "two lands change places", () -> {
            LandBonds x = desk(2, 1, 1);
            act(x, 0, "gain act 1;lose oath not others;gain oath others;", 1, END);
            act(x, 1, "lose oath not others;gain oath others;", 0, END);
            x.fact(OATH, 0, 0, 0, 5);
            due("on 5", x.lands(0, 5, 0, 0), 2);
        });
        edge(all, "a child that is asked behind its father has what came by him", () -> {
            LandBonds x = desk(1, 1, 1);
            x.person(1, 0, NONE);
            x.fact(BIRTH, 1, 0, 0, 0);
            act(x, 0, "gain border sex=0 children 9;lose border sex;", 0, END);
            x.fact(BORDER, 0, 0, 0, 5);
            has(x, 1, 5, 0);
            due("gained", x.times(1, 0, 5, 0, 0), 1);
            due("lost", x.times(1, 0, 5, 1, 0), 1);
        });
    }

    /** Person 1, a child of person 0, born on day 100; person 0 gains with children on a day. */
    private static LandBonds family(int children, int day) {
        LandBonds x = desk(1, 1, 1);
        x.person(0, 0, NONE);
        x.fact(BIRTH, 1, 0, 0, 100);
        x.fact(OATH, 0, 0, 0, day);
        act(x, 0, "gain oath 1 children " + children + ";", 0, END);
        return x;
    }

    private static void childrenByAge() {
        String young = "that is younger than n (in YEARS; one not born yet isn't)";
        int[][] rows = {{1, 99, 0}, {1, 100, 1}, {1, 464, 1}, {1, 465, 0}, {2, 829, 1}, {2, 830, 0}, {0, 100, 0}, {0, 500, 0},
            {99999, 99, 0}, {99999, 72998, 1}, {199, 72734, 1}, {199, 72735, 0}};
        for (int[] r : rows) {
            edge(young, "younger than " + r[0] + " on " + r[1] + ", born on 100", () -> has(family(r[0], r[1]), 1, r[1], r[2]));
        }
        edge(young, "born on that day behind it", () -> {
            LandBonds x = desk(1, 1, 1);
            x.person(0, 0, NONE);
            act(x, 0, "gain oath 1 children 9;", 0, END);
            x.fact(OATH, 0, 0, 0, 5);
            x.fact(BIRTH, 1, 0, 0, 5);
            has(x, 1, 5, 0);
        });
        edge(young, "without a birth", () -> {
            LandBonds x = desk(1, 1, 1);
            x.person(0, 0, NONE);
            act(x, 0, "gain oath 1 children 99999;", 0, END);
            x.fact(OATH, 0, 0, 0, 5);
            has(x, 1, END, 0);
        });
        edge("With 'children' n: each PERSON whose father it is", "without 'children'", () -> {
            LandBonds x = desk(1, 1, 1);
            x.person(0, 0, NONE);
            act(x, 0, "gain oath 1;lose choose 1;gain serve 1 children 9;", 0, END);
            x.fact(BIRTH, 1, 0, 0, 0);
            x.fact(OATH, 0, 0, 0, 5);
            has(x, 1, 5, 0);
            x.fact(CHOICE, 0, 0, 0, 6);
            x.fact(SERVICE, 0, 0, 0, 7);
            has(x, 1, 7, 1);
            x.fact(CHOICE, 0, 0, 0, 8);
            has(x, 0, 8, 0);
            has(x, 1, 8, 1);
        });
    }

    private static void childrenByParent() {
        String parent = "each PERSON whose father it is (whose mother, if no father is told), by number";
        int[][] rows = {{0, NONE, 1}, {0, 1, 1}, {0, 0, 1}, {NONE, 0, 1}, {1, 0, 0}, {1, NONE, 0}, {NONE, 1, 0}, {NONE, NONE, 0}};
        for (int[] r : rows) {
            edge(parent, "father " + r[0] + ", mother " + r[1], () -> {
                LandBonds x = desk(1, 1, 2);
                x.person(0, r[0], r[1]);
                act(x, 0, "gain oath 1 children 9;lose choose 1 children 9;", 0, END);
                x.fact(BIRTH, 2, 0, 0, 0);
                x.fact(OATH, 0, 0, 0, 5);
                x.fact(CHOICE, 0, 0, 0, 9);
                has(x, 2, 5, r[2]);
                has(x, 2, 9, 0);
                due("lost", x.times(2, 0, 9, 1, 0), r[2]);
            });
        }
        edge(parent, "each of nineteen", () -> {
            LandBonds x = desk(1, 1, 1);
            for (int p = 1; p < 20; p++) x.person(0, p % 2 == 0 ? 0 : NONE, 0);
            act(x, 0, "gain oath 1 children 9;", 0, END);
            for (int p = 1; p < 20; p++) x.fact(BIRTH, p, 0, 0, 0);
            x.fact(OATH, 0, 0, 0, 5);
            for (int p = 0; p < 20; p++) has(x, p, 5, 1);
        });
    }

    private static void childrenInTurn() {
        String too = "and has the BOND (hasn't it) loses (gains) it, too, by that CLAUSE, and theirs don't in turn.";
        edge(too, "theirs don't", () -> {
            LandBonds x = desk(1, 1, 1);
            x.person(0, 0, NONE);
            x.person(0, 1, NONE);
            act(x, 0, "gain oath 1 children 9;gain act sex=0;lose choose 1 children 9;", 3, END);
            x.fact(BIRTH, 1, 0, 0, 0);
            x.fact(BIRTH, 2, 0, 0, 0);
            x.fact(CHOICE, 0, 0, 0, 5);
            for (int p = 0; p < 3; p++) has(x, p, 5, p == 2 ? 1 : 0);
            x.fact(CHOICE, 2, 0, 0, 6);
            x.fact(OATH, 0, 0, 0, 7);
            for (int p = 0; p < 3; p++) has(x, p, 7, p == 2 ? 0 : 1);
        });
        edge(too, "one that has it gains nothing", () -> {
            LandBonds x = desk(1, 1, 1);
            x.person(0, 0, NONE);
            act(x, 0, "gain oath 1 children 9;gain choose 1;", 0, END);
            x.fact(BIRTH, 1, 0, 0, 0);
            x.fact(CHOICE, 1, 0, 0, 4);
            x.fact(OATH, 0, 0, 0, 5);
            due("gained", x.times(1, 0, 5, 0, 0), 1);
            due("as it came", x.chain(1, 0, 5, 0, 1, 0), 4);
        });
        edge(too, "one that hasn't it loses nothing", () -> {
            LandBonds x = desk(1, 1, 1);
            x.person(0, 0, NONE);
            act(x, 0, "gain oath 1;lose choose 1 children 9;", 0, END);
            x.fact(BIRTH, 1, 0, 0, 0);
            x.fact(OATH, 0, 0, 0, 4);
            x.fact(CHOICE, 0, 0, 0, 5);
            due("lost", x.times(1, 0, 5, 1, 0), 0);
            has(x, 1, 5, 0);
        });
        edge(too, "nothing where the parent's stays", () -> {
            LandBonds x = desk(1, 1, 1);
            x.person(0, 0, NONE);
            act(x, 0, "gain act sex=0 and not father children 9;gain oath 1 children 9;lose oath 0 children 9;", 0, END);
            x.fact(BIRTH, 1, 0, 0, 4);
            x.fact(OATH, 0, 0, 0, 5);
            has(x, 0, 5, 1);
            has(x, 1, 5, 0);
        });
        edge(too, "of the last land, as of the first", () -> {
            LandBonds x = desk(5, 1, 19);
            x.person(0, 18, NONE);
            act(x, 4, "gain oath 1 children 9;lose oath 1 children 9;", 0, END);
            x.fact(BIRTH, 19, 0, 0, 4);
            for (int day = 5; day < 10; day++) x.fact(OATH, 18, 0, 0, day);
            due("gained", x.times(19, 4, 9, 0, 0), 3);
            due("lost", x.times(19, 4, 9, 1, 0), 2);
            for (int land = 0; land < 4; land++) due("of land " + land, x.times(19, land, 9, 1, 0), 0);
        });
        edge(too, "of that land alone", () -> {
            LandBonds x = desk(2, 1, 1);
            x.person(0, 0, NONE);
            act(x, 0, "gain oath 1 children 9;", 0, END);
            act(x, 1, "gain oath 1;", 0, END);
            x.fact(BIRTH, 1, 0, 0, 4);
            x.fact(OATH, 0, 0, 0, 5);
            due("the father's", x.lands(0, 5, 0, 0), 3);
            due("the child's", x.lands(1, 5, 0, 0), 1);
        });
    }

    private static void here() {
        String here = "here: 1, if the PLACE of the BIRTH, WEDDING, BORDER (else: that where the PERSON is by STAYS) is of the LAND.";
        int[] kinds = {BIRTH, WEDDING, BORDER};
        String[] whens = {"birth", "wed", "border"};
        for (int i = 0; i < 3; i++) {
            int kind = kinds[i];
            String when = whens[i];
            edge(here, "'" + when + "' at a place of the land, a stay elsewhere", () -> {
                LandBonds x = desk(2, 2, 2);
                act(x, 0, "gain " + when + " here;", 0, END);
                act(x, 1, "gain " + when + " here;", 0, END);
                x.fact(STAY, 0, 0, 1, 3);
                x.fact(kind, 0, kind == WEDDING ? 1 : 0, 0, 5);
                due("lands", x.lands(0, 5, 0, 0), 1);
            });
            edge(here, "'" + when + "' elsewhere, a stay in the land", () -> {
                LandBonds x = desk(2, 2, 2);
                act(x, 0, "gain " + when + " here;", 0, END);
                act(x, 1, "gain " + when + " here;", 0, END);
                x.fact(STAY, 0, 0, 0, 3);
                x.fact(kind, 0, 1, 1, 5);
                due("lands", x.lands(0, 5, 0, 0), 2);
            });
        }
        String[] others = {"oath", "choose", "serve"};
        for (int i = 0; i < 3; i++) {
            int kind = OATH + i;
            String when = others[i];
            edge(here, "'" + when + "' where the person stays", () -> {
                LandBonds x = desk(2, 2, 2);
                for (int land = 0; land < 2; land++) act(x, land, "gain " + when + " here;", 0, END);
                x.fact(STAY, 0, 0, 1, 3);
                x.fact(STAY, 1, 0, 0, 4);
                x.fact(kind, 0, 0, 0, 5);
                due("lands", x.lands(0, 5, 0, 0), 2);
            });
        }
        edge(here, "no stay at all", () -> {
            LandBonds x = desk(1, 1, 1);
            value(x, "here", 0, 5, 0);
        });
        edge(here, "a place of none", () -> {
            LandBonds x = desk(1, 0, 2);
            x.place(NONE);
            x.fact(STAY, 0, 0, 0, 3);
            value(x, "here", 0, 5, 0);
            act(x, 0, "gain birth here;gain wed here;", 0, END);
            x.fact(BIRTH, 0, 0, 0, 6);
            x.fact(WEDDING, 0, 1, 0, 6);
            has(x, 0, 6, 0);
        });
        edge(here, "a place that came by a border", () -> {
            LandBonds x = desk(2, 2, 1);
            x.fact(STAY, 0, 0, 1, 3);
            x.fact(BORDER, 0, 0, 1, 10);
            value(x, "here", 0, 10, 0);
            value(x, "here", 0, 11, 1);
        });
    }

    private static void parents() {
        String parents = "father, mother: whether that PERSON has the BOND.";
        edge(parents, "none told", () -> {
            LandBonds x = desk(1, 1, 2);
            act(x, 0, "gain act 1;", 3, 4);
            x.person(0, NONE, NONE);
            act(x, 0, "lose oath 1;", 0, END);
            x.fact(OATH, 2, 0, 0, 4);
            served(x, "father", 2, 5, 0);
            served(x, "mother", 2, 5, 0);
        });
        edge(parents, "each of them", () -> {
            LandBonds x = desk(1, 1, 2);
            x.person(0, 0, 1);
            x.person(0, 1, 0);
            act(x, 0, "gain oath 1;", 0, END);
            x.fact(OATH, 0, 0, 0, 4);
            served(x, "father", 2, 5, 1);
            served(x, "mother", 2, 5, 0);
            served(x, "father", 3, 5, 0);
            served(x, "mother", 3, 5, 1);
        });
        edge(parents, "to that land, not to another", () -> {
            LandBonds x = desk(2, 1, 1);
            x.person(0, 0, 0);
            act(x, 1, "gain oath 1;", 0, END);
            x.fact(OATH, 0, 0, 0, 4);
            served(x, "father", 1, 5, 0);
            served(x, "mother", 1, 5, 0);
        });
    }

    /** Person 2's birth on day 90 asks whether its parents 0 and 1 are wedded. */
    private static void wedded(String edge, int want, int... weddings) {
        edge("wedded: 'birth': whether father and mother are WEDDED to each other (each one's last WEDDING)", edge, () -> {
            LandBonds x = desk(1, 1, 4);
            x.person(0, 0, 1);
            act(x, 0, "gain birth wedded;", 0, END);
            for (int i = 0; i < weddings.length; i += 3) x.fact(WEDDING, weddings[i], weddings[i + 1], 0, weddings[i + 2]);
            x.fact(BIRTH, 4, 0, 0, 90);
            has(x, 4, 90, want);
        });
    }

    private static void wedded() {
        wedded("no wedding", 0);
        wedded("the father the one", 1, 0, 1, 80);
        wedded("the mother the one", 1, 1, 0, 80);
        wedded("the day ahead", 1, 0, 1, 89);
        wedded("the day behind", 0, 0, 1, 91);
        wedded("on that day ahead of it", 1, 0, 1, 90);
        wedded("the father wed another since", 0, 0, 1, 70, 0, 3, 80);
        wedded("the mother wed another since", 0, 0, 1, 70, 2, 1, 80);
        wedded("the father wed another ahead", 1, 0, 3, 60, 0, 1, 70);
        wedded("the mother wed another ahead", 1, 1, 2, 60, 0, 1, 70);
        wedded("both wed others since", 0, 0, 1, 60, 0, 3, 70, 2, 1, 80);
        wedded("again to each other", 1, 0, 1, 50, 0, 3, 60, 2, 1, 70, 1, 0, 80);
        wedded("each to another one alone", 0, 0, 3, 60, 2, 1, 70);
        edge("wedded: 'birth': whether father and mother are WEDDED to each other (each one's last WEDDING)", "it is 1", () -> {
            LandBonds x = desk(1, 1, 2);
            x.person(0, 0, 1);
            x.person(0, 1, 0);
            act(x, 0, "gain birth wedded=1;", 0, END);
            x.fact(WEDDING, 0, 1, 0, 80);
            x.fact(BIRTH, 2, 0, 0, 90);
            x.fact(BIRTH, 3, 0, 0, 90);
            has(x, 2, 90, 1);
            has(x, 3, 90, 1);
        });
        String birth = "wedded: 'birth': whether father and mother are WEDDED to each other (each one's last WEDDING)";
        int[][] parents = {{0, NONE}, {NONE, 1}, {NONE, NONE}, {0, 0}};
        for (int[] p : parents) {
            edge(birth, "father " + p[0] + ", mother " + p[1], () -> {
                LandBonds x = desk(1, 1, 2);
                x.person(0, p[0], p[1]);
                act(x, 0, "gain birth wedded;", 0, END);
                x.fact(WEDDING, 0, 1, 0, 80);
                x.fact(BIRTH, 2, 0, 0, 90);
                has(x, 2, 90, 0);
            });
        }
        edge(birth, "wedded itself, its parents not", () -> {
            LandBonds x = desk(1, 1, 2);
            x.person(0, 0, 1);
            act(x, 0, "gain birth wedded;", 0, END);
            x.fact(WEDDING, 0, 2, 0, 80);
            x.fact(BIRTH, 2, 0, 0, 90);
            has(x, 2, 90, 0);
        });
        edge("else whether the PERSON is WEDDED.", "its parents are, it isn't", () -> {
            LandBonds x = desk(1, 1, 2);
            x.person(0, 0, 1);
            x.fact(WEDDING, 0, 1, 0, 80);
            value(x, "wedded", 2, 90, 0);
            value(x, "wedded", 0, 90, 1);
            value(x, "wedded", 1, 90, 1);
        });
    }

    private static void spouse() {
        String spouse = "spouse: whether that one has the BOND ('wed': the other one, if it had it ahead of this WEDDING).";
        edge(spouse, "without a wedding", () -> {
            LandBonds x = desk(1, 1, 2);
            act(x, 0, "gain oath 1;", 0, END);
            x.fact(OATH, 0, 0, 0, 4);
            x.fact(OATH, 1, 0, 0, 4);
            act(x, 0, "lose act spouse;", 5, END);
            has(x, 0, 5, 1);
        });
        edge(spouse, "of the last wedding", () -> {
            LandBonds x = desk(1, 1, 3);
            act(x, 0, "gain oath 1;", 0, END);
            x.fact(OATH, 1, 0, 0, 4);
            x.fact(WEDDING, 0, 1, 0, 10);
            x.fact(WEDDING, 2, 0, 0, 20);
            value(x, "spouse", 0, 11, 1);
            value(x, "spouse", 0, 20, 1);
            value(x, "spouse", 0, 21, 0);
        });
        edge(spouse, "each of two has the other", () -> {
            LandBonds x = desk(1, 1, 2);
            x.fact(WEDDING, 0, 1, 0, 10);
            act(x, 0, "gain oath 1;lose oath 1;", 0, END);
            x.fact(OATH, 0, 0, 0, 20);
            served(x, "spouse", 1, 21, 1);
            x.fact(OATH, 0, 0, 0, 30);
            x.fact(OATH, 1, 0, 0, 30);
            served(x, "spouse", 0, 31, 1);
        });
        edge(spouse, "to that land, not to another", () -> {
            LandBonds x = desk(2, 1, 2);
            act(x, 1, "gain oath 1;", 0, END);
            x.fact(OATH, 1, 0, 0, 4);
            x.fact(WEDDING, 0, 1, 0, 10);
            value(x, "spouse", 0, 11, 0);
        });
        edge(spouse, "'wed': what the one gains by it isn't seen by the other", () -> {
            LandBonds x = desk(1, 1, 2);
            act(x, 0, "gain wed sex=0 or spouse;", 0, END);
            x.fact(WEDDING, 0, 1, 0, 5);
            has(x, 0, 5, 1);
            has(x, 1, 5, 0);
        });
        edge(spouse, "'wed': what the one loses by it is still seen by the other", () -> {
            LandBonds x = desk(1, 1, 2);
            act(x, 0, "gain oath 1;lose wed 1;gain wed spouse;", 0, END);
            x.fact(OATH, 0, 0, 0, 4);
            x.fact(WEDDING, 0, 1, 0, 5);
            has(x, 0, 5, 0);
            has(x, 1, 5, 1);
        });
        edge(spouse, "'wed': the other one, not the one of a wedding ahead", () -> {
            LandBonds x = desk(1, 1, 3);
            act(x, 0, "gain oath 1;gain wed spouse;", 0, END);
            x.fact(WEDDING, 0, 1, 0, 3);
            x.fact(OATH, 1, 0, 0, 4);
            x.fact(WEDDING, 0, 2, 0, 5);
            has(x, 0, 5, 0);
            x.fact(WEDDING, 2, 1, 0, 6);
            has(x, 2, 6, 1);
        });
        edge(spouse, "'wed': of two that have it", () -> {
            LandBonds x = desk(1, 1, 2);
            act(x, 0, "gain act 1;lose wed spouse;", 1, END);
            x.fact(WEDDING, 0, 1, 0, 5);
            has(x, 0, 5, 0);
            has(x, 1, 5, 0);
        });
    }

    private static void sexAndAge() {
        edge("sex. age: YEARS since BIRTH, cut down (0 without).", "each sex", () -> {
            LandBonds x = desk(1, 1, 2);
            value(x, "sex", 0, 5, 0);
            value(x, "sex", 1, 5, 1);
        });
        String age = "age: YEARS since BIRTH, cut down (0 without).";
        int[][] rows = {{100, 0}, {101, 0}, {464, 0}, {465, 1}, {829, 1}, {830, 2}, {72734, 198}, {72735, 199}};
        for (int[] r : rows) {
            edge(age, "on " + r[0] + ", born on 100", () -> {
                LandBonds x = desk(1, 1, 1);
                x.fact(BIRTH, 0, 0, 0, 100);
                act(x, 0, "gain oath age=" + r[1] + ";", 0, END);
                x.fact(OATH, 0, 0, 0, r[0]);
                has(x, 0, r[0], 1);
            });
        }
        edge(age, "without a birth, and ahead of it", () -> {
            LandBonds x = desk(1, 1, 2);
            x.fact(BIRTH, 1, 0, 0, 900);
            value(x, "age", 0, 800, 0);
            value(x, "age", 1, 800, 0);
        });
        edge(age, "born on day 0", () -> {
            LandBonds x = desk(1, 1, 1);
            x.fact(BIRTH, 0, 0, 0, 0);
            value(x, "age", 0, 364, 0);
            value(x, "age", 0, 365, 1);
        });
        edge(age, "at its birth", () -> {
            LandBonds x = desk(1, 1, 1);
            act(x, 0, "gain birth age=0 and year=2;", 0, END);
            x.fact(BIRTH, 0, 0, 0, 900);
            has(x, 0, 900, 1);
        });
        edge("year: DAY by 365, cut down.", "edges of years", () -> {
            LandBonds x = desk(1, 1, 1);
            value(x, "year", 0, 0, 0);
            value(x, "year", 0, 364, 0);
            value(x, "year", 0, 365, 1);
            value(x, "year", 0, 72634, 198);
            value(x, "year", 0, 72635, 199);
            value(x, "year", 0, 72998, 199);
        });
    }

    private static void stay() {
        String stay = "stay: DAYS since the PERSON's last STAY began, if that PLACE is of the LAND (0 else).";
        edge(stay, "its first day, the next", () -> {
            LandBonds x = desk(1, 1, 1);
            act(x, 0, "gain oath 0=stay and here;", 0, END);
            x.fact(STAY, 0, 0, 0, 10);
            x.fact(OATH, 0, 0, 0, 10);
            has(x, 0, 10, 1);
            LandBonds y = desk(1, 1, 1);
            y.fact(STAY, 0, 0, 0, 10);
            value(y, "stay", 0, 11, 1);
            value(y, "stay", 0, 72998, 72988);
        });
        edge(stay, "on day 0", () -> {
            LandBonds x = desk(1, 1, 1);
            x.fact(STAY, 0, 0, 0, 0);
            value(x, "stay", 0, 7, 7);
        });
        edge(stay, "none", () -> value(desk(1, 1, 1), "stay", 0, 500, 0));
        edge(stay, "the last one", () -> {
            LandBonds x = desk(1, 2, 1);
            x.fact(STAY, 0, 0, 1, 20);
            x.fact(STAY, 0, 0, 0, 10);
            value(x, "stay", 0, 19, 9);
            value(x, "stay", 0, 30, 10);
        });
        edge(stay, "in another land", () -> {
            LandBonds x = desk(2, 2, 1);
            x.fact(STAY, 0, 0, 0, 10);
            x.fact(STAY, 0, 0, 1, 20);
            value(x, "stay", 0, 15, 5);
            value(x, "stay", 0, 30, 0);
        });
        edge(stay, "at a place of none", () -> {
            LandBonds x = desk(1, 0, 1);
            x.place(NONE);
            x.fact(STAY, 0, 0, 0, 10);
            value(x, "stay", 0, 30, 0);
        });
        edge(stay, "at a place that goes and comes back", () -> {
            LandBonds x = desk(2, 1, 1);
            x.fact(STAY, 0, 0, 0, 10);
            x.fact(BORDER, 0, 1, 0, 20);
            x.fact(BORDER, 0, 0, 0, 30);
            value(x, "stay", 0, 20, 10);
            value(x, "stay", 0, 21, 0);
            value(x, "stay", 0, 31, 21);
        });
    }

    private static void hasAndOthers() {
        String has = "has: whether it has the BOND, others: how many BONDS to other LANDS.";
        edge(has, "has, where it gains and where it loses", () -> {
            LandBonds x = desk(1, 1, 1);
            act(x, 0, "gain oath has;gain choose not has;lose oath has;", 0, END);
            x.fact(OATH, 0, 0, 0, 5);
            has(x, 0, 5, 0);
            x.fact(CHOICE, 0, 0, 0, 6);
            has(x, 0, 6, 1);
            x.fact(OATH, 0, 0, 0, 7);
            has(x, 0, 7, 0);
        });
        edge(has, "others, from none to four", () -> {
            LandBonds x = desk(5, 1, 1);
            for (int land = 0; land < 5; land++) act(x, land, "gain oath to;", 0, END);
            for (int land = 4; land > 0; land--) {
                value(x, "others", 0, 10 * (5 - land), 4 - land);
                x.fact(OATH, 0, land, 0, 10 * (5 - land));
            }
            value(x, "others", 0, 60, 4);
        });
        edge(has, "others without the land itself", () -> {
            LandBonds x = desk(2, 1, 1);
            act(x, 0, "gain act 1;lose oath others=0;", 1, END);
            x.fact(OATH, 0, 0, 0, 5);
            has(x, 0, 5, 0);
        });
    }

    private static void to() {
        String to = "to: 1, if the OATH, CHOICE, SERVICE, BORDER is to the LAND ('act': 1).";
        String[] whens = {"oath", "choose", "serve", "border"};
        for (int i = 0; i < 4; i++) {
            int kind = OATH + i;
            String when = whens[i];
            edge(to, "'" + when + "' to it, to another one", () -> {
                LandBonds x = desk(3, 1, 1);
                for (int land = 0; land < 3; land++) act(x, land, "gain " + when + " to=1;lose " + when + " to=0;", 0, END);
                x.fact(kind, 0, 1, 0, 5);
                due("to 1", x.lands(0, 5, 0, 0), 2);
                x.fact(kind, 0, 2, 0, 6);
                due("to 2", x.lands(0, 6, 0, 0), 4);
            });
        }
        edge(to, "'act'", () -> {
            value(desk(1, 1, 1), "to", 0, 5, 1);
            LandBonds x = desk(3, 1, 1);
            act(x, 1, "gain act to=1;", 6, END);
            x.fact(OATH, 0, 2, 0, 5);
            due("of land 1, behind an oath to land 2", x.lands(0, 6, 0, 0), 2);
        });
        edge(to, "'birth' and 'wed' are to none", () -> {
            LandBonds x = desk(2, 1, 2);
            act(x, 0, "gain birth to;gain wed to;", 0, END);
            act(x, 1, "gain birth to;gain wed to;", 0, END);
            x.fact(BIRTH, 0, 0, 0, 5);
            x.fact(WEDDING, 0, 1, 0, 6);
            x.fact(WEDDING, 1, 0, 0, 7);
            due("lands", x.lands(0, 7, 0, 0) + x.lands(1, 7, 0, 0), 0);
        });
    }

    private static void moved() {
        String moved = "moved: DAYS since the last BORDER of the PLACE of its BIRTH (99999 without).";
        edge(moved, "without a birth, without a border", () -> {
            LandBonds x = desk(1, 2, 2);
            x.fact(BIRTH, 1, 0, 1, 0);
            x.fact(BORDER, 0, 0, 0, 5);
            value(x, "moved", 0, 10, 99999);
            value(x, "moved", 1, 10, 99999);
        });
        edge(moved, "ahead of its birth", () -> {
            LandBonds x = desk(1, 1, 1);
            x.fact(BORDER, 0, 0, 0, 5);
            x.fact(BIRTH, 0, 0, 0, 20);
            value(x, "moved", 0, 20, 99999);
            value(x, "moved", 0, 21, 16);
        });
        edge(moved, "on that day, the next", () -> {
            LandBonds x = desk(1, 1, 1);
            x.fact(BIRTH, 0, 0, 0, 2);
            x.fact(BORDER, 0, 0, 0, 5);
            value(x, "moved", 0, 5, 99999);
            value(x, "moved", 0, 6, 1);
            act(x, 0, "gain border moved=0;", 0, END);
            has(x, 0, 5, 1);
        });
        edge(moved, "on day 0", () -> {
            LandBonds x = desk(1, 1, 1);
            x.fact(BIRTH, 0, 0, 0, 0);
            x.fact(BORDER, 0, 0, 0, 0);
            value(x, "moved", 0, 7, 7);
        });
        edge(moved, "the last of two", () -> {
            LandBonds x = desk(2, 1, 1);
            x.fact(BIRTH, 0, 0, 0, 0);
            x.fact(BORDER, 0, 0, 0, 20);
            x.fact(BORDER, 0, 1, 0, 10);
            value(x, "moved", 0, 19, 9);
            value(x, "moved", 0, 25, 5);
        });
        edge(moved, "to whatever land, wherever it stays", () -> {
            LandBonds x = desk(2, 2, 1);
            x.fact(BIRTH, 0, 0, 1, 0);
            x.fact(STAY, 0, 0, 0, 0);
            x.fact(BORDER, 0, 0, 0, 10);
            value(x, "moved", 0, 15, 99999);
            x.fact(BORDER, 0, 1, 1, 10);
            value(x, "moved", 0, 15, 5);
        });
    }

    /** Of persons 0 (father) and 1 (mother) those in bits have the bond; person 2 is born with it. */
    private static LandBonds born(int father, int mother, int bits) {
        LandBonds x = desk(2, 1, 2);
        x.person(0, father, mother);
        act(x, 0, "gain oath 1;gain birth 1;", 0, END);
        act(x, 1, "gain choose 1;", 0, END);
        for (int p = 0; p < 2; p++) x.fact(CHOICE, p, 0, 0, 3);
        for (int p = 0; p < 2; p++) if ((bits >> p & 1) == 1) x.fact(OATH, p, 0, 0, 4);
        x.fact(BIRTH, 2, 0, 0, 5);
        return x;
    }

    private static void leansByBirth() {
        String birth = "A BOND that was gained LEANS on that of the father, if it was by 'birth' and the father has it, "
            + "else of the mother, if she has";
        int[][] rows = {{0, 1, 3, 0}, {0, 1, 1, 0}, {0, 1, 2, 1}, {0, 1, 0, NONE}, {NONE, 1, 2, 1}, {NONE, 1, 0, NONE},
            {0, NONE, 1, 0}, {0, NONE, 2, NONE}, {NONE, NONE, 3, NONE}, {1, 0, 3, 1}, {0, 0, 1, 0}};
        for (int[] r : rows) {
            edge(birth, "father " + r[0] + ", mother " + r[1] + ", with bonds " + r[2], () -> {
                leans(born(r[0], r[1], r[2]), 2, 5, r[3]);
            });
        }
        edge(birth, "on the bond to that land, each its own", () -> {
            LandBonds x = desk(5, 1, 2);
            x.person(0, 0, 1);
            for (int land = 0; land < 5; land++) act(x, land, "gain oath to;gain birth 1;", 0, END);
            for (int land = 0; land < 5; land++) x.fact(OATH, land % 2, land, 0, 10 + land);
            x.fact(BIRTH, 2, 0, 0, 20);
            for (int land = 0; land < 5; land++) {
                due("on whose", x.chain(2, land, 20, 1, 0, 0), land % 2);
                due("as it came", x.chain(2, land, 20, 1, 1, 0), 10 + land);
            }
        });
        edge(birth, "whatever the clause tells", () -> {
            LandBonds x = desk(1, 1, 2);
            x.person(0, 0, 1);
            act(x, 0, "gain oath 1;gain birth not father or here;", 0, END);
            x.fact(OATH, 0, 0, 0, 4);
            x.fact(BIRTH, 2, 0, 0, 5);
            leans(x, 2, 5, 0);
        });
    }

    private static void leansByWedding() {
        String wed = "by 'wed' on the spouse's, if that one had it";
        edge(wed, "it had", () -> {
            LandBonds x = desk(1, 1, 2);
            act(x, 0, "gain oath 1;gain wed 1;", 0, END);
            x.fact(OATH, 1, 0, 0, 4);
            x.fact(WEDDING, 0, 1, 0, 5);
            leans(x, 0, 5, 1);
        });
        edge(wed, "it hadn't, neither had the other", () -> {
            LandBonds x = desk(1, 1, 2);
            act(x, 0, "gain wed 1;", 0, END);
            x.fact(WEDDING, 0, 1, 0, 5);
            leans(x, 0, 5, NONE);
            leans(x, 1, 5, NONE);
        });
        edge(wed, "it had and loses it by this wedding", () -> {
            LandBonds x = desk(1, 1, 2);
            act(x, 0, "gain oath 1;lose wed 1;gain wed 1;", 0, END);
            x.fact(OATH, 0, 0, 0, 4);
            x.fact(WEDDING, 0, 1, 0, 5);
            leans(x, 1, 5, 0);
            due("as it had come", x.chain(1, 0, 5, 1, 1, 0), 4);
        });
        edge(wed, "the father has it, the spouse hadn't", () -> {
            LandBonds x = desk(1, 1, 2);
            x.person(0, 0, NONE);
            act(x, 0, "gain oath 1;gain wed 1;", 0, END);
            x.fact(OATH, 0, 0, 0, 4);
            x.fact(WEDDING, 2, 1, 0, 5);
            leans(x, 2, 5, NONE);
        });
        edge(wed, "of another land", () -> {
            LandBonds x = desk(2, 1, 2);
            act(x, 1, "gain oath 1;", 0, END);
            act(x, 0, "gain wed 1;", 0, END);
            x.fact(OATH, 1, 0, 0, 4);
            x.fact(WEDDING, 0, 1, 0, 5);
            leans(x, 0, 5, NONE);
        });
    }

    private static void leansElse() {
        String children = "by 'children' on that parent's; else on none.";
        edge(children, "on the father's", () -> {
            LandBonds x = family(9, 200);
            leans(x, 1, 200, 0);
            due("by children", x.chain(1, 0, 200, 0, 5, 0), 1);
            due("the father's not", x.chain(1, 0, 200, 1, 5, 0), 0);
        });
        edge(children, "on the mother's that passed it on, by a wedding", () -> {
            LandBonds x = desk(1, 1, 2);
            x.person(0, NONE, 1);
            act(x, 0, "gain oath 1;gain wed spouse children 9;", 0, END);
            x.fact(BIRTH, 2, 0, 0, 3);
            x.fact(OATH, 0, 0, 0, 4);
            x.fact(WEDDING, 0, 1, 0, 5);
            leans(x, 2, 5, 1);
            due("three links", x.chain(2, 0, 5, NONE, 0, 0), 3);
            due("the last", x.chain(2, 0, 5, 2, 0, 0), 0);
        });
        String[] whens = {"oath", "choose", "serve", "border", "act"};
        for (int i = 0; i < 5; i++) {
            int kind = OATH + i;
            String when = whens[i];
            edge(children, "by '" + when + "', with father, mother and spouse that have it", () -> {
                LandBonds x = desk(1, 1, 2);
                x.person(0, 0, 1);
                x.person(1, NONE, NONE);
                int first = act(x, 0, "gain act 1;lose birth 1;", 3, 6);
                x.fact(WEDDING, 2, 3, 0, 4);
                x.fact(BIRTH, 2, 0, 0, 5);
                act(x, 0, "gain " + when + " 1;", 7, END);
                if (kind <= BORDER) x.fact(kind, 2, 0, 0, 8);
                due("act", first, 0);
                has(x, 2, 6, 0);
                has(x, 2, 8, 1);
                leans(x, 2, 8, NONE);
            });
        }
    }
}
