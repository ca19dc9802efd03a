/** Each sentence of the document that names an edge of what is told at the desk: terms, promises 1 to 11 and 22. */
public final class EdgesOfTelling extends Edges {
    public static void main(String[] args) throws java.io.IOException {
        begin("EdgesOfTelling");
        calls();
        days();
        evenings();
        lands();
        places();
        persons();
        factsOfKinds();
        factsRefused();
        factsMany();
        also();
        known();
        back();
        feed();
        actsRefused();
        actsTaken();
        actsBehindFaults();
        tapeOfActs();
        faultPlace();
        count();
        end();
    }

    private static void feedBlanks(LandBonds x, int times) {
        for (int i = 0; i < times; i++) x.feed(0x20202020, 0x20202020, 0x20202020, 0x20202020, 0x20202020);
    }

    /** Every call that is asked of a day, on this day and evening: person, land, place and act 0. */
    private static Calls.Call[] askedOn(LandBonds x, int day, int k) {
        return new Calls.Call[] {() -> bit(x.force(0, day, k)), () -> x.landOf(0, day, k), () -> x.belongs(0, 0, day, k),
            () -> x.says(0, 0, day, k), () -> x.settles(0, 0, day, k), () -> x.lands(0, day, 0, k),
            () -> x.chain(0, 0, day, NONE, 0, k), () -> x.times(0, 0, day, 0, k), () -> x.ifStruck(0, day, 1, k)};
    }

    private static void dueOn(LandBonds x, int day, int k, long... want) {
        Calls.Call[] asked = askedOn(x, day, k);
        for (int i = 0; i < asked.length; i++) {
            dueOf("call " + i + " on " + day + ", " + k, asked[i], want.length == 1 ? want[0] : want[i]);
        }
    }

    private static void calls() {
        edge("An object is used for at most 512 calls after it has been made", "the last of them", () -> {
            LandBonds x = desk(1, 1, 1);
            int calls = 3;
            for (int f = 0; f < 100; f++) x.fact(OATH, 0, 0, 0, f);
            for (int f = 0; f < 100; f++) x.also(f, 300 + f);
            for (int f = 0; f < 100; f++) x.also(f, 600);
            act(x, 0, "gain oath 1;", 0, END);
            calls += 302;
            for (int day = 300; calls < 512; calls++, day++) due("call " + calls, x.belongs(0, 0, day, 0), 1);
        });
    }

    private static void days() {
        String days = "DAYS of the world from 0 to 72999, 365 a YEAR.";
        String likewise = "NoSuchElementException: no such PLACE, DAY (as everywhere).";
        edge(days, "on the first", () -> {
            LandBonds x = desk(1, 1, 1);
            act(x, 0, "gain act 1;", 0, 1);
            due("a fact", x.fact(BIRTH, 0, 0, 0, 0), 0);
            dueOn(x, 0, 0, 1, 0, 1, 1, 0, 1, 1, 1, 1);
        });
        edge(days, "on the last", () -> {
            LandBonds x = desk(1, 1, 1);
            act(x, 0, "gain oath 1;", 0, END);
            due("a fact", x.fact(OATH, 0, 0, 0, END - 1), 0);
            due("a fact on the last", x.fact(CHOICE, 0, 0, 0, END), 1);
            dueOn(x, END, 0, 0, 0, 1, 1, 0, 1, 1, 1, 1);
        });
        for (int day : new int[] {-1, 73000, LEAST, GREATEST}) {
            edge(likewise, "day " + day, () -> {
                LandBonds x = desk(1, 1, 1);
                act(x, 0, "gain act 1;", 0, END);
                dueOn(x, day, 0, NO_SUCH);
            });
        }
        edge(days, "a year's last day and the next one's first", () -> {
            LandBonds x = desk(1, 0, 1);
            act(x, 0, "gain oath year=1; lose oath not year=1;", 0, END);
            for (int day : new int[] {0, 364, 365, 729, 730}) x.fact(OATH, 0, 0, 0, day);
            due("364", x.belongs(0, 0, 364, 0), 0);
            due("365", x.belongs(0, 0, 365, 0), 1);
            due("729", x.belongs(0, 0, 729, 0), 1);
            due("730", x.belongs(0, 0, 730, 0), 0);
        });
        edge(days, "the last year", () -> {
            LandBonds x = desk(1, 0, 1);
            act(x, 0, "gain act year=199;", END - 1, END);
            due("199", x.belongs(0, 0, END, 0), 1);
        });
    }

    private static void evenings() {
        String desk = "EVENINGS from 0 to 999; TONIGHT is 0 at first.";
        String refused = "IllegalArgumentException: n is below 0, or it would be above 999.";
        String none = "IllegalArgumentException: no such EVENING (0 to TONIGHT, as everywhere).";
        edge(desk, "at first", () -> due("tonight", new LandBonds().count(0), 0));
        edge(desk, "up to the last", () -> {
            LandBonds x = new LandBonds();
            due("all at once", x.evenings(999), 999);
            due("tonight", x.count(0), 999);
            due("asked of the last", x.ways(0, 999), 1);
        });
        edge("n EVENINGS go by: TONIGHT.", "none go by", () -> due("evenings(0)", new LandBonds().evenings(0), 0));
        edge("n EVENINGS go by: TONIGHT.", "none go by on the last", () -> {
            LandBonds x = new LandBonds();
            x.evenings(999);
            due("evenings(0)", x.evenings(0), 999);
        });
        for (int n : new int[] {-1, -999, LEAST}) {
            edge(refused, "below 0: " + n, () -> {
                LandBonds x = new LandBonds();
                x.evenings(5);
                dueOf("evenings", () -> x.evenings(n), ILLEGAL);
                due("tonight", x.count(0), 5);
            });
        }
        edge(refused, "one above 999", () -> {
            LandBonds x = new LandBonds();
            dueOf("1000", () -> x.evenings(1000), ILLEGAL);
            x.evenings(5);
            dueOf("5 and 995", () -> x.evenings(995), ILLEGAL);
            due("tonight", x.count(0), 5);
            due("5 and 994", x.evenings(994), 999);
            dueOf("one more", () -> x.evenings(1), ILLEGAL);
        });
        edge(refused, "far above, where ints would wrap", () -> {
            LandBonds x = new LandBonds();
            x.evenings(1);
            dueOf("the greatest", () -> x.evenings(GREATEST), ILLEGAL);
            dueOf("one less", () -> x.evenings(GREATEST - 1), ILLEGAL);
            due("tonight", x.count(0), 1);
        });
        for (int k : new int[] {-1, 4, LEAST, GREATEST}) {
            edge(none, "evening " + k, () -> {
                LandBonds x = desk(1, 1, 1);
                act(x, 0, "", 0, END);
                x.evenings(3);
                dueOn(x, 5, k, ILLEGAL);
                for (int what = 0; what < 5; what++) {
                    int asked = what;
                    dueOf("ways " + asked, () -> x.ways(asked, k), ILLEGAL);
                }
            });
        }
        edge(none, "the first and tonight", () -> {
            LandBonds x = desk(1, 1, 1);
            act(x, 0, "gain act 1;", 0, END);
            x.evenings(3);
            dueOn(x, 5, 0, 1, 0, 1, 1, 0, 1, 1, 1, 1);
            dueOn(x, 5, 3, 1, 0, 1, 1, 0, 1, 1, 1, 1);
        });
        edge(none, "with an ACT that isn't known", () -> {
            LandBonds x = desk(1, 1, 1);
            act(x, 0, "", 0, END);
            x.back(true, 0);
            dueOf("ifStruck", () -> x.ifStruck(0, 0, 0, 1), ILLEGAL);
        });
    }

    private static void lands() {
        edge("`NONE = -1`: There is none.", "the constant", () -> due("NONE", LandBonds.NONE, -1));
        edge("`LandBonds()`: No LANDS, PLACES, PERSONS; TONIGHT 0.", "all is empty", () -> {
            LandBonds x = new LandBonds();
            for (int what = 0; what < 7; what++) due("count " + what, x.count(what), 0);
        });
        edge("`LandBonds()`: No LANDS, PLACES, PERSONS; TONIGHT 0.", "there is nobody to ask of", () -> {
            LandBonds x = new LandBonds();
            for (Calls.Call asked : askedOn(x, 0, 0)) dueOf("asked", asked, NO_SUCH);
            LandBonds y = new LandBonds();
            y.land();
            dueOf("a land alone", () -> y.belongs(0, 0, 0, 0), NO_SUCH);
            LandBonds z = new LandBonds();
            z.person(0, NONE, NONE);
            dueOf("a person alone", () -> z.belongs(0, 0, 0, 0), NO_SUCH);
            due("no land's bonds", z.lands(0, 0, 0, 0), 0);
        });
        edge("LANDS, from 0 on, at most 5.", "five", () -> {
            LandBonds x = new LandBonds();
            for (int i = 0; i < 5; i++) due("land", x.land(), i);
            due("how many", x.count(1), 5);
        });
        edge("A LAND: its number. NONE: there are 5.", "a sixth one", () -> {
            LandBonds x = desk(5, 0, 0);
            due("land", x.land(), NONE);
            due("and again", x.land(), NONE);
            due("how many", x.count(1), 5);
        });
    }

    private static void places() {
        String refused = "NONE: there are 12, or no such LAND.";
        edge("PLACES, from 0 on, at most 12, each of a LAND at first, or of none (NONE).", "twelve", () -> {
            LandBonds x = desk(5, 0, 0);
            for (int i = 0; i < 12; i++) due("place", x.place(i % 6 - 1), i);
            for (int i = 0; i < 12; i++) due("its land at first", x.landOf(i, 0, 0), i % 6 - 1);
            due("how many", x.count(2), 12);
        });
        edge(refused, "a thirteenth one", () -> {
            LandBonds x = desk(1, 12, 0);
            due("of a land", x.place(0), NONE);
            due("of none", x.place(NONE), NONE);
            due("how many", x.count(2), 12);
        });
        for (int land : new int[] {-2, 3, 5, LEAST, GREATEST}) {
            edge(refused, "land " + land, () -> {
                LandBonds x = desk(3, 0, 0);
                due("place", x.place(land), NONE);
                due("how many", x.count(2), 0);
                due("the next one's number", x.place(2), 0);
            });
        }
        edge("A PLACE of a LAND (NONE: of none) at first: its number.", "of none, without any land", () -> {
            LandBonds x = new LandBonds();
            due("place of land 0", x.place(0), NONE);
            due("place of none", x.place(NONE), 0);
            due("its land", x.landOf(0, END, 0), NONE);
        });
    }

    private static void persons() {
        String refused = "NONE: there are 20, or a number is not as told (father and mother may be one).";
        edge("PERSONS, from 0 on, at most 20: a sex (0, 1), a father, a mother: PERSONS ahead of it, or NONE.", "twenty", () -> {
            LandBonds x = new LandBonds();
            for (int i = 0; i < 20; i++) due("person", x.person(i % 2, i - 1, i / 2 - 1), i);
            due("how many", x.count(3), 20);
        });
        edge(refused, "a twenty-first one", () -> {
            LandBonds x = desk(0, 0, 20);
            due("person", x.person(0, NONE, NONE), NONE);
            due("how many", x.count(3), 20);
        });
        int[][] wrong = {{2, -1, -1}, {-1, -1, -1}, {LEAST, -1, -1}, {GREATEST, -1, -1}, {0, 3, -1}, {0, -1, 3}, {0, 4, 0},
            {0, 0, 4}, {0, -2, -1}, {0, -1, -2}, {0, LEAST, 0}, {0, 0, LEAST}, {1, GREATEST, 0}, {1, 0, GREATEST}};
        for (int[] w : wrong) {
            edge(refused, "sex " + w[0] + ", father " + w[1] + ", mother " + w[2], () -> {
                LandBonds x = desk(0, 0, 3);
                due("person", x.person(w[0], w[1], w[2]), NONE);
                due("how many", x.count(3), 3);
                due("the next one's number", x.person(1, 2, 2), 3);
            });
        }
        edge(refused, "father and mother are one", () -> {
            LandBonds x = desk(1, 1, 1);
            due("person", x.person(0, 0, 0), 1);
            act(x, 0, "gain act sex=0 and not father; gain birth father and mother and not wedded;", 5, END);
            x.fact(BIRTH, 1, 0, 0, 6);
            due("its bond", x.belongs(1, 0, 6, 0), 1);
        });
        edge(refused, "the one just ahead of it, and the first", () -> {
            LandBonds x = desk(0, 0, 3);
            due("person", x.person(0, 2, 0), 3);
            due("person", x.person(0, 0, 3), 4);
        });
        edge("PERSONS ahead of it, or NONE.", "none ahead of the first", () -> {
            LandBonds x = new LandBonds();
            due("its own child", x.person(0, 0, NONE), NONE);
            due("its own child", x.person(0, NONE, 0), NONE);
            due("without", x.person(0, NONE, NONE), 0);
        });
    }

    /** What a kind asks of, and what may be any. */
    private static void factsOfKinds() {
        String any = "(what isn't asked of may be any)";
        String none = "NoSuchElementException: no such kind, PERSON, LAND, PLACE.";
        for (int kind : new int[] {-1, 7, LEAST, GREATEST}) {
            edge(none, "kind " + kind, () -> {
                LandBonds x = desk(1, 1, 2);
                dueOf("fact", () -> x.fact(kind, 0, 1, 0, 5), NO_SUCH);
                due("how many", x.count(4), 0);
            });
        }
        for (int kind = BIRTH; kind <= STAY; kind++) {
            int k = kind;
            boolean one = k != BORDER, other = k >= WEDDING && k <= BORDER, place = k <= WEDDING || k >= BORDER;
            int bound = k == WEDDING ? 3 : 2;
            for (int wrong : new int[] {-1, LEAST, GREATEST}) {
                edge(one ? none : any, "one " + wrong + ", kind " + k, () -> wrongIn(k, wrong, 1, 0, one));
                edge(other ? none : any, "other " + wrong + ", kind " + k, () -> wrongIn(k, 0, wrong, 0, other));
                edge(place ? none : any, "place " + wrong + ", kind " + k, () -> wrongIn(k, 0, 1, wrong, place));
            }
            edge(one ? none : any, "one 3 of three, kind " + k, () -> wrongIn(k, 3, 1, 0, one));
            edge(other ? none : any, "other " + bound + ", kind " + k, () -> wrongIn(k, 0, bound, 0, other));
            edge(place ? none : any, "place 4 of four, kind " + k, () -> wrongIn(k, 0, 1, 4, place));
            edge("A FACT on a DAY, told TONIGHT: its number.", "the last of each, kind " + k, () -> {
                LandBonds x = desk(2, 4, 3);
                due("fact", x.fact(k, one ? 2 : -5, other ? 1 : -5, place ? 3 : -5, 0), 0);
            });
        }
    }

    /** One number is wrong: the call throws if it is asked of, else the fact stands. */
    private static void wrongIn(int kind, int one, int other, int place, boolean asked) {
        LandBonds x = desk(2, 4, 3);
        dueOf("fact", () -> x.fact(kind, one, other, place, 5), asked ? NO_SUCH : 0);
        due("how many", x.count(4), asked ? 0 : 1);
    }

    private static void factsRefused() {
        String refused = "NONE: there are 100, the DAY is not as told, or a WEDDING's are one.";
        for (int day : new int[] {-1, 73000, LEAST, GREATEST}) {
            edge(refused, "day " + day, () -> {
                LandBonds x = desk(1, 1, 2);
                for (int kind = BIRTH; kind <= STAY; kind++) due("kind " + kind, x.fact(kind, 0, kind == 1 ? 1 : 0, 0, day), NONE);
                due("how many", x.count(4), 0);
            });
        }
        edge(refused, "the first and the last day", () -> {
            LandBonds x = desk(1, 1, 1);
            due("first", x.fact(STAY, 0, 0, 0, 0), 0);
            due("last", x.fact(STAY, 0, 0, 0, END), 1);
        });
        edge(refused, "a wedding of one", () -> {
            LandBonds x = desk(1, 1, 2);
            due("0 and 0", x.fact(WEDDING, 0, 0, 0, 5), NONE);
            due("1 and 1", x.fact(WEDDING, 1, 1, 0, 5), NONE);
            due("how many", x.count(4), 0);
            due("unlike", x.fact(WEDDING, 1, 0, 0, 5), 0);
        });
        edge("1 WEDDING (one, other, unlike; at a PLACE)", "of like sex", () -> {
            LandBonds x = desk(1, 1, 3);
            due("0 and 2", x.fact(WEDDING, 0, 2, 0, 5), 0);
        });
        edge(refused, "an oath of person 0 to land 0 isn't one", () -> {
            LandBonds x = desk(1, 1, 1);
            for (int kind = OATH; kind <= BORDER; kind++) due("kind " + kind, x.fact(kind, 0, 0, 0, 5), kind - OATH);
        });
    }

    private static void factsMany() {
        String refused = "NONE: there are 100, the DAY is not as told, or a WEDDING's are one.";
        edge("FACTS, numbered from 0 on, at most 100, each told on an EVENING", "a hundred", () -> {
            LandBonds x = desk(1, 1, 1);
            for (int i = 0; i < 100; i++) due("fact", x.fact(i % 2 == 0 ? STAY : OATH, 0, 0, 0, 5), i);
            due("how many", x.count(4), 100);
            due("the last has a day", x.also(99, 6), 2);
        });
        edge(refused, "the hundred and first", () -> {
            LandBonds x = desk(1, 1, 1);
            act(x, 0, "gain border 1;", 0, END);
            for (int i = 0; i < 100; i++) x.fact(STAY, 0, 0, 0, 5);
            due("fact", x.fact(BORDER, 0, 0, 0, 5), NONE);
            due("how many", x.count(4), 100);
            due("it isn't there", x.belongs(0, 0, END, 0), 0);
            x.back(false, 99);
            due("nor behind one that is taken back", x.fact(BORDER, 0, 0, 0, 5), NONE);
        });
        edge(refused, "the hundredth counts", () -> {
            LandBonds x = desk(1, 1, 1);
            act(x, 0, "gain border 1;", 0, END);
            for (int i = 0; i < 99; i++) x.fact(STAY, 0, 0, 0, 5);
            due("fact", x.fact(BORDER, 0, 0, 0, 5), 99);
            due("its bond", x.chain(0, 0, 5, 0, 4, 0), 99);
        });
    }

    private static void also() {
        String refused = "NONE: it has three, has this one, or the DAY is not as told.";
        edge("Each is on a DAY; it may be told that it could also be on one or two others.", "one, two, no third", () -> {
            LandBonds x = desk(1, 1, 1);
            x.fact(OATH, 0, 0, 0, 10);
            due("one", x.also(0, 20), 2);
            due("two", x.also(0, 5), 3);
            due("a third", x.also(0, 30), NONE);
            due("ways", x.ways(0, 0), 3);
        });
        edge(refused, "it has three", () -> {
            LandBonds x = desk(1, 1, 1);
            x.fact(OATH, 0, 0, 0, 10);
            x.also(0, 20);
            x.also(0, 30);
            for (int day : new int[] {10, 20, 30, 40, -1}) due("on " + day, x.also(0, day), NONE);
        });
        edge(refused, "it has this one, told first", () -> {
            LandBonds x = desk(1, 1, 1);
            x.fact(OATH, 0, 0, 0, 0);
            due("the first", x.also(0, 0), NONE);
            due("ways", x.ways(0, 0), 1);
        });
        edge(refused, "it has this one, told second", () -> {
            LandBonds x = desk(1, 1, 1);
            x.fact(OATH, 0, 0, 0, 0);
            x.also(0, 9);
            due("the second", x.also(0, 9), NONE);
            due("the first", x.also(0, 0), NONE);
            due("ways", x.ways(0, 0), 2);
        });
        edge(refused, "another fact's day isn't this one's", () -> {
            LandBonds x = desk(1, 1, 1);
            x.fact(OATH, 0, 0, 0, 1);
            x.fact(OATH, 0, 0, 0, 2);
            due("fact 0 on 2", x.also(0, 2), 2);
            due("fact 1 on 1", x.also(1, 1), 2);
        });
        for (int day : new int[] {-1, 73000, LEAST, GREATEST}) {
            edge(refused, "day " + day, () -> {
                LandBonds x = desk(1, 1, 1);
                x.fact(OATH, 0, 0, 0, 1);
                due("also", x.also(0, day), NONE);
                due("ways", x.ways(0, 0), 1);
            });
        }
        edge(refused, "the first and the last day", () -> {
            LandBonds x = desk(1, 1, 1);
            x.fact(OATH, 0, 0, 0, 1);
            due("first", x.also(0, 0), 2);
            due("last", x.also(0, END), 3);
        });
        for (int fact : new int[] {-1, 1, 100, LEAST, GREATEST}) {
            edge("NoSuchElementException: no such FACT (as everywhere).", "fact " + fact, () -> {
                LandBonds x = desk(1, 1, 1);
                x.fact(OATH, 0, 0, 0, 1);
                dueOf("also", () -> x.also(fact, 5), NO_SUCH);
                dueOf("also, no such day either", () -> x.also(fact, -1), NO_SUCH);
            });
        }
        edge("A FACT could also be on this DAY (as soon as the FACT is known)", "told on a later evening", () -> {
            LandBonds x = desk(1, 1, 1);
            x.evenings(1);
            x.fact(OATH, 0, 0, 0, 1);
            x.evenings(1);
            x.also(0, 5);
            due("the evening ahead of the fact", x.ways(0, 0), 1);
            due("the fact's evening", x.ways(0, 1), 2);
            due("tonight", x.ways(0, 2), 2);
        });
        edge("A FACT could also be on this DAY (as soon as the FACT is known)", "of one that is taken back", () -> {
            LandBonds x = desk(1, 1, 1);
            x.fact(OATH, 0, 0, 0, 1);
            x.evenings(1);
            x.back(false, 0);
            due("also", x.also(0, 5), 2);
            due("when it was known", x.ways(0, 0), 2);
            due("now", x.ways(0, 1), 1);
        });
    }

    private static void known() {
        String known = "what was told on k or ahead, not TAKEN BACK on k or ahead (FACTS, ACTS).";
        edge(known, "a fact: the evening ahead, its own, the next", () -> {
            LandBonds x = desk(1, 1, 1);
            act(x, 0, "gain oath 1;", 0, END);
            x.evenings(1);
            x.fact(OATH, 0, 0, 0, 5);
            x.evenings(1);
            for (int k = 0; k < 3; k++) due("as known on " + k, x.belongs(0, 0, 5, k), k == 0 ? 0 : 1);
        });
        edge(known, "an act: the evening ahead, its own, the next", () -> {
            LandBonds x = desk(1, 1, 1);
            x.fact(OATH, 0, 0, 0, 5);
            x.evenings(1);
            act(x, 0, "gain oath 1;", 0, END);
            x.evenings(1);
            for (int k = 0; k < 3; k++) due("as known on " + k, x.belongs(0, 0, 5, k), k == 0 ? 0 : 1);
            for (int k = 0; k < 3; k++) due("in force as known on " + k, bit(x.force(0, 5, k)), k == 0 ? 0 : 1);
        });
        edge("may be TAKEN BACK (from that EVENING on it isn't known)", "a fact: the evening ahead, its own, the next", () -> {
            LandBonds x = desk(1, 1, 1);
            act(x, 0, "gain oath 1;", 0, END);
            x.fact(OATH, 0, 0, 0, 5);
            x.evenings(1);
            x.back(false, 0);
            x.evenings(1);
            for (int k = 0; k < 3; k++) due("as known on " + k, x.belongs(0, 0, 5, k), k == 0 ? 1 : 0);
        });
        edge(known, "an act taken back: the evening ahead, its own, the next", () -> {
            LandBonds x = desk(1, 1, 1);
            act(x, 0, "gain oath 1;", 0, END);
            x.fact(OATH, 0, 0, 0, 5);
            x.evenings(1);
            x.back(true, 0);
            x.evenings(1);
            for (int k = 0; k < 3; k++) due("as known on " + k, x.belongs(0, 0, 5, k), k == 0 ? 1 : 0);
            for (int k = 0; k < 3; k++) due("in force as known on " + k, bit(x.force(0, 5, k)), k == 0 ? 1 : 0);
        });
        edge(known, "told and taken back on one evening", () -> {
            LandBonds x = desk(1, 1, 1);
            act(x, 0, "gain border 1;", 0, END);
            x.evenings(1);
            x.fact(BORDER, 0, 0, 0, 5);
            x.back(false, 0);
            x.evenings(1);
            for (int k = 0; k < 3; k++) due("as known on " + k, x.belongs(0, 0, 5, k), 0);
        });
        edge(known, "a border, where a place's land is asked", () -> {
            LandBonds x = desk(2, 1, 1);
            x.evenings(1);
            x.fact(BORDER, 0, 1, 0, 5);
            x.evenings(1);
            x.back(false, 0);
            for (int k = 0; k < 3; k++) due("as known on " + k, x.landOf(0, 5, k), k == 1 ? 1 : 0);
        });
    }

    private static void back() {
        String back = "A FACT (act false) or an ACT is TAKEN BACK: true. False: it was.";
        edge(back, "a fact, once and again", () -> {
            LandBonds x = desk(1, 1, 1);
            x.fact(OATH, 0, 0, 0, 5);
            act(x, 0, "", 0, END);
            due("once", bit(x.back(false, 0)), 1);
            due("again", bit(x.back(false, 0)), 0);
            due("the act is another one", bit(x.force(0, 5, 0)), 1);
            x.evenings(1);
            due("on another evening", bit(x.back(false, 0)), 0);
        });
        edge(back, "an act, once and again", () -> {
            LandBonds x = desk(1, 1, 1);
            x.fact(BORDER, 0, 0, 0, 5);
            x.also(0, 6);
            act(x, 0, "", 0, END);
            due("once", bit(x.back(true, 0)), 1);
            due("again", bit(x.back(true, 0)), 0);
            due("the fact is another one", x.ways(1, 0), 1);
            x.evenings(1);
            due("on another evening", bit(x.back(true, 0)), 0);
        });
        edge(back, "again on a later evening, it is gone from the first on", () -> {
            LandBonds x = desk(1, 1, 1);
            x.fact(OATH, 0, 0, 0, 5);
            x.also(0, 6);
            x.evenings(1);
            x.back(false, 0);
            x.evenings(1);
            x.back(false, 0);
            for (int k = 0; k < 3; k++) due("as known on " + k, x.ways(0, k), k == 0 ? 2 : 1);
        });
        for (int number : new int[] {-1, 1, LEAST, GREATEST}) {
            edge("NoSuchElementException: no such one.", "number " + number, () -> {
                LandBonds x = desk(1, 1, 1);
                x.fact(OATH, 0, 0, 0, 5);
                act(x, 0, "", 0, END);
                dueOf("fact", () -> bit(x.back(false, number)), NO_SUCH);
                dueOf("act", () -> bit(x.back(true, number)), NO_SUCH);
            });
        }
        edge("NoSuchElementException: no such one.", "a fact's number is no act's", () -> {
            LandBonds x = desk(1, 1, 1);
            x.fact(OATH, 0, 0, 0, 5);
            dueOf("act 0", () -> bit(x.back(true, 0)), NO_SUCH);
            LandBonds y = desk(1, 1, 1);
            act(y, 0, "", 0, END);
            dueOf("fact 0", () -> bit(y.back(false, 0)), NO_SUCH);
        });
    }

    private static void feed() {
        String feed = "Twenty bytes come behind the tape, of each number the highest first: how many it has";
        String refused = "NONE, and none come, if it would have more than 500.";
        edge(feed, "the highest first", () -> {
            LandBonds x = desk(1, 0, 0);
            due("feed", x.feed(0x73747269, 0x6b65203b, 0x20202020, 0x20202020, 0x20202020), 20);
            due("'strike ;'", x.act(0, 20, 0, 1), -2);
            due("where ; stands", x.fault(), 7);
        });
        edge(feed, "numbers in their order", () -> {
            LandBonds x = desk(1, 0, 0);
            x.feed(0x20202020, 0x6c6f7365, 0x20616374, 0x20313b20, 0x20204120);
            due("'lose act 1; A'", x.act(0, 20, 0, 1), -2);
            due("where A stands", x.fault(), 18);
        });
        edge(feed, "behind what it has", () -> {
            LandBonds x = desk(1, 0, 0);
            feedBlanks(x, 3);
            due("80", x.feed(0x20202020, 0x20202020, 0x20202020, 0x20202020, 0x20204120), 80);
            due("a byte of the fourth", x.act(0, 80, 0, 1), -2);
            due("where", x.fault(), 78);
        });
        edge(feed, "bytes above 127, and 0", () -> {
            LandBonds x = desk(1, 0, 0);
            x.feed(0x20202020, 0xa0202020, 0x20202020, 0x20202020, 0x20202020);
            due("160", x.act(0, 20, 0, 1), -2);
            due("where", x.fault(), 4);
            x.feed(0x20202020, 0x20200020, 0x20202020, 0x20202020, 0x20202020);
            due("0", x.act(0, 20, 0, 1), -2);
            due("where", x.fault(), 6);
        });
        edge(refused, "25 times, and no 26th", () -> {
            LandBonds x = desk(1, 0, 0);
            for (int i = 1; i <= 25; i++) due("feed", x.feed(0x20202020, 0x20202020, 0x20202020, 0x20202020, 0x2020200a), 20 * i);
            due("more", x.feed(-1, -1, -1, -1, -1), NONE);
            due("and again", x.feed(-1, -1, -1, -1, -1), NONE);
            due("none came", x.count(6), 500);
            due("nor in its place", x.act(0, 500, 0, 1), 0);
            due("it is empty then", x.feed(0, 0, 0, 0, 0), 20);
        });
    }

    private static void actsRefused() {
        String refused = "-9: there are 12, or DAYS are not as told.";
        for (int day : new int[] {-1, 73000, LEAST, GREATEST}) {
            edge(refused, "day " + day, () -> {
                LandBonds x = desk(1, 0, 0);
                due("from", x.act(0, 0, day, 5), -9);
                due("to", x.act(0, 0, 5, day), -9);
                due("both", x.act(0, 0, day, day), -9);
                due("how many", x.count(5), 0);
            });
        }
        edge("-9: there are 12, or DAYS are not as told.", "a thirteenth one", () -> {
            LandBonds x = desk(2, 0, 0);
            for (int i = 0; i < 12; i++) due("act", act(x, i % 2, "gain act 1;", 0, END), i);
            due("of land 0", act(x, 0, "gain act 1;", 0, END), -9);
            due("of land 1", act(x, 1, "gain act 1;", 0, END), -9);
            x.back(true, 11);
            due("behind one that is taken back", act(x, 0, "", 0, END), -9);
            due("how many", x.count(5), 12);
            due("the tape", x.count(6), 0);
        });
        edge("ACTS of a LAND, from 0 on, at most 12 over all", "the twelfth counts", () -> {
            LandBonds x = desk(2, 0, 1);
            for (int i = 0; i < 11; i++) act(x, 0, "", 0, END);
            due("act", act(x, 1, "gain act 1;gain act 1;gain act 1;gain act 1;gain act 1;gain act 1;gain act 1;gain act 1;"
                + "gain act 1;gain act 1;gain act 1;gain act 1;", 7, END), 11);
            due("its bond", x.chain(0, 1, 7, 0, 2, 0), 11);
        });
        String land = "NoSuchElementException: no such LAND (ahead of IllegalArgumentException).";
        for (int number : new int[] {-1, 2, 5, LEAST, GREATEST}) {
            edge(land, "land " + number, () -> {
                LandBonds x = desk(2, 0, 0);
                feedBlanks(x, 1);
                dueOf("n as told", () -> x.act(number, 20, 0, 1), NO_SUCH);
                dueOf("n 21", () -> x.act(number, 21, 0, 1), NO_SUCH);
                dueOf("n -1", () -> x.act(number, -1, 0, 1), NO_SUCH);
                due("the tape", x.count(6), 20);
            });
        }
        edge(land, "without any land", () -> dueOf("land 0", () -> new LandBonds().act(0, 0, 0, 1), NO_SUCH));
        String tape = "IllegalArgumentException: the tape has not so many, n below 0 (nothing changes).";
        for (int n : new int[] {-1, 21, 500, 501, LEAST, GREATEST}) {
            edge(tape, "n " + n, () -> {
                LandBonds x = desk(1, 0, 0);
                act(x, 0, " ?", 0, 1);
                feedBlanks(x, 1);
                dueOf("act", () -> x.act(0, n, 0, 1), ILLEGAL);
                dueOf("act, days not as told", () -> x.act(0, n, -1, 1), ILLEGAL);
                due("the tape", x.count(6), 20);
                due("the latest fault", x.fault(), 1);
                due("how many", x.count(5), 0);
            });
        }
        edge(tape, "an empty tape", () -> {
            LandBonds x = desk(1, 0, 0);
            dueOf("n 1", () -> x.act(0, 1, 0, 1), ILLEGAL);
            due("n 0", x.act(0, 0, 0, 1), 0);
        });
        edge(tape, "a full desk", () -> {
            LandBonds x = desk(1, 0, 0);
            for (int i = 0; i < 12; i++) act(x, 0, "", 0, 1);
            dueOf("n 1", () -> x.act(0, 1, 0, 1), ILLEGAL);
            dueOf("n -1", () -> x.act(0, -1, 0, 1), ILLEGAL);
        });
    }

    private static void actsTaken() {
        String days = "from a DAY up to another one (not that; both 0 to 72999: it may never be)";
        int[][] rows = {{0, END}, {END, 0}, {0, 0}, {END, END}, {5, 5}, {6, 5}};
        for (int[] r : rows) {
            edge(days, "from " + r[0] + " to " + r[1], () -> {
                LandBonds x = desk(1, 0, 0);
                due("act", x.act(0, 0, r[0], r[1]), 0);
                for (int day : new int[] {0, 4, 5, 6, END - 1, END}) {
                    due("in force on " + day, bit(x.force(0, day, 0)), day >= r[0] && day < r[1] ? 1 : 0);
                }
            });
        }
        edge(days, "one day", () -> {
            LandBonds x = desk(1, 0, 0);
            x.act(0, 0, END - 1, END);
            due("ahead", bit(x.force(0, END - 2, 0)), 0);
            due("on it", bit(x.force(0, END - 1, 0)), 1);
            due("behind", bit(x.force(0, END, 0)), 0);
        });
        String first = "An ACT of a LAND, the tape's first n bytes (it is empty then)";
        edge(first, "fewer than it has", () -> {
            LandBonds x = desk(1, 0, 0);
            int[] n = Calls.numbers("gain act 1;what comes behind it isn't read");
            for (int i = 0; i < n.length; i += 5) x.feed(n[i], n[i + 1], n[i + 2], n[i + 3], n[i + 4]);
            due("act", x.act(0, 11, 0, 1), 0);
            due("the tape", x.count(6), 0);
        });
        edge(first, "all that it has", () -> {
            LandBonds x = desk(1, 0, 0);
            x.feed(0x20202020, 0x20202020, 0x20202020, 0x20202020, 0x20202041);
            due("the last byte", x.act(0, 20, 0, 1), -2);
            x.feed(0x20202020, 0x20202020, 0x20202020, 0x20202020, 0x20202041);
            due("one less", x.act(0, 19, 0, 1), 0);
        });
        edge(first, "none of it", () -> {
            LandBonds x = desk(1, 0, 0);
            x.feed(-1, -1, -1, -1, -1);
            due("act", x.act(0, 0, 0, 1), 0);
            due("the tape", x.count(6), 0);
        });
        edge("told TONIGHT: its number, or - 1 - its FAULT", "each fault", () -> {
            LandBonds x = desk(1, 0, 0);
            String[] texts = {"gain;", "strike 000000;", "gain act x;", "strike 0;"};
            for (int i = 0; i < 4; i++) due(texts[i], act(x, 0, texts[i], 0, 1), -2 - i);
            due("no act came of it", x.count(5), 0);
            due("the next one's number", act(x, 0, "", 0, 1), 0);
        });
    }

    /** A text with a fault leaves nothing that the next one would have. */
    private static void actsBehindFaults() {
        String number = "told TONIGHT: its number, or - 1 - its FAULT";
        edge(number, "clauses ahead of a fault are gone", () -> {
            LandBonds x = desk(1, 1, 1);
            act(x, 0, "gain act 1;gain act 1;lose", 0, END);
            due("the next one", act(x, 0, "", 0, END), 0);
            due("no bond", x.belongs(0, 0, 5, 0), 0);
        });
        edge(number, "what was struck ahead of a fault isn't", () -> {
            LandBonds x = desk(1, 1, 1);
            act(x, 0, "", 0, END);
            act(x, 0, "strike 0;x", 0, END);
            due("the next one", act(x, 0, "", 0, END), 1);
            due("in force", bit(x.force(0, 5, 0)), 1);
        });
        edge(number, "'children' ahead of a fault, 'unless' ahead of one", () -> {
            LandBonds x = desk(1, 1, 1);
            x.person(0, 0, NONE);
            x.fact(BIRTH, 1, 0, 0, 0);
            x.fact(OATH, 0, 0, 0, 5);
            act(x, 0, "gain oath 1 unless 1 children 9;x", 0, END);
            act(x, 0, "gain oath 1;", 0, END);
            due("the father's bond", x.belongs(0, 0, 5, 0), 1);
            due("the child's", x.belongs(1, 0, 5, 0), 0);
        });
        edge(number, "behind thirteen full texts with faults", () -> {
            LandBonds x = desk(1, 1, 1);
            for (int i = 0; i < 13; i++) due("a fault", act(x, 0, "gain act 1" + "+1".repeat(245), 0, END), -2);
            due("one without", act(x, 0, "gain act 1" + "+1".repeat(242) + "=243;", 0, END), 0);
            due("its bond", x.belongs(0, 0, 5, 0), 1);
        });
        edge(number, "a fault of another land's act", () -> {
            LandBonds x = desk(2, 1, 1);
            act(x, 0, "gain act 1;x", 0, END);
            act(x, 1, "gain act 1;", 0, END);
            due("lands", x.lands(0, 5, 0, 0), 2);
        });
    }

    private static void tapeOfActs() {
        String first = "the tape's first n bytes (it is empty then)";
        edge(first, "behind a fault", () -> {
            LandBonds x = desk(1, 0, 0);
            act(x, 0, "no act at all, of more than twenty bytes", 0, 1);
            due("the tape", x.count(6), 0);
        });
        edge(first, "behind -9", () -> {
            LandBonds x = desk(1, 0, 0);
            feedBlanks(x, 2);
            due("days", x.act(0, 40, 0, 73000), -9);
            due("the tape", x.count(6), 0);
        });
        edge("each a text of at most 500 bytes", "all of a full tape", () -> {
            LandBonds x = desk(1, 0, 1);
            String long500 = "gain act 1" + "+0".repeat(244) + ";\n";
            due("bytes", long500.length(), 500);
            due("act", act(x, 0, long500, 3, 4), 0);
            due("its bond", x.belongs(0, 0, 3, 0), 1);
        });
        edge("each a text of at most 500 bytes", "full ones side by side", () -> {
            LandBonds x = desk(1, 0, 1);
            String gain = "gain act 0" + "+0".repeat(243) + "+1;\n", lose = "lose act 0" + "+0".repeat(243) + "+1;\n";
            for (int i = 0; i < 12; i++) act(x, 0, i % 2 == 0 ? gain : lose, i, END);
            due("gained", x.times(0, 0, 12, 0, 0), 6);
            due("lost", x.times(0, 0, 12, 1, 0), 6);
        });
    }

    private static void faultPlace() {
        String fault = "The place of the latest act()'s FAULT; NONE without.";
        edge(fault, "no act() yet", () -> due("fault", new LandBonds().fault(), NONE));
        edge(fault, "the latest one has none", () -> {
            LandBonds x = desk(1, 0, 0);
            act(x, 0, "  ?", 0, 1);
            due("of the first", x.fault(), 2);
            act(x, 0, "", 0, 1);
            due("of the second", x.fault(), NONE);
        });
        edge(fault, "the latest of two", () -> {
            LandBonds x = desk(1, 0, 0);
            act(x, 0, "  ?", 0, 1);
            act(x, 0, "?", 0, 1);
            due("place 0", x.fault(), 0);
        });
        edge(fault, "-9 is without", () -> {
            LandBonds x = desk(1, 0, 0);
            act(x, 0, "  ?", 0, 1);
            act(x, 0, "", 0, 73000);
            due("fault", x.fault(), NONE);
        });
        edge(fault, "the last byte of a full tape", () -> {
            LandBonds x = desk(1, 0, 0);
            act(x, 0, " ".repeat(499) + "?", 0, 1);
            due("fault", x.fault(), 499);
        });
        edge(fault, "a word or a number that a full tape ends in", () -> {
            LandBonds x = desk(1, 0, 0);
            due("'her'", act(x, 0, " ".repeat(488) + "gain act her", 0, 1), -4);
            due("its place", x.fault(), 497);
            due("'here'", act(x, 0, " ".repeat(487) + "gain act here", 0, 1), -2);
            due("its end", x.fault(), 500);
            due("'12345'", act(x, 0, " ".repeat(486) + "gain act 12345", 0, 1), -2);
            due("its end", x.fault(), 500);
            due("'123456'", act(x, 0, " ".repeat(485) + "gain act 123456", 0, 1), -3);
            due("its place", x.fault(), 494);
            due("blanks alone", act(x, 0, " ".repeat(500), 0, 1), 0);
        });
        edge(fault, "behind the last byte of a full tape", () -> {
            LandBonds x = desk(1, 0, 0);
            act(x, 0, " ".repeat(496) + "gain", 0, 1);
            due("fault", x.fault(), 500);
        });
    }

    private static void count() {
        String count = "0 TONIGHT, 1 LANDS, 2 PLACES, 3 PERSONS, 4 FACTS, 5 ACTS, 6 bytes of the tape.";
        edge(count, "each", () -> {
            LandBonds x = desk(2, 3, 4);
            x.evenings(1);
            for (int i = 0; i < 5; i++) x.fact(STAY, 0, 0, 0, i);
            for (int i = 0; i < 6; i++) x.act(0, 0, 0, 1);
            feedBlanks(x, 7);
            int[] want = {1, 2, 3, 4, 5, 6, 140};
            for (int what = 0; what < 7; what++) due("count " + what, x.count(what), want[what]);
        });
        edge(count, "what is taken back is counted, too", () -> {
            LandBonds x = desk(1, 1, 1);
            x.fact(STAY, 0, 0, 0, 0);
            x.act(0, 0, 0, 1);
            x.evenings(1);
            x.back(false, 0);
            x.back(true, 0);
            due("facts", x.count(4), 1);
            due("acts", x.count(5), 1);
        });
        for (int what : new int[] {-1, 7, LEAST, GREATEST}) {
            edge("NoSuchElementException: another what.", "count " + what, () -> {
                dueOf("count", () -> new LandBonds().count(what), NO_SUCH);
            });
        }
    }
}
