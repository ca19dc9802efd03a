/** Each sentence of the document that names an edge of what is answered: doubts and ways, part 4, promises 12 to 21. */
public final class EdgesOfAnswers extends Edges {
    public static void main(String[] args) throws java.io.IOException {
        begin("EdgesOfAnswers");
        inDoubt();
        waysByNumber();
        waysAsked();
        endOfADay();
        surely();
        says();
        settledSets();
        settled();
        landsInWays();
        bondsAsked();
        linksOfAChain();
        chainRefused();
        chainAsItHadCome();
        chainOfForty();
        times();
        ifStruck();
        ifStruckRefused();
        nothingOldIsAnswered();
        toldBetweenTwoAnswers();
        end();
    }

    /** Facts by how many days each has: oaths of person 0 to land 0, on day 10 times the number and behind it. */
    private static LandBonds doubts(int... days) {
        LandBonds x = desk(1, 1, 1);
        for (int f = 0; f < days.length; f++) {
            x.fact(OATH, 0, 0, 0, 10 * f);
            for (int d = 1; d < days[f]; d++) x.also(f, 10 * f + d);
        }
        return x;
    }

    private static void dueWays(LandBonds x, int k, int... want) {
        for (int what = 0; what < 5; what++) due("ways(" + what + ", " + k + ")", x.ways(what, k), want[what]);
    }

    private static void inDoubt() {
        String doubt = "IN DOUBT are the first three FACTS by number, of those known, that have more than one DAY; "
            + "all others are on the DAY told first.";
        edge(doubt, "no facts", () -> dueWays(doubts(), 0, 1, 0, NONE, NONE, NONE));
        edge(doubt, "facts of one day", () -> dueWays(doubts(1, 1, 1, 1), 0, 1, 0, NONE, NONE, NONE));
        edge(doubt, "one", () -> dueWays(doubts(1, 2), 0, 2, 1, 1, NONE, NONE));
        edge(doubt, "two", () -> dueWays(doubts(3, 1, 2), 0, 6, 2, 0, 2, NONE));
        edge(doubt, "three", () -> dueWays(doubts(1, 2, 2, 1, 2), 0, 8, 3, 1, 2, 4));
        edge(doubt, "three of three days", () -> dueWays(doubts(3, 3, 3), 0, 27, 3, 0, 1, 2));
        edge(doubt, "a fourth one isn't", () -> dueWays(doubts(2, 2, 2, 3), 0, 8, 3, 0, 1, 2));
        edge(doubt, "by number, not by when the other day was told", () -> {
            LandBonds x = doubts(1, 2, 2, 2);
            x.also(0, 77);
            dueWays(x, 0, 8, 3, 0, 1, 2);
        });
        edge(doubt, "by number, not by day", () -> {
            LandBonds x = desk(1, 1, 1);
            for (int f = 0; f < 4; f++) {
                x.fact(OATH, 0, 0, 0, 90 - 10 * f);
                x.also(f, 5);
            }
            dueWays(x, 0, 8, 3, 0, 1, 2);
        });
        edge(doubt, "facts 97 to 99", () -> {
            LandBonds x = desk(1, 1, 1);
            for (int f = 0; f < 100; f++) x.fact(STAY, 0, 0, 0, f);
            for (int f = 99; f > 96; f--) x.also(f, 500);
            dueWays(x, 0, 8, 3, 97, 98, 99);
        });
        edge(doubt, "of those known", () -> {
            LandBonds x = doubts(2, 2);
            x.evenings(1);
            x.fact(OATH, 0, 0, 0, 20);
            x.also(2, 21);
            x.fact(OATH, 0, 0, 0, 30);
            x.also(3, 31);
            x.also(3, 32);
            x.evenings(1);
            x.back(false, 0);
            dueWays(x, 0, 4, 2, 0, 1, NONE);
            dueWays(x, 1, 8, 3, 0, 1, 2);
            dueWays(x, 2, 12, 3, 1, 2, 3);
        });
        edge(doubt, "all others are on the day told first", () -> {
            LandBonds x = doubts(2, 2, 2);
            x.fact(CHOICE, 0, 0, 0, 100);
            x.also(3, 50);
            act(x, 0, "gain choose 1;", 0, END);
            due("on 99", x.belongs(0, 0, 99, 0), 0);
            due("on 100", x.belongs(0, 0, 100, 0), 1);
            x.back(false, 1);
            due("on 99, in doubt now", x.belongs(0, 0, 99, 0), 2);
        });
        edge(doubt, "one that nothing hangs on", () -> {
            LandBonds x = desk(1, 1, 1);
            x.fact(STAY, 0, 0, 0, 5);
            x.also(0, 6);
            dueWays(x, 0, 2, 1, 0, NONE, NONE);
        });
    }

    private static void waysByNumber() {
        String way = "A WAY is a DAY for each one IN DOUBT: numbered from 0 on, the first one's DAYS counting most, DAYS as told: "
            + "WAY 0 is AS TOLD.";
        edge(way, "each of 27", () -> {
            LandBonds x = desk(3, 1, 1);
            for (int land = 0; land < 3; land++) act(x, land, "gain oath to;", 0, END);
            for (int f = 0; f < 3; f++) {
                x.fact(OATH, 0, f, 0, 200);
                x.also(f, 300);
                x.also(f, 100);
            }
            int[] on100 = {0, 0, 1}, on200 = {1, 0, 1};
            for (int w = 0; w < 27; w++) {
                int a = w / 9, b = w / 3 % 3, c = w % 3;
                due("way " + w + " on 100", x.lands(0, 100, w, 0), on100[a] + 2 * on100[b] + 4 * on100[c]);
                due("way " + w + " on 200", x.lands(0, 200, w, 0), on200[a] + 2 * on200[b] + 4 * on200[c]);
                due("way " + w + " on 300", x.lands(0, 300, w, 0), 7);
            }
        });
        edge(way, "days of unlike numbers", () -> {
            LandBonds x = desk(3, 1, 1);
            for (int land = 0; land < 3; land++) act(x, land, "gain oath to;", 0, END);
            int[] days = {2, 3, 2};
            for (int f = 0; f < 3; f++) {
                x.fact(OATH, 0, f, 0, 200);
                for (int d = 1; d < days[f]; d++) x.also(f, 100 + d);
            }
            for (int w = 0; w < 12; w++) {
                int bits = (w / 6 > 0 ? 1 : 0) + (w / 2 % 3 > 0 ? 2 : 0) + (w % 2 > 0 ? 4 : 0);
                due("way " + w, x.lands(0, 150, w, 0), bits);
            }
        });
        edge(way, "as told, not as the days follow one another", () -> {
            LandBonds x = desk(1, 1, 1);
            act(x, 0, "gain oath 1;", 0, END);
            x.fact(OATH, 0, 0, 0, 300);
            x.also(0, 100);
            x.also(0, 200);
            int[] on150 = {0, 1, 0};
            for (int w = 0; w < 3; w++) due("way " + w, x.lands(0, 150, w, 0), on150[w]);
        });
        edge(way, "way 0 is what chain, times, landOf and ifStruck tell of", () -> {
            LandBonds x = desk(2, 1, 1);
            act(x, 0, "gain border 1;", 0, END);
            x.fact(BORDER, 0, 1, 0, 300);
            x.also(0, 100);
            due("chain", x.chain(0, 0, 200, NONE, 0, 0), 0);
            due("times", x.times(0, 0, 200, 0, 0), 0);
            due("landOf", x.landOf(0, 200, 0), 0);
            due("ifStruck", x.ifStruck(0, 200, 1, 0), 0);
            due("the day", x.chain(0, 0, 300, 0, 1, 0), 300);
            due("times then", x.times(0, 0, 300, 0, 0), 1);
            due("landOf then", x.landOf(0, 300, 0), 1);
            due("ifStruck then", x.ifStruck(0, 300, 1, 0), 1);
        });
    }

    private static void waysAsked() {
        String asked = "How many WAYS there are (what 0); how many FACTS are IN DOUBT (1); 2 to 4: "
            + "which one is the first, second, third of these (NONE).";
        edge(asked, "fact 0 is a number, none is NONE", () -> dueWays(doubts(2), 0, 2, 1, 0, NONE, NONE));
        for (int what : new int[] {-1, 5, 6, LEAST, GREATEST}) {
            edge("NoSuchElementException: another what. IllegalArgumentException likewise.", "ways " + what, () -> {
                dueOf("ways", () -> doubts(2, 2, 2, 2).ways(what, 0), NO_SUCH);
            });
        }
    }

    private static void endOfADay() {
        String end = "On a DAY (its end), as known on EVENING k: a PERSON has a BOND SURELY, if it has it in all WAYS, "
            + "SURELY NOT, if in none; else it is OPEN.";
        edge(end, "what comes on that day counts, and the last of it", () -> {
            LandBonds x = desk(1, 1, 1);
            act(x, 0, "gain oath 1;lose choose 1;", 0, END);
            x.fact(OATH, 0, 0, 0, 10);
            x.fact(OATH, 0, 0, 0, 20);
            x.fact(CHOICE, 0, 0, 0, 20);
            due("the day ahead", x.belongs(0, 0, 9, 0), 0);
            due("the day", x.belongs(0, 0, 10, 0), 1);
            due("the day ahead", x.belongs(0, 0, 19, 0), 1);
            due("the day", x.belongs(0, 0, 20, 0), 0);
        });
        edge(end, "on the last day nothing is in force, what was stays", () -> {
            LandBonds x = desk(1, 1, 1);
            act(x, 0, "gain oath 1;lose choose 1;", 0, END);
            x.fact(OATH, 0, 0, 0, END - 1);
            x.fact(CHOICE, 0, 0, 0, END);
            due("the last", x.belongs(0, 0, END, 0), 1);
        });
    }

    private static void surely() {
        String surely = "A PERSON's BOND to a LAND on a DAY: 0 SURELY NOT, 1 SURELY, 2 OPEN.";
        edge(surely, "in one way of one", () -> {
            LandBonds x = desk(1, 1, 2);
            act(x, 0, "gain act sex;", 0, END);
            due("none", x.belongs(0, 0, 5, 0), 0);
            due("all", x.belongs(1, 0, 5, 0), 1);
        });
        edge(surely, "from none to all of 27", () -> {
            LandBonds x = three(3);
            int[] days = {99, 100, 101, 102}, ways = {0, 19, 26, 27}, want = {0, 2, 2, 1};
            for (int i = 0; i < 4; i++) {
                due("says on " + days[i], x.says(0, 0, days[i], 0), ways[i]);
                due("belongs on " + days[i], x.belongs(0, 0, days[i], 0), want[i]);
            }
        });
        edge(surely, "in one way of 27", () -> {
            LandBonds x = desk(3, 1, 1);
            act(x, 0, "gain choose others=2;", 90, 200);
            act(x, 1, "gain oath to;", 90, 200);
            act(x, 2, "gain oath to;", 90, 200);
            for (int f = 0; f < 3; f++) {
                x.fact(f < 2 ? OATH : CHOICE, 0, (f + 1) % 3, 0, 300);
                x.also(f, 100 + f);
                x.also(f, 310);
            }
            due("says", x.says(0, 0, 200, 0), 1);
            due("open", x.belongs(0, 0, 200, 0), 2);
            due("settled by all", x.settles(0, 0, 200, 0), 7);
        });
    }

    /** Person 0's bond to land 0 comes by the first of three oaths, each on day 100, 101 or 102 (or 100, 101). */
    private static LandBonds three(int days) {
        LandBonds x = desk(1, 1, 1);
        act(x, 0, "gain oath 1;", 0, END);
        for (int f = 0; f < 3; f++) {
            x.fact(OATH, 0, 0, 0, 102);
            x.also(f, 100);
            if (days > 2) x.also(f, 101);
        }
        return x;
    }

    private static void says() {
        edge("In how many WAYS it has it.", "of one, of two, of 27", () -> {
            LandBonds x = desk(1, 1, 1);
            act(x, 0, "gain oath 1;", 0, END);
            x.fact(OATH, 0, 0, 0, 100);
            due("none of one", x.says(0, 0, 99, 0), 0);
            due("one of one", x.says(0, 0, 100, 0), 1);
            x.also(0, 50);
            due("none of two", x.says(0, 0, 49, 0), 0);
            due("one of two", x.says(0, 0, 99, 0), 1);
            due("two of two", x.says(0, 0, 100, 0), 2);
            due("8 of 8, but one", three(2).says(0, 0, 101, 0), 7);
            due("27 of 27", three(3).says(0, 0, 102, 0), 27);
        });
    }

    /** The bond on day 300 comes by an oath of the facts in a set, if it is on its other day; the others are stays. */
    private static LandBonds hangsOn(int set, int days) {
        LandBonds x = desk(1, 1, 1);
        act(x, 0, "gain oath 1;", 0, END);
        for (int f = 0; f < 3; f++) {
            x.fact((set >> f & 1) == 1 ? OATH : STAY, 0, 0, 0, 500);
            x.also(f, 100);
            if (days > 2) x.also(f, 600);
        }
        return x;
    }

    private static void settledSets() {
        String settled = "SETTLED by a set of those IN DOUBT: if for each choice of their DAYS all WAYS that have these tell alike.";
        for (int set = 0; set < 8; set++) {
            int hangs = set;
            edge(settled, "of three with two days the set " + hangs, () -> {
                due("on 300", hangsOn(hangs, 2).settles(0, 0, 300, 0), hangs);
                due("on 500", hangsOn(hangs, 2).settles(0, 0, 500, 0), 0);
                due("on 99", hangsOn(hangs, 2).settles(0, 0, 99, 0), 0);
            });
            edge(settled, "of three with three days the set " + hangs, () -> {
                due("on 300", hangsOn(hangs, 3).settles(0, 0, 300, 0), hangs);
                due("on 600", hangsOn(hangs, 3).settles(0, 0, 600, 0), 0);
            });
        }
        edge(settled, "where one of them doesn't always tell", () -> {
            LandBonds x = desk(1, 1, 1);
            act(x, 0, "gain oath 1;lose choose 1;", 0, END);
            x.fact(OATH, 0, 0, 0, 100);
            x.also(0, 500);
            x.fact(CHOICE, 0, 0, 0, 200);
            x.also(1, 50);
            due("both: on 300 the oath alone doesn't", x.settles(0, 0, 300, 0), 3);
            due("on 150", x.settles(0, 0, 150, 0), 1);
            due("two ways of four on 150", x.says(0, 0, 150, 0), 2);
            due("one of four on 300", x.says(0, 0, 300, 0), 1);
        });
        edge(settled, "by the third day alone", () -> {
            LandBonds x = desk(1, 1, 1);
            act(x, 0, "gain oath 1;", 0, END);
            x.fact(STAY, 0, 0, 0, 1);
            x.also(0, 2);
            x.fact(OATH, 0, 0, 0, 500);
            x.also(1, 501);
            x.also(1, 100);
            due("the second", x.settles(0, 0, 300, 0), 2);
        });
    }

    private static void settled() {
        String fewest = "THE FEWEST that settle it, as bits (bit i: the i-th IN DOUBT).";
        edge(fewest, "nothing in doubt", () -> {
            LandBonds x = desk(1, 1, 2);
            act(x, 0, "gain act sex;", 0, END);
            due("surely not", x.settles(0, 0, 5, 0), 0);
            due("surely", x.settles(1, 0, 5, 0), 0);
        });
        edge(fewest, "the i-th in doubt, not the fact's number", () -> {
            LandBonds x = desk(1, 1, 1);
            act(x, 0, "gain oath 1;", 0, END);
            for (int f = 0; f < 5; f++) x.fact(STAY, 0, 0, 0, f);
            x.fact(OATH, 0, 0, 0, 500);
            x.also(4, 9);
            x.also(5, 100);
            due("bit 1", x.settles(0, 0, 300, 0), 2);
            x.also(1, 9);
            due("bit 2", x.settles(0, 0, 300, 0), 4);
        });
        String like = "THE FEWEST that settle it: fewest, of like ones the first IN DOUBT is rather in it than not, and so on.";
        edge(like, "of all sets with the one that it hangs on the least", () -> {
            for (int i = 0; i < 3; i++) due("fact " + i, hangsOn(1 << i, 2).settles(0, 0, 300, 0), 1 << i);
        });
        edge(like, "of all sets with the two that it hangs on the least", () -> {
            for (int i = 0; i < 3; i++) due("all but " + i, hangsOn(7 - (1 << i), 3).settles(0, 0, 300, 0), 7 - (1 << i));
        });
        edge(fewest, "each bond its own", () -> {
            LandBonds x = desk(1, 1, 2);
            act(x, 0, "gain oath 1;", 0, END);
            for (int f = 0; f < 2; f++) {
                x.fact(OATH, f, 0, 0, 500);
                x.also(f, 100);
            }
            due("person 0", x.settles(0, 0, 300, 0), 1);
            due("person 1", x.settles(1, 0, 300, 0), 2);
        });
        edge(fewest, "three in doubt that hang together", () -> {
            LandBonds x = desk(1, 1, 1);
            act(x, 0, "gain oath 1;lose oath 1;", 0, END);
            for (int f = 0; f < 3; f++) {
                x.fact(OATH, 0, 0, 0, 500);
                x.also(f, 100);
            }
            due("an odd number of three", x.says(0, 0, 300, 0), 4);
            due("all", x.settles(0, 0, 300, 0), 7);
        });
    }

    private static void landsInWays() {
        String lands = "LANDS to which a PERSON has BONDS on a DAY in a WAY, as bits. NoSuchElementException: also no such WAY.";
        edge(lands, "none, and all five", () -> {
            LandBonds x = desk(5, 1, 2);
            for (int land = 0; land < 5; land++) act(x, land, "gain oath 1;", 0, END);
            x.fact(OATH, 0, 0, 0, 5);
            due("all", x.lands(0, 5, 0, 0), 31);
            due("none", x.lands(1, 5, 0, 0), 0);
        });
        edge(lands, "land 4 alone", () -> {
            LandBonds x = desk(5, 1, 1);
            act(x, 4, "gain oath 1;", 0, END);
            x.fact(OATH, 0, 0, 0, 5);
            due("bit 4", x.lands(0, 5, 0, 0), 16);
        });
        for (int way : new int[] {-1, 1, 27, LEAST, GREATEST}) {
            edge(lands, "way " + way + " of one", () -> dueOf("lands", () -> doubts(1).lands(0, 5, way, 0), NO_SUCH));
        }
        edge(lands, "the last of 27, and the next", () -> {
            due("26", doubts(3, 3, 3).lands(0, 5, 26, 0), 0);
            dueOf("27", () -> doubts(3, 3, 3).lands(0, 5, 27, 0), NO_SUCH);
        });
        edge(lands, "as many ways as that evening knows", () -> {
            LandBonds x = doubts(1);
            x.evenings(1);
            x.fact(OATH, 0, 0, 0, 30);
            x.also(1, 31);
            dueOf("way 1 on evening 0", () -> x.lands(0, 5, 1, 0), NO_SUCH);
            due("way 1 on evening 1", x.lands(0, 5, 1, 1), 0);
        });
    }

    /** The calls that are asked of a person and a land, on day 5, evening 0. */
    private static Calls.Call[] asked(LandBonds x, int person, int land) {
        return new Calls.Call[] {() -> x.belongs(person, land, 5, 0), () -> x.says(person, land, 5, 0),
            () -> x.settles(person, land, 5, 0), () -> x.chain(person, land, 5, NONE, 0, 0), () -> x.chain(person, land, 5, 0, 0, 0),
            () -> x.times(person, land, 5, 0, 0), () -> x.times(person, land, 5, 1, 0)};
    }

    private static void bondsAsked() {
        String none = "NoSuchElementException: no such PERSON, LAND, DAY. IllegalArgumentException likewise.";
        for (int number : new int[] {-1, 3, 20, LEAST, GREATEST}) {
            edge(none, "person " + number, () -> {
                LandBonds x = desk(2, 1, 3);
                act(x, 0, "gain act 1;", 0, END);
                for (Calls.Call call : asked(x, number, 0)) dueOf("asked", call, NO_SUCH);
                dueOf("lands", () -> x.lands(number, 5, 0, 0), NO_SUCH);
            });
        }
        for (int number : new int[] {-1, 2, 5, LEAST, GREATEST}) {
            edge(none, "land " + number, () -> {
                LandBonds x = desk(2, 1, 3);
                act(x, 0, "gain act 1;", 0, END);
                for (Calls.Call call : asked(x, 0, number)) dueOf("asked", call, NO_SUCH);
            });
        }
        edge(none, "the last of each", () -> {
            LandBonds x = desk(5, 1, 20);
            act(x, 4, "gain act 1;", 0, END);
            long[] want = {1, 1, 0, 1, 19, 1, 0};
            Calls.Call[] calls = asked(x, 19, 4);
            for (int i = 0; i < want.length; i++) dueOf("call " + i, calls[i], want[i]);
        });
    }

    private static void link(LandBonds x, int person, int day, int i, int... want) {
        for (int what = 0; what < 6; what++) due("link " + i + ", " + what, x.chain(person, 0, day, i, what, 0), want[what]);
    }

    private static void linksOfAChain() {
        String link = "Of the i-th link of a CHAIN (0: the BOND itself): 0 the PERSON, 1 the DAY on which it came, 2 the ACT, "
            + "3 the CLAUSE's place in it (from 0 on, 'strike' counted, too), 4 the FACT (NONE: the ACT began), "
            + "5 whether by 'children' (1).";
        edge(link, "'strike' counted, too", () -> {
            LandBonds x = desk(1, 1, 1);
            act(x, 0, "", 0, 1);
            act(x, 0, "strike 0;lose act 1;strike 0;gain oath 1;", 0, END);
            x.fact(STAY, 0, 0, 0, 5);
            x.fact(OATH, 0, 0, 0, 6);
            link(x, 0, 9, 0, 0, 6, 1, 3, 1, 0);
        });
        edge(link, "the ACT began: that which tells it, not that which began", () -> {
            LandBonds x = desk(1, 1, 1);
            act(x, 0, "gain act year;", 0, END);
            act(x, 0, "", 365, END);
            link(x, 0, 365, 0, 0, 365, 0, 0, NONE, 0);
        });
        edge(link, "the first clause, act, fact, person, day", () -> {
            LandBonds x = desk(1, 1, 1);
            act(x, 0, "gain oath 1;", 0, END);
            x.fact(OATH, 0, 0, 0, 0);
            link(x, 0, 0, 0, 0, 0, 0, 0, 0, 0);
        });
        edge(link, "the last clause, act, fact, person", () -> {
            LandBonds x = desk(1, 1, 20);
            for (int a = 0; a < 11; a++) act(x, 0, "", 0, END);
            act(x, 0, "lose act 1;".repeat(11) + "gain oath 1;", 0, END);
            for (int f = 0; f < 99; f++) x.fact(STAY, 0, 0, 0, 5);
            x.fact(OATH, 19, 0, 0, END - 1);
            link(x, 19, END, 0, 19, END - 1, 11, 11, 99, 0);
        });
        edge(link, "by 'children', by an act's beginning and by a fact", () -> {
            LandBonds x = desk(1, 1, 1);
            x.person(0, 0, NONE);
            x.fact(BIRTH, 1, 0, 0, 2);
            act(x, 0, "gain oath 1 children 9;gain act sex=0 and not father children 9;", 3, END);
            link(x, 1, 3, 0, 1, 3, 0, 1, NONE, 1);
            link(x, 1, 3, 1, 0, 3, 0, 1, NONE, 0);
            LandBonds y = desk(1, 1, 1);
            y.person(0, 0, NONE);
            y.fact(BIRTH, 1, 0, 0, 2);
            y.fact(OATH, 0, 0, 0, 4);
            act(y, 0, "gain oath 1 children 9;", 3, END);
            link(y, 1, 4, 0, 1, 4, 0, 0, 1, 1);
            link(y, 1, 4, 1, 0, 4, 0, 0, 1, 0);
        });
    }

    /** Person 1's bond leans on that of person 0: two links; person 2 has none. */
    private static LandBonds twoLinks() {
        LandBonds x = desk(1, 1, 1);
        x.person(0, 0, NONE);
        x.person(0, NONE, NONE);
        act(x, 0, "gain oath 1;gain birth father;", 0, END);
        x.fact(OATH, 0, 0, 0, 4);
        x.fact(BIRTH, 1, 0, 0, 5);
        return x;
    }

    private static void chainRefused() {
        String many = "i NONE: how many links (0: there is no such BOND then).";
        edge(many, "none, one, two", () -> {
            due("none", twoLinks().chain(2, 0, 5, NONE, 0, 0), 0);
            due("one", twoLinks().chain(0, 0, 5, NONE, 0, 0), 1);
            due("two", twoLinks().chain(1, 0, 5, NONE, 0, 0), 2);
        });
        edge(many, "then: ahead of it, and when it is lost", () -> {
            LandBonds x = twoLinks();
            act(x, 0, "lose choose 1;", 0, END);
            x.fact(CHOICE, 1, 0, 0, 9);
            due("ahead", x.chain(1, 0, 4, NONE, 0, 0), 0);
            due("last", x.chain(1, 0, 8, NONE, 0, 0), 2);
            due("lost", x.chain(1, 0, 9, NONE, 0, 0), 0);
        });
        String none = "NoSuchElementException: also no such link, what (that also with i NONE).";
        for (int i : new int[] {-2, 2, 40, LEAST, GREATEST}) {
            edge(none, "link " + i + " of two", () -> dueOf("chain", () -> twoLinks().chain(1, 0, 5, i, 0, 0), NO_SUCH));
        }
        edge(none, "link 0 without a bond", () -> dueOf("chain", () -> twoLinks().chain(2, 0, 5, 0, 0, 0), NO_SUCH));
        edge(none, "the last link", () -> due("person", twoLinks().chain(1, 0, 5, 1, 0, 0), 0));
        for (int what : new int[] {-1, 6, LEAST, GREATEST}) {
            edge(none, "what " + what, () -> {
                dueOf("of a link", () -> twoLinks().chain(1, 0, 5, 0, what, 0), NO_SUCH);
                dueOf("with i NONE", () -> twoLinks().chain(1, 0, 5, NONE, what, 0), NO_SUCH);
                dueOf("with i NONE, without a bond", () -> twoLinks().chain(2, 0, 5, NONE, what, 0), NO_SUCH);
            });
        }
        edge(none, "i NONE with each what", () -> {
            for (int what = 0; what < 6; what++) due("links", twoLinks().chain(1, 0, 5, NONE, what, 0), 2);
        });
    }

    private static void chainAsItHadCome() {
        String come = "then that on which it LEANS, as it had come by that DAY, and so on, up to one that LEANS on none (at most 40).";
        edge(come, "lost since", () -> {
            LandBonds x = twoLinks();
            act(x, 0, "lose choose 1;", 0, END);
            x.fact(CHOICE, 0, 0, 0, 6);
            due("the father has it no more", x.belongs(0, 0, 6, 0), 0);
            link(x, 1, 6, 0, 1, 5, 0, 1, 1, 0);
            link(x, 1, 6, 1, 0, 4, 0, 0, 0, 0);
        });
        edge(come, "lost and come again since", () -> {
            LandBonds x = twoLinks();
            act(x, 0, "lose choose 1;gain serve 1;", 0, END);
            x.fact(CHOICE, 0, 0, 0, 6);
            x.fact(SERVICE, 0, 0, 0, 7);
            link(x, 1, 7, 1, 0, 4, 0, 0, 0, 0);
            link(x, 0, 7, 0, 0, 7, 1, 1, 3, 0);
        });
        edge(come, "come twice ahead of it", () -> {
            LandBonds x = twoLinks();
            act(x, 0, "lose choose 1;gain serve 1;", 0, END);
            x.fact(OATH, 0, 0, 0, 1);
            x.fact(CHOICE, 0, 0, 0, 2);
            x.fact(SERVICE, 0, 0, 0, 3);
            link(x, 1, 5, 1, 0, 3, 1, 1, 4, 0);
        });
        edge(come, "come on that very day", () -> {
            LandBonds x = desk(1, 1, 1);
            x.person(0, 0, NONE);
            act(x, 0, "gain oath 1;gain birth father;", 0, END);
            x.fact(OATH, 0, 0, 0, 5);
            x.fact(BIRTH, 1, 0, 0, 5);
            link(x, 1, 5, 1, 0, 5, 0, 0, 0, 0);
        });
        edge(come, "one that was gained again leans anew", () -> {
            LandBonds x = twoLinks();
            act(x, 0, "lose choose 1;gain serve 1;", 0, END);
            x.fact(CHOICE, 1, 0, 0, 6);
            x.fact(SERVICE, 1, 0, 0, 7);
            due("by service on none", x.chain(1, 0, 7, NONE, 0, 0), 1);
            due("as it was", x.chain(1, 0, 5, NONE, 0, 0), 2);
        });
    }

    /** A chain of nineteen births and an oath, then by weddings on: person 0 and 1 give it to each other. */
    private static LandBonds long40(int weddings) {
        LandBonds x = desk(1, 1, 2);
        act(x, 0, "gain oath 1;gain wed spouse;lose choose 1;", 0, END);
        x.fact(OATH, 0, 0, 0, 1);
        for (int w = 0; w < weddings; w++) {
            x.fact(WEDDING, 1 - w % 2, w % 2, 0, 10 + 2 * w);
            x.fact(CHOICE, w % 2, 0, 0, 11 + 2 * w);
        }
        return x;
    }

    private static void chainOfForty() {
        String forty = "up to one that LEANS on none (at most 40).";
        edge(forty, "39, 40, and no more", () -> {
            LandBonds x = long40(45);
            int[] weddings = {1, 2, 38, 39, 40, 41, 45};
            for (int w : weddings) {
                due("behind " + w + " weddings", x.chain(w % 2, 0, 8 + 2 * w, NONE, 0, 0), Math.min(w + 1, 40));
            }
        });
        edge(forty, "the fortieth link", () -> {
            LandBonds x = long40(45);
            due("of 40 the oath", x.chain(1, 0, 86, 39, 1, 0), 1);
            due("of 41 the first wedding", x.chain(0, 0, 88, 39, 1, 0), 10);
            dueOf("the forty-first", () -> x.chain(0, 0, 88, 40, 1, 0), NO_SUCH);
        });
        edge(forty, "twenty generations", () -> {
            LandBonds x = desk(1, 1, 1);
            for (int p = 1; p < 20; p++) x.person(p % 2, p % 2 == 0 ? p - 1 : NONE, p - 1);
            act(x, 0, "gain birth father or mother;gain oath 1;", 0, END);
            x.fact(OATH, 0, 0, 0, 0);
            for (int p = 1; p < 20; p++) x.fact(BIRTH, p, 0, 0, p);
            due("links", x.chain(19, 0, 19, NONE, 0, 0), 20);
            for (int i = 0; i < 20; i++) due("link " + i, x.chain(19, 0, 19, i, 0, 0), 19 - i);
        });
    }

    private static void times() {
        String times = "How often a PERSON gained (what 0) or lost (1) a BOND to a LAND in WAY 0 by a DAY.";
        edge(times, "by the day ahead, by the day itself", () -> {
            LandBonds x = desk(1, 1, 1);
            act(x, 0, "gain oath 1;lose oath 1;", 0, END);
            for (int f = 0; f < 6; f++) x.fact(OATH, 0, 0, 0, 10 + 10 * f);
            int[] days = {9, 10, 19, 20, 29, 30, 60, END}, gained = {0, 1, 1, 1, 1, 2, 3, 3}, lost = {0, 0, 0, 1, 1, 1, 3, 3};
            for (int i = 0; i < days.length; i++) {
                due("gained by " + days[i], x.times(0, 0, days[i], 0, 0), gained[i]);
                due("lost by " + days[i], x.times(0, 0, days[i], 1, 0), lost[i]);
            }
        });
        edge(times, "each of that day counts", () -> {
            LandBonds x = desk(1, 1, 1);
            act(x, 0, "gain oath 1;lose oath 1;", 0, END);
            for (int f = 0; f < 99; f++) x.fact(OATH, 0, 0, 0, 10);
            due("gained", x.times(0, 0, 10, 0, 0), 50);
            due("lost", x.times(0, 0, 10, 1, 0), 49);
        });
        edge(times, "twenty persons, five lands, a hundred borders", () -> {
            LandBonds x = desk(5, 1, 20);
            for (int land = 0; land < 5; land++) act(x, land, "gain border 1;lose border 1;", 0, END);
            for (int f = 0; f < 100; f++) x.fact(BORDER, 0, f % 5, 0, f / 3);
            for (int p = 0; p < 20; p++) {
                for (int land = 0; land < 5; land++) {
                    due("gained", x.times(p, land, END, 0, 0), 50);
                    due("lost", x.times(p, land, END, 1, 0), 50);
                }
            }
            due("the last of them", x.chain(19, 4, 32, 0, 4, 0), 98);
        });
        edge(times, "each land, each person its own", () -> {
            LandBonds x = desk(2, 1, 2);
            act(x, 1, "gain oath 1;lose oath 1;", 0, END);
            x.fact(OATH, 1, 0, 0, 10);
            x.fact(OATH, 1, 0, 0, 11);
            for (int p = 0; p < 2; p++) {
                for (int land = 0; land < 2; land++) {
                    due("gained", x.times(p, land, 20, 0, 0), p * land);
                    due("lost", x.times(p, land, 20, 1, 0), p * land);
                }
            }
        });
        for (int what : new int[] {-1, 2, LEAST, GREATEST}) {
            edge(times, "what " + what, () -> {
                LandBonds x = desk(1, 1, 1);
                act(x, 0, "", 0, END);
                dueOf("times", () -> x.times(0, 0, 5, what, 0), NO_SUCH);
                dueOf("ifStruck", () -> x.ifStruck(0, 5, what, 0), NO_SUCH);
            });
        }
    }

    private static void ifStruck() {
        String struck = "IF STRUCK: an ACT taken as not known: how many PERSONS have its LAND's BOND (in WAY 0, on a DAY) "
            + "that hadn't it, and how many haven't it that had.";
        edge(struck, "all twenty, ahead of it none", () -> {
            LandBonds x = desk(1, 1, 20);
            act(x, 0, "gain act 1;", 10, END);
            due("haven't", x.ifStruck(0, 10, 1, 0), 20);
            due("have", x.ifStruck(0, 10, 0, 0), 0);
            due("ahead", x.ifStruck(0, 9, 1, 0), 0);
        });
        edge(struck, "some have it, some haven't", () -> {
            LandBonds x = desk(1, 1, 5);
            act(x, 0, "lose act sex=0;gain act sex;", 10, END);
            act(x, 0, "gain act sex=0;", 5, 6);
            due("have", x.ifStruck(0, 10, 0, 0), 3);
            due("haven't", x.ifStruck(0, 10, 1, 0), 2);
        });
        edge(struck, "its land's bond alone", () -> {
            LandBonds x = desk(2, 1, 3);
            act(x, 0, "gain act 1;", 10, END);
            act(x, 1, "gain act others;", 11, END);
            act(x, 1, "gain act sex;", 20, END);
            due("of land 0", x.ifStruck(0, 11, 1, 0), 3);
            due("of land 1", x.ifStruck(1, 11, 1, 0), 3);
            x.back(true, 1);
            due("one of land 1, where land 0 has three", x.ifStruck(2, 20, 1, 0), 1);
            due("none that had it not", x.ifStruck(2, 20, 0, 0), 0);
        });
        edge(struck, "what it strikes is in force without it", () -> {
            LandBonds x = desk(1, 1, 3);
            act(x, 0, "gain act 1;", 10, END);
            act(x, 0, "strike 0;", 0, END);
            due("have", x.ifStruck(1, 10, 0, 0), 3);
            due("haven't", x.ifStruck(1, 10, 1, 0), 0);
            due("the struck one changes nothing", x.ifStruck(0, 10, 1, 0), 0);
        });
        edge(struck, "in way 0", () -> {
            LandBonds x = desk(1, 1, 1);
            act(x, 0, "gain oath 1;", 10, END);
            x.fact(OATH, 0, 0, 0, 50);
            x.also(0, 20);
            act(x, 0, "", 10, END);
            due("on 30", x.ifStruck(0, 30, 1, 0), 0);
            due("on 50", x.ifStruck(0, 50, 1, 0), 1);
            due("without another one, on 30", x.ifStruck(1, 30, 0, 0), 0);
        });
        edge(struck, "an act without any clause", () -> {
            LandBonds x = desk(1, 1, 1);
            act(x, 0, "gain act 1;", 10, END);
            act(x, 0, "", 20, END);
            act(x, 0, "lose act year;", 0, END);
            act(x, 0, "", 400, END);
            due("its beginning asks", x.ifStruck(3, 400, 0, 0), 1);
            due("of another it doesn't", x.ifStruck(1, 400, 0, 0), 0);
        });
        edge("An ACT that isn't known: 0.", "taken back, or not told yet", () -> {
            LandBonds x = desk(1, 1, 1);
            x.evenings(1);
            act(x, 0, "gain act 1;", 10, END);
            x.evenings(1);
            x.back(true, 0);
            for (int k = 0; k < 3; k++) due("as known on " + k, x.ifStruck(0, 10, 1, k), k == 1 ? 1 : 0);
            for (int k = 0; k < 3; k++) due("have, on " + k, x.ifStruck(0, 10, 0, k), 0);
        });
    }

    private static void ifStruckRefused() {
        String none = "NoSuchElementException: no such ACT, DAY, what. IllegalArgumentException likewise.";
        edge(none, "of an act that isn't known, too", () -> {
            LandBonds x = desk(1, 1, 1);
            act(x, 0, "gain act 1;", 10, END);
            x.back(true, 0);
            dueOf("what 2", () -> x.ifStruck(0, 10, 2, 0), NO_SUCH);
            dueOf("what -1", () -> x.ifStruck(0, 10, -1, 0), NO_SUCH);
            dueOf("day -1", () -> x.ifStruck(0, -1, 0, 0), NO_SUCH);
            dueOf("day 73000", () -> x.ifStruck(0, 73000, 0, 0), NO_SUCH);
            dueOf("evening 1", () -> x.ifStruck(0, 10, 0, 1), ILLEGAL);
            dueOf("act 1", () -> x.ifStruck(1, 10, 0, 0), NO_SUCH);
        });
    }

    /** A call that is refused, or only asks, changes nothing. */
    private static void nothingOldIsAnswered() {
        edge("an ACT taken as not known", "it is known again in the next answer", () -> {
            LandBonds x = desk(1, 1, 1);
            act(x, 0, "gain act 1;", 10, END);
            due("lands", x.lands(0, 10, 0, 0), 1);
            due("haven't", x.ifStruck(0, 10, 1, 0), 1);
            due("lands", x.lands(0, 10, 0, 0), 1);
            due("chain", x.chain(0, 0, 10, NONE, 0, 0), 1);
            due("force", x.force(0, 10, 0) ? 1 : 0, 1);
        });
        String any = "all as it was known at the desk on any day";
        edge(any, "one evening behind the other, back and forth, each call by itself", () -> {
            LandBonds x = desk(1, 1, 1);
            act(x, 0, "gain border 1;", 0, END);
            x.evenings(1);
            x.fact(BORDER, 0, 0, 0, 10);
            x.also(0, 11);
            x.evenings(1);
            x.back(false, 0);
            int[] evenings = {0, 1, 2, 1, 0, 2, 0};
            for (int k : evenings) due("belongs, " + k, x.belongs(0, 0, 11, k), k % 2);
            for (int k : evenings) due("says, " + k, x.says(0, 0, 11, k), k % 2 * 2);
            for (int k : evenings) due("settles, " + k, x.settles(0, 0, 10, k), k % 2);
            for (int k : evenings) due("lands, " + k, x.lands(0, 10, 0, k), k % 2);
            for (int k : evenings) due("times, " + k, x.times(0, 0, 10, 0, k), k % 2);
            for (int k : evenings) due("chain, " + k, x.chain(0, 0, 10, NONE, 0, k), k % 2);
            for (int k : evenings) due("ifStruck, " + k, x.ifStruck(0, 10, 1, k), k % 2);
            for (int k : evenings) due("ways, " + k, x.ways(1, k), k % 2);
        });
        edge(any, "any day, evening and way behind any other", () -> {
            for (int a = 0; a < 18; a++) {
                LandBonds x = manifold();
                for (int b = 0; b < 18; b++) {
                    dueOfManifold(x, a);
                    dueOfManifold(x, b);
                }
            }
        });
        edge(any, "the last days of a way, then the first ones of the next", () -> {
            LandBonds x = desk(1, 1, 1);
            act(x, 0, "gain oath 1;lose choose 1;", 0, END);
            x.fact(OATH, 0, 0, 0, 5);
            x.also(0, 0);
            x.fact(CHOICE, 0, 0, 0, 9);
            for (int last = END - 2; last <= END; last++) {
                for (int first = 0; first < 3; first++) {
                    due("on " + last, x.lands(0, last, 0, 0), 0);
                    due("on " + first, x.lands(0, first, 1, 0), 1);
                }
            }
        });
        edge(any, "any day and evening behind any other, in all ways", () -> {
            for (int a = 0; a < 9; a++) {
                LandBonds x = manifold();
                for (int b = 0; b < 9; b++) {
                    dueInAllWays(x, a);
                    dueInAllWays(x, b);
                }
            }
        });
        edge(any, "behind what would be without an act", () -> {
            LandBonds x = desk(1, 1, 2);
            for (int a = 0; a < 12; a++) act(x, 0, a == 0 ? "gain oath 1;lose oath 1;" : "", 0, END);
            for (int day = 1; day < 40; day++) x.fact(OATH, 0, 0, 0, day);
            for (int a = 0; a < 12; a++) {
                for (int day = 1; day < 15; day++) {
                    due("without " + a, x.ifStruck(a, 1, 1, 0), a == 0 ? 1 : 0);
                    due("on " + day, x.lands(0, day, 0, 0), day % 2);
                }
            }
        });
    }

    /** Land 0 to 2: from day 0, 1, 2 on; 3: from evening 999 on; 4: in way 1 (on days 0 to 2). */
    private static LandBonds manifold() {
        LandBonds x = desk(5, 1, 1);
        for (int land = 0; land < 5; land++) act(x, land, "gain oath to;", 0, END);
        x.fact(OATH, 0, 4, 0, 500);
        x.also(0, 0);
        for (int land = 0; land < 3; land++) x.fact(OATH, 0, land, 0, land);
        x.evenings(1);
        x.fact(CHOICE, 0, 0, 0, 0);
        x.evenings(998);
        x.fact(OATH, 0, 3, 0, 0);
        return x;
    }

    private static final int[] EVENINGS = {0, 1, 999};

    private static void dueOfManifold(LandBonds x, int n) {
        int day = n % 3, k = EVENINGS[n / 3 % 3], way = n / 9;
        int want = (2 << day) - 1 + (k == 999 ? 8 : 0) + 16 * way;
        due("on " + day + ", " + k + ", way " + way, x.lands(0, day, way, k), want);
    }

    private static void dueInAllWays(LandBonds x, int n) {
        int day = n % 3, k = EVENINGS[n / 3];
        int[] want = {2, day > 0 ? 2 : 0, day > 1 ? 2 : 0, k == 999 ? 2 : 0, 1};
        for (int land = 0; land < 5; land++) due(land + " on " + day + ", " + k, x.says(0, land, day, k), want[land]);
    }

    /** The same question ahead of what is told and behind it. */
    private static void toldBetweenTwoAnswers() {
        String known = "AS KNOWN on EVENING k: what was told on k or ahead";
        edge(known, "an act", () -> {
            LandBonds x = desk(1, 1, 1);
            x.fact(OATH, 0, 0, 0, 5);
            due("ahead", x.belongs(0, 0, 5, 0) + x.lands(0, 5, 0, 0), 0);
            act(x, 0, "gain oath 1;", 0, END);
            due("lands", x.lands(0, 5, 0, 0), 1);
            due("belongs", x.belongs(0, 0, 5, 0), 1);
        });
        edge(known, "a fact", () -> {
            LandBonds x = desk(1, 1, 1);
            act(x, 0, "gain oath 1;", 0, END);
            due("ahead", x.belongs(0, 0, 5, 0) + x.lands(0, 5, 0, 0), 0);
            x.fact(OATH, 0, 0, 0, 5);
            due("lands", x.lands(0, 5, 0, 0), 1);
            due("belongs", x.belongs(0, 0, 5, 0), 1);
        });
        edge(known, "another day of a fact", () -> {
            LandBonds x = desk(1, 1, 1);
            act(x, 0, "gain oath 1;", 0, END);
            x.fact(OATH, 0, 0, 0, 5);
            due("ahead", x.belongs(0, 0, 5, 0), 1);
            x.also(0, 9);
            due("belongs", x.belongs(0, 0, 5, 0), 2);
            due("way 1", x.lands(0, 5, 1, 0), 0);
            x.also(0, 2);
            due("says", x.says(0, 0, 5, 0), 2);
            due("way 2", x.lands(0, 5, 2, 0), 1);
        });
        edge(known, "what is taken back", () -> {
            LandBonds x = desk(1, 1, 1);
            act(x, 0, "gain oath 1;gain choose 1;", 0, END);
            x.fact(OATH, 0, 0, 0, 5);
            x.fact(CHOICE, 0, 0, 0, 5);
            due("ahead", x.belongs(0, 0, 5, 0) + x.chain(0, 0, 5, 0, 4, 0), 1);
            x.back(false, 0);
            due("its fact", x.chain(0, 0, 5, 0, 4, 0), 1);
            x.back(true, 0);
            due("belongs", x.belongs(0, 0, 5, 0), 0);
            due("lands", x.lands(0, 5, 0, 0), 0);
        });
        edge("PERSONS, from 0 on, at most 20", "a person told behind an answer", () -> {
            LandBonds x = desk(1, 1, 1);
            act(x, 0, "gain act 1;", 0, END);
            due("ahead", x.belongs(0, 0, 5, 0) + x.lands(0, 5, 0, 0), 2);
            x.person(0, NONE, NONE);
            due("lands", x.lands(1, 5, 0, 0), 1);
            due("belongs", x.belongs(1, 0, 5, 0), 1);
        });
    }
}
