/** Each sentence of the document that names an edge of acts: their tokens, grammar, faults, arithmetic, and force. */
public final class EdgesOfActs extends Edges {
    public static void main(String[] args) throws java.io.IOException {
        begin("EdgesOfActs");
        words();
        numbers();
        signsAndBlanks();
        clauses();
        bonds();
        expressions();
        faultsWhereNothingCanStand();
        faultsOfTextsThatEnd();
        faultsOfTooMuch();
        faultsOfDepth();
        faultsOfWords();
        faultsOfStrikes();
        firstFaults();
        order();
        wrapping();
        truth();
        force();
        struck();
        struckInTurn();
        end();
    }

    /** The text as an act of land 1 behind act 0, of land 0, and act 1, of land 1: its fault (0: none) and the place. */
    private static void read(String text, int fault, int place) {
        LandBonds x = desk(2, 0, 0);
        act(x, 0, "", 0, 1);
        act(x, 1, "", 0, 1);
        due("act '" + text + "'", act(x, 1, text, 0, 1), fault == 0 ? 2 : -1 - fault);
        due("place of '" + text + "'", x.fault(), place);
        due("acts behind '" + text + "'", x.count(5), fault == 0 ? 3 : 2);
    }

    private static void reads(String sentence, String text) {
        edge(sentence, "reads '" + text + "'", () -> read(text, 0, NONE));
    }

    private static void refuses(String sentence, String text, int fault, int place) {
        edge(sentence, "refuses '" + text + "'", () -> read(text, fault, place));
    }

    /** Whether land 0's bond is gained by an act of this one clause. */
    private static long gains(String clause) {
        LandBonds x = desk(1, 0, 1);
        act(x, 0, clause, 5, 6);
        return x.belongs(0, 0, 5, 0);
    }

    /** What the expression comes to is what the other one comes to. */
    private static void same(String sentence, String expr, String value) {
        edge(sentence, expr + " is " + value, () -> {
            due("it", gains("gain act (" + expr + ")=(" + value + ");"), 1);
            due("it isn't one more", gains("gain act (" + expr + ")=(" + value + ")+1;"), 0);
        });
    }

    private static void words() {
        String words = "TOKENS: words (a .. z, the longest row)";
        refuses(words, "gainact 1;", 1, 0);
        refuses(words, "gain actnot 1;", 1, 5);
        refuses(words, "gain act hereor sex;", 3, 9);
        refuses(words, "gain act notsex;", 3, 9);
        refuses(words, "gai n act 1;", 1, 0);
        refuses(words, "ga\nin act 1;", 1, 0);
        refuses(words, "gain act fathe;", 3, 9);
        refuses(words, "gain act fathers;", 3, 9);
        refuses(words, "gain act other;", 3, 9);
        refuses(words, "gain act z;", 3, 9);
        refuses(words, "gain act az;", 3, 9);
        refuses(words, "gain act sexz;", 3, 9);
        refuses(words, "gain act sex z;", 1, 13);
        refuses(words, "gain act otherss;", 3, 9);
        refuses(words, "gain act Sex;", 1, 9);
        refuses(words, "gain act sEx;", 3, 9);
        refuses(words, "gain act a`;", 3, 9);
        refuses(words, "gain act sex`;", 1, 12);
        refuses(words, "gain act sex{;", 1, 12);
        refuses(words, "gain act sex_to;", 1, 12);
        reads(words, "gain act(sex)or(age);");
        reads(words, "gain act 1or 2and 3;");
        reads(words, "gain act sex*2unless not 1children 5;");
    }

    private static void numbers() {
        String numbers = "NUMBERS (1 to 5 digits)";
        reads(numbers, "gain act 0;");
        reads(numbers, "gain act 99999;");
        reads(numbers, "gain act 00000;");
        refuses(numbers, "gain act 1 2;", 1, 11);
        refuses(numbers, "gain act 1/;", 1, 11);
        refuses(numbers, "gain act 1:;", 1, 10);
        refuses(numbers, "gain act 1.5;", 1, 10);
        refuses(numbers, "gain act 100 000;", 1, 13);
        same(numbers, "00123", "123");
        same(numbers, "00000", "0");
        same(numbers, "99999", "99998+1");
        same(numbers, "12345", "5+10*(4+10*(3+10*(2+10)))");
        same(numbers, "67890", "10*(9+10*(8+10*(7+10*6)))");
        edge(numbers, "children 00002", () -> {
            LandBonds x = desk(1, 1, 1);
            x.person(0, 0, NONE);
            x.fact(BIRTH, 1, 0, 0, 0);
            act(x, 0, "gain act sex=0 and not father children 00002;", 729, 730);
            due("a child of one year", x.belongs(1, 0, 729, 0), 1);
        });
    }

    private static void signsAndBlanks() {
        String signs = "signs ; ( ) + - * / < = ; blanks (32, 10) between them count for nothing.";
        reads(signs, "gain act (1+2-3*4/5)<6;");
        reads(signs, "gain act(1)=(2);");
        reads(signs, "   gain\n\nact \n 1\n+\n2 ; \n");
        reads(signs, "gain act 1;lose act 1;");
        reads(signs, " ");
        reads(signs, "\n");
        for (char c = 0; c < 256; c++) {
            String sign = String.valueOf(c);
            if (sign.matches("[a-z0-9;()+*/<= \n-]")) continue;
            edge(signs, "byte " + (int) c + " is none", () -> {
                read(sign, 1, 0);
                read("gain" + sign + "act 1;", 1, 4);
                read("gain act" + sign + " 1;", 1, 8);
                read("gain act 1" + sign + ";", 1, 10);
                read("gain act 1;" + sign, 1, 11);
                read("gain act 1+" + sign + "1;", 1, 11);
            });
        }
    }

    private static void clauses() {
        String act = "ACT: CLAUSE*.";
        reads(act, "");
        reads(act, "gain act 1;");
        reads(act, "strike 1;lose act 1;strike 1;");
        refuses(act, ";", 1, 0);
        refuses(act, "gain act 1;;", 1, 11);
        refuses(act, "gain act 1;act 1;", 1, 11);
        String clause = "CLAUSE: ('gain' | 'lose') WHEN EXPR ['unless' EXPR] ['children' NUMBER] ';' | 'strike' NUMBER ';'.";
        for (String word : "unless children or and not birth wed oath choose serve border act here sex moved give x".split(" ")) {
            refuses(clause, word + " act 1;", 1, 0);
        }
        for (String sign : new String[] {"(", ")", "+", "-", "*", "/", "<", "=", "1", "123456"}) refuses(clause, sign, 1, 0);
        reads(clause, "strike 1;");
        refuses(clause, "strike (1);", 1, 7);
        refuses(clause, "strike -1;", 1, 7);
        refuses(clause, "strike act 1;", 1, 7);
        refuses(clause, "strike 1+0;", 1, 8);
        refuses(clause, "strike 1 children 5;", 1, 9);
        refuses(clause, "strike 1 unless 1;", 1, 9);
    }

    private static void bonds() {
        String clause = "CLAUSE: ('gain' | 'lose') WHEN EXPR ['unless' EXPR] ['children' NUMBER] ';' | 'strike' NUMBER ';'.";
        reads(clause, "lose act 1 unless 2;");
        reads(clause, "lose act 1 children 2;");
        reads(clause, "lose act 1 unless 2 children 3;");
        refuses(clause, "lose act 1 children 2 unless 3;", 1, 22);
        refuses(clause, "lose act 1 unless 2 unless 3;", 1, 20);
        refuses(clause, "lose act 1 children 2 children 3;", 1, 22);
        refuses(clause, "lose act 1 children (2);", 1, 20);
        refuses(clause, "lose act 1 children -2;", 1, 20);
        refuses(clause, "lose act 1 children sex;", 1, 20);
        refuses(clause, "lose act 1 children 2+2;", 1, 21);
        refuses(clause, "lose act unless 1;", 3, 9);
        refuses(clause, "lose act children 1;", 3, 9);
        refuses(clause, "lose act ;", 1, 9);
        refuses(clause, "lose 1;", 1, 5);
        refuses(clause, "lose lose 1;", 1, 5);
        refuses(clause, "lose (act) 1;", 1, 5);
        String when = "WHEN: birth wed oath choose serve border act.";
        for (String word : "birth wed oath choose serve border act".split(" ")) {
            reads(when, "gain " + word + " 1;lose " + word + " 1;");
        }
        for (String word : "stay here sex to gain unless not choice service wedding births bor".split(" ")) {
            refuses(when, "gain " + word + " 1;", 1, 5);
        }
    }

    private static void expressions() {
        reads("EXPR: AND ('or' AND)*.", "gain act 1 or 2 or 3;");
        refuses("EXPR: AND ('or' AND)*.", "gain act or 1;", 3, 9);
        refuses("EXPR: AND ('or' AND)*.", "gain act 1 or or 1;", 3, 14);
        reads("AND: NOT ('and' NOT)*.", "gain act 1 and not 2 and 3;");
        refuses("AND: NOT ('and' NOT)*.", "gain act and 1;", 3, 9);
        refuses("AND: NOT ('and' NOT)*.", "gain act 1 and;", 1, 14);
        String not = "NOT: 'not' NOT | SUM [('<' | '=') SUM].";
        reads(not, "gain act not 1<2 and not not 3=4;");
        refuses(not, "gain act 1<2=3;", 1, 12);
        refuses(not, "gain act 1<2<3;", 1, 12);
        refuses(not, "gain act 1<=2;", 1, 11);
        refuses(not, "gain act <1;", 1, 9);
        refuses(not, "gain act 1<;", 1, 11);
        refuses(not, "gain act 1 not 2;", 1, 11);
        refuses(not, "gain act 1<not 2;", 3, 11);
        refuses(not, "gain act 1=not 2;", 3, 11);
        String sum = "SUM: PRODUCT (('+' | '-') PRODUCT)*.";
        reads(sum, "gain act 1+2-3+4-5;");
        refuses(sum, "gain act -1;", 1, 9);
        refuses(sum, "gain act 1--1;", 1, 11);
        refuses(sum, "gain act 1+not 1;", 3, 11);
        refuses(sum, "gain act 1-;", 1, 11);
        String product = "PRODUCT: PART (('*' | '/') PART)*.";
        reads(product, "gain act 1*2/3*4/5;");
        refuses(product, "gain act *1;", 1, 9);
        refuses(product, "gain act 1**1;", 1, 11);
        refuses(product, "gain act 1*-1;", 1, 11);
        refuses(product, "gain act 1/not 1;", 3, 11);
        String part = "PART: NUMBER | VALUE | '(' EXPR ')'.";
        reads(part, "gain act (not 1 or 2);");
        refuses(part, "gain act ();", 1, 10);
        refuses(part, "gain act (1;", 1, 11);
        refuses(part, "gain act 1);", 1, 10);
        refuses(part, "gain act (1 unless 2);", 1, 12);
        refuses(part, "gain act (1)(2);", 1, 12);
        refuses(part, "gain act sex sex;", 1, 13);
        refuses(part, "gain act (1 children 2);", 1, 12);
        String value = "VALUE: here father mother wedded spouse sex age stay has others to year moved.";
        for (String v : "here father mother wedded spouse sex age stay has others to year moved".split(" ")) {
            reads(value, "gain act " + v + "+(" + v + ")<" + v + " unless " + v + ";");
        }
    }

    private static void faultsWhereNothingCanStand() {
        String one = "1 a TOKEN that can't stand there, or is none (the text's length where it ends too soon)";
        refuses(one, "gain gain act 1;", 1, 5);
        refuses(one, "gain act 1 gain act 1;", 1, 11);
        refuses(one, "gain act 1 x;", 1, 11);
        refuses(one, "gain act 1 sex;", 1, 11);
        refuses(one, "gain act 1 1234567;", 1, 11);
        refuses(one, "gain 1234567 1;", 1, 5);
        refuses(one, "gain act 1 children x;", 1, 20);
        refuses(one, "strike x;", 1, 7);
        refuses(one, "gain act 1 ?;", 1, 11);
        refuses(one, "strike 1 1;", 1, 9);
        refuses(one, "strike 1 1234567;", 1, 9);
        String at = "FAULTS, the first along the text, at a TOKEN's first byte";
        refuses(at, "  \n gain  birth   nonsense;", 3, 18);
        refuses(at, "gain act    123456789;", 2, 12);
        refuses(at, "gain act 1\n   children\n  gain;", 1, 25);
        refuses(at, "strike   00;", 4, 9);
    }

    private static void faultsOfTextsThatEnd() {
        String ends = "(the text's length where it ends too soon)";
        String whole = "gain act (sex+1)<2 unless not 3 children 4;";
        int[] tokens = {4, 8, 10, 13, 14, 15, 16, 17, 18, 25, 29, 31, 40, 42};
        for (int length : tokens) {
            edge(ends, "'" + whole.substring(0, length) + "'", () -> read(whole.substring(0, length), 1, length));
        }
        for (String text : new String[] {"gain", "lose act", "strike", "strike 1", "gain act (", "gain act not", "gain act 1+",
            "gain act 1 or", "gain act 1 unless", "gain act 1 children", "gain act 1;lose"}) {
            refuses(ends, text, 1, text.length());
            refuses(ends, text + " \n ", 1, text.length() + 3);
        }
        edge(ends, "the tape goes on, the text does not", () -> {
            LandBonds x = desk(1, 0, 0);
            x.feed(0x6761696e, 0x20202020, 0x20202020, 0x20202020, 0x20202020);
            due("six bytes of it", x.act(0, 6, 0, 1), -2);
            due("its length", x.fault(), 6);
        });
        edge(ends, "a number cut short is another number", () -> {
            LandBonds x = desk(1, 0, 0);
            act(x, 0, "", 0, 1);
            act(x, 0, "", 0, 1);
            int[] n = Calls.numbers("strike 12;          ");
            x.feed(n[0], n[1], n[2], n[3], n[4]);
            due("'strike 1'", x.act(0, 8, 0, 1), -2);
            due("where", x.fault(), 8);
            n = Calls.numbers("gain act 123456;    ");
            x.feed(n[0], n[1], n[2], n[3], n[4]);
            due("'gain act 12345'", x.act(0, 14, 0, 1), -2);
            due("where", x.fault(), 14);
        });
        edge(ends, "a word cut short is another word", () -> {
            LandBonds x = desk(1, 0, 0);
            int[] n = Calls.numbers("gain act here;      ");
            x.feed(n[0], n[1], n[2], n[3], n[4]);
            due("'her'", x.act(0, 12, 0, 1), -4);
            due("where", x.fault(), 9);
        });
    }

    private static void faultsOfTooMuch() {
        String number = "2 one that can, but is too much: a NUMBER of 6 digits or more";
        reads(number, "gain act 12345 children 12345;");
        refuses(number, "gain act 123456;", 2, 9);
        refuses(number, "gain act 000000;", 2, 9);
        refuses(number, "gain act 12345678901234567890;", 2, 9);
        refuses(number, "gain act 1+123456;", 2, 11);
        refuses(number, "gain act (123456);", 2, 10);
        refuses(number, "gain act 1 unless 123456;", 2, 18);
        refuses(number, "gain act not 123456;", 2, 13);
        refuses(number, "gain act 1 children 123456;", 2, 20);
        refuses(number, "strike 123456;", 2, 7);
        refuses(number, "strike 000001;", 2, 7);
        refuses(number, "strike 4294967297;", 2, 7);
        refuses(number, "gain act 1 children 18446744073709551617;", 2, 20);
        refuses(number, "gain act " + "9".repeat(490) + ";", 2, 9);
        refuses(number, "gain act " + "0".repeat(491), 2, 9);
        refuses(number, "gain act 123456", 2, 9);
        String clause = "the first TOKEN of the 13th CLAUSE";
        String twelve = "lose act 1;".repeat(12);
        reads(clause, twelve);
        reads(clause, twelve + " \n");
        refuses(clause, twelve + "gain act 1;", 2, 132);
        refuses(clause, twelve + " lose", 2, 133);
        refuses(clause, twelve + "strike 0;", 2, 132);
        refuses(clause, twelve + "strike", 2, 132);
        refuses(clause, twelve + "birth", 1, 132);
        refuses(clause, twelve + "?", 1, 132);
        refuses(clause, twelve + "123456", 1, 132);
        refuses(clause, "strike 1;".repeat(12) + "strike 1;", 2, 108);
        refuses(clause, "lose act 1;".repeat(11) + "gain act x;lose act 1;", 3, 130);
        String not = "the seventh 'not' side by side";
        String six = "not not not not not not ";
        reads(not, "gain act " + six + "1;");
        refuses(not, "gain act " + six + "not 1;", 2, 33);
        refuses(not, "gain act " + six + "not not 1;", 2, 33);
        refuses(not, "gain act " + six + "not", 2, 33);
        refuses(not, "gain act 1 or " + six + "not 1;", 2, 38);
        refuses(not, "gain act (" + six + "not 1);", 2, 34);
        refuses(not, "gain act 1 unless " + six + "not 1;", 2, 42);
        reads(not, "gain act " + six + "1 and " + six + "1 or " + six + "1 unless " + six + "1;");
        reads(not, "gain act " + six + "(" + six + "1);");
        refuses(not, "gain act " + six + "x;", 3, 33);
        refuses(not, "gain act " + six + ";", 1, 33);
    }

    private static void faultsOfDepth() {
        String depth = "of an EXPR within 6 others (a NUMBER, any word, a parenthesis)";
        reads(depth, "gain act (((((1)))));");
        reads(depth, "gain act (((((sex or not 1)))));");
        reads(depth, "gain act (((((1)))))+(((((2)))))<(((((3)))));");
        reads(depth, "gain act 1 unless (((((1)))));");
        refuses(depth, "gain act ((((((1))))));", 2, 15);
        refuses(depth, "gain act ((((((123456))))));", 2, 15);
        refuses(depth, "gain act ((((((sex))))));", 2, 15);
        refuses(depth, "gain act ((((((not sex))))));", 2, 15);
        refuses(depth, "gain act ((((((x))))));", 2, 15);
        refuses(depth, "gain act ((((((gain))))));", 2, 15);
        refuses(depth, "gain act ((((((or", 2, 15);
        refuses(depth, "gain act (((((((1)))))));", 2, 15);
        refuses(depth, "gain act ((((((1", 2, 15);
        refuses(depth, "gain act ((((((", 1, 15);
        refuses(depth, "gain act ((((((;", 1, 15);
        refuses(depth, "gain act ((((((?", 1, 15);
        refuses(depth, "gain act ((((((+1", 1, 15);
        refuses(depth, "gain act (((((1+(2))))));", 2, 17);
        refuses(depth, "gain act 1 or ((((((1))))));", 2, 20);
        refuses(depth, "gain act not (not (not (not (not (not (1))))));", 2, 39);
        refuses(depth, "gain act 1 unless ((((((1))))));", 2, 24);
        edge(depth, "what five parentheses hold is worked out", () -> {
            due("1", gains("gain act 1-(1-(1-(1-(1-(1-0)))));"), 0);
            due("0", gains("gain act 1-(1-(1-(1-(1-(0-0)))));"), 1);
            due("all that waits for what is within",
                gains("gain act 1 or 0 and 1<1+1*(1 or 0 and 1<1+1*(1 or 0 and 1<1+1*(0 or 1 and 1<1+1*(0 or 1 and 1<1+1*"
                    + "(0 or 1 and 1<1+1*1)))));"), 1);
        });
    }

    private static void faultsOfWords() {
        String word = "3 any word where a PART must stand that is no VALUE";
        for (String w : "gain lose strike unless children or and birth wed oath choose serve border act x".split(" ")) {
            refuses(word, "gain act " + w + ";", 3, 9);
            refuses(word, "gain act 1*" + w + ";", 3, 11);
        }
        refuses(word, "gain act (x);", 3, 10);
        refuses(word, "gain act 1 or x;", 3, 14);
        refuses(word, "gain act 1 and x;", 3, 15);
        refuses(word, "gain act not x;", 3, 13);
        refuses(word, "gain act 1<x;", 3, 11);
        refuses(word, "gain act 1 unless x;", 3, 18);
        refuses(word, "gain act 1 unless children 5;", 3, 18);
        refuses(word, "gain act 1+not sex;", 3, 11);
        refuses(word, "gain act abcdefghijklmnopqrstuvwxyzabcdefghijklmnopqrstuvwxyz;", 3, 9);
        refuses(word, "gain act x", 3, 9);
    }

    private static void faultsOfStrikes() {
        String strike = "4 behind 'strike' the number of an ACT that there isn't, or of another LAND.";
        reads(strike, "strike 1;");
        reads(strike, "strike 00001;");
        refuses(strike, "strike 0;", 4, 7);
        refuses(strike, "strike 2;", 4, 7);
        refuses(strike, "strike 3;", 4, 7);
        refuses(strike, "strike 12;", 4, 7);
        refuses(strike, "strike 99999;", 4, 7);
        refuses(strike, "strike 1;strike 0;", 4, 16);
        edge(strike, "the first act strikes none", () -> {
            LandBonds x = desk(1, 0, 0);
            due("act", act(x, 0, "strike 0;", 0, 1), -5);
        });
        edge(strike, "one that is taken back is still there", () -> {
            LandBonds x = desk(1, 0, 0);
            act(x, 0, "", 0, END);
            x.evenings(1);
            x.back(true, 0);
            due("act", act(x, 0, "strike 0;", 0, END), 1);
        });
        edge(strike, "one that never is", () -> {
            LandBonds x = desk(1, 0, 0);
            act(x, 0, "", 5, 5);
            due("act", act(x, 0, "strike 0;", 0, END), 1);
        });
        edge(strike, "one that was refused isn't there", () -> {
            LandBonds x = desk(1, 0, 0);
            act(x, 0, "x", 0, 1);
            due("act", act(x, 0, "strike 0;", 0, 1), -5);
        });
    }

    private static void firstFaults() {
        String first = "FAULTS, the first along the text";
        refuses(first, "gain act x;strike 9;", 3, 9);
        refuses(first, "strike 9;gain act x;", 4, 7);
        refuses(first, "gain act 123456 ?;", 2, 9);
        refuses(first, "gain act ? 123456;", 1, 9);
        refuses(first, "gain act 1;?;strike 9;", 1, 11);
        refuses(first, "strike 0 0;", 4, 7);
        refuses(first, "strike 1 0;", 1, 9);
        refuses(first, "strike 9", 4, 7);
        refuses(first, "gain act x y z", 3, 9);
        refuses(first, "gain act 1 children 123456 5", 2, 20);
    }

    private static void order() {
        String left = "From the left; ints that wrap, / cut down to 0, by 0 gives 0";
        same(left, "10-3-2", "5");
        same(left, "10-3+2", "9");
        same(left, "100/5/2", "10");
        same(left, "100/5*2", "40");
        same(left, "7*5/2", "17");
        same(left, "7/2*2", "6");
        same(left, "2+3*4", "14");
        same(left, "2*3+4", "10");
        same(left, "20-6/2", "17");
        same(left, "1+1<3", "1");
        same(left, "3<1+1", "0");
        same(left, "2*3=6", "1");
        same(left, "not 1<2", "0");
        same(left, "not 2<1", "1");
        same(left, "not 0+5", "0");
        same(left, "not 0 and 0", "0");
        same(left, "not 0 or 1", "1");
        same(left, "1 or 1 and 0", "1");
        same(left, "0 and 1 or 1", "1");
        same(left, "0 and (1 or 1)", "0");
        same(left, "1<2 and 2<1", "0");
        same(left, "1<2 or 2<1", "1");
        same(left, "(1<2)<3", "1");
        same(left, "(2+3)*4", "20");
    }

    private static void wrapping() {
        String ints = "ints that wrap, / cut down to 0, by 0 gives 0";
        String most = "(21475*99999+5122)", least = "(0-21475*99999-5123)";
        same(ints, most + "+1", least);
        same(ints, least + "-1", most);
        same(ints, most + "*2", "0-2");
        same(ints, least + "*2", "0");
        same(ints, least + "*(0-1)", least);
        same(ints, "0-" + least, least);
        same(ints, least + "/(0-1)", least);
        same(ints, "99999*99999", "14098*99999+79507");
        edge(ints, "what wraps is below 0", () -> {
            due("the greatest", gains("gain act 0<" + most + ";"), 1);
            due("one more", gains("gain act " + most + "+1<0;"), 1);
            due("the least", gains("gain act " + least + "<0-99999;"), 1);
        });
        same(ints, "7/2", "3");
        same(ints, "(0-7)/2", "0-3");
        same(ints, "7/(0-2)", "0-3");
        same(ints, "(0-7)/(0-2)", "3");
        same(ints, "(0-1)/2", "0");
        same(ints, "1/99999", "0");
        same(ints, "5/0", "0");
        same(ints, "0/0", "0");
        same(ints, "(0-5)/0", "0");
        same(ints, least + "/0", "0");
        same(ints, "5/0+3", "3");
        same(ints, "5/(1-1)/0", "0");
    }

    private static void truth() {
        String truth = "tests, not, and, or are 1 or 0 (what isn't 0 holds)";
        same(truth, "3<4", "1");
        same(truth, "4<4", "0");
        same(truth, "5<4", "0");
        same(truth, "0-5<0-4", "1");
        same(truth, "4=4", "1");
        same(truth, "4=5", "0");
        same(truth, "not 0", "1");
        same(truth, "not 7", "0");
        same(truth, "not (0-7)", "0");
        same(truth, "not not 7", "1");
        same(truth, "not not not 7", "0");
        same(truth, "2 and 4", "1");
        same(truth, "2 and 0", "0");
        same(truth, "0 and 2", "0");
        same(truth, "0 and 0", "0");
        same(truth, "(0-2) and (0-4)", "1");
        same(truth, "0 or 4", "1");
        same(truth, "4 or 0", "1");
        same(truth, "2 or 4", "1");
        same(truth, "0 or 0", "0");
        same(truth, "(0-2) or 0", "1");
        same(truth, "(5)", "5");
        edge(truth, "a clause holds by what is below 0", () -> {
            due("-1", gains("gain act 0-1;"), 1);
            due("0", gains("gain act 1-1;"), 0);
            due("7", gains("gain act 7;"), 1);
        });
        String unless = "EXPR 'unless' EXPR: 0 if the second holds, else the first.";
        String[] none = {"1 unless 1", "1 unless 7", "1 unless 0-1", "0 unless 0", "0 unless 1", "1 or 1 unless 1", "7 unless 2<3"};
        for (String expr : none) edge(unless, expr, () -> due("0", gains("gain act " + expr + ";"), 0));
        String[] first = {"1 unless 0", "0-1 unless 5-5", "7 unless 3<2", "1 unless 1 and 0", "1 unless not 1"};
        for (String expr : first) edge(unless, expr, () -> due("the first", gains("gain act " + expr + ";"), 1));
    }

    private static void force() {
        String force = "IN FORCE on a DAY is an ACT that is known, from its first DAY on, ahead of its end";
        edge(force, "the day ahead, the first, the last, its end", () -> {
            LandBonds x = desk(1, 0, 0);
            act(x, 0, "", 10, 20);
            int[] days = {9, 10, 19, 20}, want = {0, 1, 1, 0};
            for (int i = 0; i < 4; i++) due("on " + days[i], bit(x.force(0, days[i], 0)), want[i]);
        });
        edge(force, "what is asked on these days", () -> {
            int[] days = {9, 10, 19, 20}, want = {0, 1, 1, 0};
            for (int i = 0; i < 4; i++) {
                LandBonds x = desk(1, 0, 1);
                act(x, 0, "gain oath 1;", 10, 20);
                x.fact(OATH, 0, 0, 0, days[i]);
                due("an oath on " + days[i], x.belongs(0, 0, END, 0), want[i]);
            }
        });
        edge(force, "it may never be", () -> {
            LandBonds x = desk(1, 0, 1);
            act(x, 0, "gain oath 1;gain act 1;", 10, 10);
            act(x, 0, "gain oath 1;gain act 1;", 10, 9);
            for (int day = 8; day < 12; day++) x.fact(OATH, 0, 0, 0, day);
            due("no bond", x.belongs(0, 0, END, 0), 0);
        });
        edge(force, "what is gained stays behind its end", () -> {
            LandBonds x = desk(1, 0, 1);
            act(x, 0, "gain act 1;", 10, 11);
            due("behind", x.belongs(0, 0, 11, 0), 1);
            due("on the last day", x.belongs(0, 0, END, 0), 1);
        });
        for (int number : new int[] {-1, 1, 12, LEAST, GREATEST}) {
            edge("NoSuchElementException: no such ACT, DAY.", "act " + number, () -> {
                LandBonds x = desk(1, 0, 0);
                act(x, 0, "", 0, END);
                dueOf("force", () -> bit(x.force(number, 5, 0)), NO_SUCH);
                dueOf("ifStruck", () -> x.ifStruck(number, 5, 0, 0), NO_SUCH);
            });
        }
    }

    private static void struck() {
        String struck = "that isn't STRUCK by another one that is IN FORCE and has a greater number.";
        edge(struck, "while the other is in force", () -> {
            LandBonds x = desk(1, 0, 0);
            act(x, 0, "", 0, END);
            act(x, 0, "strike 0;", 10, 20);
            int[] days = {9, 10, 19, 20}, want = {1, 0, 0, 1};
            for (int i = 0; i < 4; i++) due("on " + days[i], bit(x.force(0, days[i], 0)), want[i]);
        });
        edge(struck, "by one that never is", () -> {
            LandBonds x = desk(1, 0, 0);
            act(x, 0, "", 0, END);
            act(x, 0, "strike 0;", 10, 10);
            due("in force", bit(x.force(0, 10, 0)), 1);
        });
        edge(struck, "by one that isn't known", () -> {
            LandBonds x = desk(1, 0, 0);
            act(x, 0, "", 0, END);
            x.evenings(1);
            act(x, 0, "strike 0;", 0, END);
            x.evenings(1);
            x.back(true, 1);
            for (int k = 0; k < 3; k++) due("as known on " + k, bit(x.force(0, 5, k)), k == 1 ? 0 : 1);
        });
        edge(struck, "one of two", () -> {
            LandBonds x = desk(1, 0, 0);
            act(x, 0, "", 0, END);
            act(x, 0, "", 0, END);
            act(x, 0, "strike 1;", 0, END);
            due("0", bit(x.force(0, 5, 0)), 1);
            due("1", bit(x.force(1, 5, 0)), 0);
            due("2", bit(x.force(2, 5, 0)), 1);
        });
        edge(struck, "by the last clause of twelve", () -> {
            LandBonds x = desk(1, 0, 0);
            act(x, 0, "", 0, END);
            act(x, 0, "", 0, END);
            act(x, 0, "strike 1;".repeat(11) + "strike 0;", 0, END);
            due("0", bit(x.force(0, 5, 0)), 0);
            due("1", bit(x.force(1, 5, 0)), 0);
        });
        edge(struck, "act 10 by act 11", () -> {
            LandBonds x = desk(1, 0, 0);
            for (int i = 0; i < 11; i++) act(x, 0, "", 0, END);
            act(x, 0, "strike 10;", 0, END);
            for (int i = 0; i < 12; i++) due("act " + i, bit(x.force(i, 5, 0)), i == 10 ? 0 : 1);
        });
        edge(struck, "its clauses are not asked", () -> {
            LandBonds x = desk(1, 0, 1);
            act(x, 0, "gain oath 1;", 0, END);
            act(x, 0, "strike 0;", 10, 20);
            x.fact(OATH, 0, 0, 0, 15);
            due("by then", x.belongs(0, 0, END, 0), 0);
            x.fact(OATH, 0, 0, 0, 20);
            due("behind", x.belongs(0, 0, END, 0), 1);
        });
        edge(struck, "what was gained ahead stays", () -> {
            LandBonds x = desk(1, 0, 1);
            act(x, 0, "gain act 1;", 0, END);
            act(x, 0, "strike 0;", 10, 20);
            due("while struck", x.belongs(0, 0, 15, 0), 1);
            due("gained once", x.times(0, 0, END, 0, 0), 1);
        });
    }

    private static void struckInTurn() {
        String struck = "that isn't STRUCK by another one that is IN FORCE and has a greater number.";
        edge(struck, "by one that is struck itself", () -> {
            LandBonds x = desk(1, 0, 0);
            act(x, 0, "", 0, END);
            act(x, 0, "strike 0;", 0, END);
            act(x, 0, "strike 1;", 10, 20);
            act(x, 0, "strike 2;", 15, 20);
            int[][] want = {{9, 0, 1, 0}, {10, 1, 0, 1}, {14, 1, 0, 1}, {15, 0, 1, 0}, {19, 0, 1, 0}, {20, 0, 1, 0}};
            for (int[] w : want) {
                for (int i = 0; i < 3; i++) due("act " + i + " on " + w[0], bit(x.force(i, w[0], 0)), w[i + 1]);
            }
        });
        edge(struck, "by two, of which one is struck", () -> {
            LandBonds x = desk(1, 0, 0);
            act(x, 0, "", 0, END);
            act(x, 0, "strike 0;", 0, END);
            act(x, 0, "strike 0;", 0, END);
            act(x, 0, "strike 1;", 0, END);
            due("0", bit(x.force(0, 5, 0)), 0);
            due("1", bit(x.force(1, 5, 0)), 0);
            due("2", bit(x.force(2, 5, 0)), 1);
        });
        edge(struck, "eleven in a row", () -> {
            LandBonds x = desk(1, 0, 0);
            act(x, 0, "", 0, END);
            for (int i = 1; i < 12; i++) act(x, 0, "strike " + (i - 1) + ";", 0, END);
            for (int i = 0; i < 12; i++) due("act " + i, bit(x.force(i, 5, 0)), i % 2);
        });
    }
}
