/**
 * Every bound that the document names of texts (Terms, promises 1 to 10, 43 and 52), one test for each: at the bound,
 * one below and one above it, the empty and the full.
 */
public final class TextBoundsTest {
    private static final int NONE = Check.NONE;
    private static final String DIGITS = "0123456789";
    private static final String ATOMS = DIGITS + "thgnrovc[ ";
    private static final String UNITS = ATOMS + "!(";

    public static void main(String[] args) {
        tapeOfTwentyBytes();
        tapeOf160();
        endOfTheTape();
        fourVillages();
        sixWays();
        numbersOfThings();
        numbersOfSorts();
        numbersWithoutItems();
        oneToThreeDigits();
        eachLetterOnce();
        tenClauses();
        oneToFourThings();
        oneToSixSorts();
        twentyPeople();
        peopleByTheirClause();
        blanksOfVillages();
        villagesThatEndTooEarly();
        bytesOfVillages();
        oneClauseAtLeast();
        clausesOfWays();
        oneToFourDigits();
        sixWithinOneAnother();
        sevenSideBySide();
        blanksOfWays();
        waysThatEndTooEarly();
        bytesOfWays();
        bytesOfConditions();
        sortsAndWaysOfTheFace();
        Check.finish();
    }

    private static void village(String why, int fault, String text) {
        Check.due("4: village {" + text + "}: " + why, fault, Check.faultOf(new ThirdComer(), 0, text));
    }

    private static void way(String why, int fault, String text) {
        Check.due("4: way {" + text + "}: " + why, fault, Check.faultOf(new ThirdComer(), 1, text));
    }

    // ---- the tape

    /** Each of the twenty bytes of a feed alone, with the lowest and the highest byte, and all but one. */
    private static void tapeOfTwentyBytes() {
        for (int place = 0; place < 20; place++) {
            for (int one : new int[] {1, 127, 128, 255}) {
                int[] words = new int[5];
                words[place / 4] = one << 24 - place % 4 * 8;
                ThirdComer x = new ThirdComer();
                Check.due("2: one byte", 1, x.feed(words[0], words[1], words[2], words[3], words[4]));
                Check.due("52: one byte", 1, x.count(2));
            }
            int[] words = {-1, -1, -1, -1, -1};
            words[place / 4] &= ~(255 << 24 - place % 4 * 8);
            Check.due("2: all but one", 19, new ThirdComer().feed(words[0], words[1], words[2], words[3], words[4]));
        }
        Check.due("2: no byte", 0, new ThirdComer().feed(0, 0, 0, 0, 0));
        Check.due("2: all bytes", 20, new ThirdComer().feed(-1, 0x80808080, 0x01010101, 0x7F7F7F7F, 0x80FFFFFF));
    }

    private static ThirdComer withBytes(int many) {
        ThirdComer x = new ThirdComer();
        Check.feed(x, " ".repeat(many));
        Check.due("2: so many bytes", many, x.count(2));
        return x;
    }

    private static int feedBytes(ThirdComer x, int many) {
        String text = " ".repeat(many);
        return x.feed(Check.word(text, 0), Check.word(text, 4), Check.word(text, 8), Check.word(text, 12),
            Check.word(text, 16));
    }

    private static void tapeOf160() {
        for (int more = 0; more <= 20; more++) {
            Check.due("2: " + more + " more to 159", 159, feedBytes(withBytes(159 - more), more));
            Check.due("2: " + more + " more to 160", 160, feedBytes(withBytes(160 - more), more));
        }
        for (int more = 1; more <= 20; more++) {
            ThirdComer x = withBytes(161 - more);
            Check.due("2: " + more + " more to 161", NONE, feedBytes(x, more));
            Check.due("2: 161 are refused whole", 161 - more, x.count(2));
            Check.due("2: one less has room", 160, feedBytes(x, more - 1));
        }
        ThirdComer x = withBytes(0);
        Check.feed(x, "t;s" + " ".repeat(156) + "x");
        Check.due("2: the 160th byte is the last", 159, x.fault(0));
        x.end(159);
        Check.due("2: 159 bytes", NONE, x.fault(0));
    }

    private static void endOfTheTape() {
        for (int length : new int[] {0, 1, 20, 159, 160}) {
            Check.no("3: below none of " + length, withBytes(length).end(-1));
            Check.no("3: one more than " + length, withBytes(length).end(length + 1));
            ThirdComer x = withBytes(length);
            Check.yes("3: all of " + length, x.end(length));
            Check.due("3: all of " + length, length, x.count(2));
            Check.yes("3: all but one of " + length, x.end(Math.max(0, length - 1)));
            Check.due("3: all but one of " + length, Math.max(0, length - 1), x.count(2));
            Check.yes("3: none of " + length, x.end(0));
            Check.due("3: none of " + length, 0, x.count(2));
            Check.no("3: no more come back", x.end(1));
        }
        ThirdComer x = new ThirdComer();
        Check.feed(x, "t;sx");
        Check.due("3: with the fourth byte", 3, x.fault(0));
        x.end(3);
        Check.due("3: without it", NONE, x.fault(0));
    }

    // ---- how many texts

    private static void fourVillages() {
        ThirdComer x = new ThirdComer();
        Check.due("52: no village", 0, x.count(0));
        for (int i = 0; i < 4; i++) {
            Check.yes("6: village " + i + " is not there yet", Check.noVillage(x, i, 0));
            Check.feed(x, "t;sm" + (i + 1));
            Check.due("5: village " + i, i, x.text(0));
            Check.due("52: so many", i + 1, x.count(0));
            Check.due("6: its people", i + 1, x.village(i, 2));
        }
        Check.feed(x, "t;sm9");
        Check.due("5: a fifth village", NONE, x.text(0));
        Check.due("52: four villages", 4, x.count(0));
        Check.due("52: the tape stays", 5, x.count(2));
        Check.yes("6: no fifth village", Check.noVillage(x, 4, 0));
        for (int i = 0; i < 4; i++) {
            Check.due("6: the others stay", i + 1, x.village(i, 2));
        }
        x.end(0);
        Check.feed(x, "y:1");
        Check.due("5: a way still has room", 0, x.text(1));
    }

    private static void sixWays() {
        ThirdComer x = Check.with("tn9;s;s;s;s;s;s");
        Check.due("52: no way", 0, x.count(1));
        for (int i = 0; i < 6; i++) {
            Check.feed(x, "y:t=" + i + "?10");
            Check.due("5: way " + i, i, x.text(1));
            Check.due("52: so many", i + 1, x.count(1));
            x.way(i, i);
        }
        Check.feed(x, "y:t=9?10");
        Check.due("5: a seventh way", NONE, x.text(1));
        Check.due("52: six ways", 6, x.count(1));
        Check.due("52: the tape stays", 8, x.count(2));
        x.start(0, 0, 0, 0L);
        x.minutes(61);
        for (int i = 0; i < 6; i++) {
            Check.due("10: each sort goes by its own", i, x.who(i, 1));
        }
        x.end(0);
        Check.feed(x, "t;s");
        Check.due("5: a village still has room", 1, x.text(0));
    }

    // ---- numbers of villages

    private static void numbersOfThings() {
        number("t", "n", 0, 1, 9);
        number("t", "p", 1, 1, 3);
        number("t", "w", 2, 0, 999);
        number("t", "f", 3, 0, 99);
    }

    private static void numbersOfSorts() {
        number("s", "m", 0, 1, 9);
        number("s", "d", 1, 0, 9);
        number("s", "c", 2, 0, 99);
        number("s", "k", 3, 0, 1);
    }

    /** A letter with every number from its least to its most, and one beside each. */
    private static void number(String kind, String letter, int what, int least, int most) {
        String ahead = kind.equals("t") ? "s;t" + letter : "t;s" + letter;
        for (int number = least; number <= most; number = number < most - 20 ? number + 20 : number + 1) {
            ThirdComer x = Check.with(ahead + number);
            int got = kind.equals("t") ? x.thing(0, 0, what) : x.sort(0, 0, what);
            Check.due((kind.equals("t") ? "7: " : "8: ") + letter + number, number, got);
        }
        ThirdComer x = Check.with(ahead + most);
        Check.due(letter + " at its most", most, kind.equals("t") ? x.thing(0, 0, what) : x.sort(0, 0, what));
        if (least > 0) {
            for (String nought : new String[] {"0", "00", "000"}) {
                String text = ahead + nought;
                village("one below the least, at its last digit", text.length() - 1, text);
                village("the same ahead of more", text.length() - 1, text + ";s");
            }
        }
        if (most < 999) {
            String text = ahead + (most + 1);
            village("one above the most, at its last digit", text.length() - 1, text);
            village("the same ahead of more", text.length() - 1, text + " ;s");
            village("999, at its last digit", ahead.length() + 2, ahead + "999");
        } else {
            village("one above the most has four digits", ahead.length() + 3, ahead + (most + 1));
        }
    }

    private static void numbersWithoutItems() {
        int[][] without = {{3, 1, 100, 0}, {1, 1, 0, 1}};
        String[][] texts = {{"n7", "p2", "w5", "f9"}, {"m4", "d0", "c8", "k0"}};
        int[][] with = {{7, 2, 5, 9}, {4, 0, 8, 0}};
        for (int kind = 0; kind < 2; kind++) {
            for (int there = 0; there < 16; there++) {
                StringBuilder items = new StringBuilder();
                for (int what = 0; what < 4; what++) {
                    items.append((there >> what & 1) == 1 ? texts[kind][what] : "");
                }
                ThirdComer x = Check.with(kind == 0 ? "t" + items + ";s" : "t;s" + items);
                for (int what = 0; what < 4; what++) {
                    int due = (there >> what & 1) == 1 ? with[kind][what] : without[kind][what];
                    Check.due((kind == 0 ? "7: {" : "8: {") + items + "}, " + what, due,
                        kind == 0 ? x.thing(0, 0, what) : x.sort(0, 0, what));
                }
            }
        }
    }

    private static void oneToThreeDigits() {
        for (String letter : new String[] {"n", "p", "w", "f", "m", "d", "c", "k"}) {
            String ahead = "npwf".contains(letter) ? "s;t" + letter : "t;s" + letter;
            int at = ahead.length();
            village("no digit at the end", at, ahead);
            village("no digit", at, ahead + ";s");
            village("no digit behind a blank", at + 1, ahead + " ");
            village("no digit, a letter", at, ahead + "n1");
            village("no digit, a sign", at, ahead + "-1");
            village("one digit", NONE, ahead + "1");
            village("two digits", NONE, ahead + "01");
            village("three digits", NONE, ahead + "001");
            village("a fourth digit", at + 3, ahead + "0001");
            village("a fourth digit, and more", at + 3, ahead + "00011");
            village("a fourth digit, the number being out of bounds", at + 3, ahead + "9999");
        }
    }

    private static void eachLetterOnce() {
        String[] things = {"n2", "p2", "w2", "f2"};
        String[] sorts = {"m2", "d2", "c2", "k0"};
        for (int first = 0; first < 4; first++) {
            for (int second = 0; second < 4; second++) {
                village("letters of a thing", first == second ? 5 : NONE, "s;t" + things[first] + things[second]);
                village("letters of a sort", first == second ? 5 : NONE, "t;s" + sorts[first] + sorts[second]);
            }
            village("twice, with others between", 11, "s;t" + things[first] + things[(first + 1) % 4]
                + things[(first + 2) % 4] + things[(first + 3) % 4] + things[first]);
            village("once in each clause", NONE, "t" + things[first] + ";t" + things[first] + ";s");
            village("once in each clause", NONE, "t;s" + sorts[first] + ";s" + sorts[first]);
            village("a letter of a sort in a thing", 1, "t" + sorts[first] + ";s");
            village("a letter of a thing in a sort", 3, "t;s" + things[first]);
        }
        village("all four of each", NONE, "tn1p1w1f1;sm1d1c1k1");
        village("all four of each the other way round", NONE, "tf1w1p1n1;sk1c1d1m1");
    }

    // ---- how many clauses, things, sorts, people

    private static void tenClauses() {
        village("no clause", 0, "");
        village("one clause", 1, "t");
        village("one clause", 1, "s");
        village("two clauses", NONE, "t;s");
        village("nine clauses", NONE, "t;t;t;s;s;s;s;s;s");
        village("nine clauses", NONE, "t;t;t;t;s;s;s;s;s");
        village("ten clauses", NONE, "t;t;t;t;s;s;s;s;s;s");
        village("ten clauses in another order", NONE, "s;t;s;t;s;t;s;t;s;s");
        village("the ; ahead of an eleventh", 19, "t;t;t;t;s;s;s;s;s;s;");
        village("the ; ahead of an eleventh, a thing", 19, "s;s;s;s;s;s;t;t;t;t;t");
        village("the ; ahead of an eleventh, a sort", 19, "t;t;t;t;s;s;s;s;s;s;s");
        village("the ; ahead of an eleventh, behind blanks", 21, "t;t;t;t;s;s;s;s;s;s  ;t");
        village("ten clauses and no ;", 19, "t;t;t;t;s;s;s;s;s;st");
    }

    private static void oneToFourThings() {
        village("no thing: the length", 1, "s");
        village("no thing: the length", 11, "s;s;s;s;s;s");
        village("no thing, blanks behind it: the length", 4, "s   ");
        village("one thing", NONE, "s;t");
        village("three things", NONE, "s;t;t;t");
        village("four things", NONE, "s;t;t;t;t");
        village("a fifth t", 10, "s;t;t;t;t;t");
        village("a fifth t behind blanks", 12, "s;t;t;t;t;  tn1");
        village("a fifth t ahead of the first sort", 8, "t;t;t;t;t;s");
        ThirdComer x = Check.with("tn1;tn2;tn3;tn4;s");
        Check.due("6: four things", 4, x.village(0, 0));
        for (int thing = -1; thing <= 4; thing++) {
            Check.due("7: thing " + thing, thing < 0 || thing > 3 ? NONE : thing + 1, x.thing(0, thing, 0));
            Check.due("11: a morning of " + thing, thing < 0 || thing > 3 ? 0 : 1, x.start(0, thing, 0, 1L) ? 1 : 0);
            Check.due("29: told of " + thing, thing < 0 || thing > 3 ? 0 : 1, x.tell(0, thing) ? 1 : 0);
        }
    }

    private static void oneToSixSorts() {
        village("no sort: the length", 1, "t");
        village("no sort: the length", 7, "t;t;t;t");
        village("no sort, blanks behind it: the length", 3, "t  ");
        village("one sort", NONE, "t;s");
        village("five sorts", NONE, "t;s;s;s;s;s");
        village("six sorts", NONE, "t;s;s;s;s;s;s");
        village("a seventh s", 14, "t;s;s;s;s;s;s;s");
        village("a seventh s behind blanks", 16, "t;s;s;s;s;s;s;  sm1");
        village("a seventh s ahead of the first thing", 12, "s;s;s;s;s;s;s;t");
        ThirdComer x = Check.with("t;sc0;sc1;sc2;sc3;sc4;sc5");
        Check.due("6: six sorts", 6, x.village(0, 1));
        x.start(0, 0, 0, 1L);
        for (int sort = -1; sort <= 6; sort++) {
            boolean there = sort >= 0 && sort <= 5;
            Check.due("8: sort " + sort, there ? sort : NONE, x.sort(0, sort, 2));
            // Nobody goes: each waits for 61 minutes.
            Check.due("40: gains of " + sort, there ? -61 * sort : Check.HIDDEN, x.gains(sort, 1));
        }
    }

    private static void twentyPeople() {
        people("t;s", 1);
        people("t;sm9;sm9;s", 19);
        people("t;sm9;sm9;sm2", 20);
        people("t;sm9;sm9;s;s", 20);
        people("t;sm5;sm5;sm5;sm2;sm2;s", 20);
        people("sm9;sm9;sm2;tn9", 20);
        village("21: the length", 13, "t;sm9;sm9;sm3");
        village("21: its ;", 13, "t;sm9;sm9;sm3;t");
        village("21 by one who comes last: the length", 15, "t;sm9;sm9;sm2;s");
        village("21 by one who comes last: its ;", 15, "t;sm9;sm9;sm2;s;t");
        village("27: the length", 13, "t;sm9;sm9;sm9");
        village("21 in the sixth sort: the length", 25, "t;sm5;sm5;sm5;sm2;sm2;sm2");
    }

    private static void people(String text, int many) {
        ThirdComer x = Check.with(text);
        Check.due("6: people of " + text, many, x.village(0, 2));
        Check.yes("9: the last of them", x.of(0, many - 1) >= 0);
        Check.due("9: none behind the last", NONE, x.of(0, many));
        Check.due("9: none ahead of the first", NONE, x.of(0, -1));
    }

    /** The byte behind the clause, not behind the number, and not behind the text. */
    private static void peopleByTheirClause() {
        village("21, items behind m", 19, "t;sm9;sm9;sm3d1c1k1");
        village("21, m behind items", 19, "t;sm9;sm9;sk1c1d1m3;");
        village("21, blanks behind it: its ;", 16, "t;sm9;sm9;sm3   ;s");
        village("21, blanks behind it: the length", 16, "t;sm9;sm9;sm3   ");
        village("21, but a fault within the clause", 13, "t;sm9;sm9;sm3m3");
        village("21, but a fault within the clause", 14, "t;sm9;sm9;sm3d");
        village("21 ahead of the first thing", 11, "sm9;sm9;sm3;t");
        village("20, and a thing behind it", NONE, "sm9;sm9;sm2;t");
        int[] sorts = {0, 0, 0, 0, 0, 0, 0, 0, 0, 1, 1, 1, 1, 1, 1, 1, 1, 1, 2, 2};
        ThirdComer x = Check.with("t;sm9;sm9;sm2");
        for (int person = 0; person < 20; person++) {
            Check.due("9: of " + person, sorts[person], x.of(0, person));
        }
    }

    private static void blanksOfVillages() {
        String text = "tn3p1w100f10;sm2d0c10k0";
        for (int at = 0; at <= text.length(); at++) {
            boolean within = at > 0 && at < text.length() && Character.isDigit(text.charAt(at - 1))
                && Character.isDigit(text.charAt(at));
            String blank = text.substring(0, at) + " " + text.substring(at);
            String blanks = text.substring(0, at) + "   " + text.substring(at);
            village("a blank", within ? at + 1 : NONE, blank);
            village("blanks", within ? at + 3 : NONE, blanks);
            for (int other : new int[] {9, 10, 13, 31, 33, 95, 128, 160, 255}) {
                village("no blank", at, text.substring(0, at) + (char) other + text.substring(at));
            }
        }
        village("blanks alone: the length", 1, " ");
        village("blanks alone: the length", 160, " ".repeat(160));
    }

    private static void villagesThatEndTooEarly() {
        String text = "tn3 ;sm2;";
        int[] due = {0, 1, 2, 3, 4, 5, NONE, 7, NONE, 9};
        for (int length = 0; length <= text.length(); length++) {
            village("the first " + length, due[length], text.substring(0, length));
        }
        village("a thing behind it, unfinished", 6, "t;s;tw");
        village("a thing behind it", NONE, "t;s;t");
    }

    /** With each of 255 bytes behind a text: those by which a village can go on, and the others, which are wrong. */
    private static void goesOn(int sort, String ahead, String signs) {
        for (int one = 1; one < 256; one++) {
            int fault = Check.faultOf(new ThirdComer(), sort, ahead + (char) one);
            if (signs.indexOf((char) one) < 0) {
                Check.due("4: {" + ahead + "} and byte " + one, ahead.length(), fault);
            } else {
                Check.yes("4: {" + ahead + "} goes on with byte " + one, fault == NONE || fault > ahead.length());
            }
        }
    }

    private static void bytesOfVillages() {
        goesOn(0, "", "ts ");
        goesOn(0, "t", "npwf; ");
        goesOn(0, "s", "mdck; ");
        goesOn(0, "tn", "123456789 ");
        goesOn(0, "tp", "123 ");
        goesOn(0, "tw", DIGITS + " ");
        goesOn(0, "tf", DIGITS + " ");
        goesOn(0, "sm", "123456789 ");
        goesOn(0, "sd", DIGITS + " ");
        goesOn(0, "sc", DIGITS + " ");
        goesOn(0, "sk", "01 ");
        goesOn(0, "tn3", "pwf; ");
        goesOn(0, "tw1", DIGITS + "npf; ");
        goesOn(0, "tw12", DIGITS + "npf; ");
        goesOn(0, "tw123", "npf; ");
        goesOn(0, "tw1 ", "npf; ");
        goesOn(0, "tf12", "npw; ");
        goesOn(0, "sc12", "mdk; ");
        goesOn(0, "tn3p1w5f0", DIGITS + "; ");
        goesOn(0, "tn3p1w5f0 ", "; ");
        goesOn(0, "sm1d1c1k1", "; ");
        goesOn(0, "t;", "ts ");
        goesOn(0, "t;t;t;t;", "s ");
        goesOn(0, "s;s;s;s;s;s;", "t ");
        goesOn(0, "t;t;t;t;s;s;s;s;s;s", "mdck ");
        goesOn(0, "t;sm9;sm9;sm2", "dck; ");
        goesOn(0, "t;sm9;sm9;sm3", "dck ");
    }

    // ---- ways

    private static void oneClauseAtLeast() {
        way("no clause", 0, "");
        way("no clause, blanks: the length", 3, "   ");
        way("no clause ahead of a ;", 0, ";");
        way("no clause behind a ;", 4, "y:1;");
        way("no clause between", 4, "y:1;;y:1");
        way("one clause", NONE, "y:1");
        way("two clauses", NONE, "y:1;y:1");
    }

    private static void clausesOfWays() {
        StringBuilder text = new StringBuilder("y:1");
        for (int clauses = 2; clauses <= 40; clauses++) {
            text.append(";y:").append(clauses % 10);
            if (clauses % 13 == 1) {
                way(clauses + " clauses", NONE, text.toString());
            }
        }
        Check.due("as many clauses as have room", 159, text.length());
        way("and a ; behind it", 160, text + ";");
        String late = "y:1=2?9;".repeat(19) + "y:t=5?10";
        Check.due("a way that fills the tape", 160, late.length());
        ThirdComer x = Check.with("tn9;s", late);
        x.start(0, 0, 0, 0L);
        x.minutes(61);
        Check.due("12: the last clause of many holds", 5, x.who(0, 1));
    }

    private static void oneToFourDigits() {
        for (String ahead : new String[] {"y:", "y:1+", "y:1=", "y:1=1?", "y:!", "y:(", "y:1;y:"}) {
            String unit = ahead.endsWith("!") ? "=1?1" : ahead.endsWith("(") ? "=1)?1" : "";
            String behind = ahead.endsWith("=") ? "?1" : unit;
            way("no digit", ahead.length(), ahead + behind);
            way("one digit", NONE, ahead + "9" + behind);
            way("three digits", NONE, ahead + "999" + behind);
            way("four digits", NONE, ahead + "9999" + behind);
            way("four digits", NONE, ahead + "0000" + behind);
            way("a fifth digit", ahead.length() + 4, ahead + "99999" + behind);
            way("a fifth digit", ahead.length() + 4, ahead + "00001" + behind);
            way("a blank within a number", ahead.length() + 3, ahead + "99 99" + behind);
        }
    }

    /** Each mixture of six of ( [ ! is good, and each one more is wrong at it. */
    private static void sixWithinOneAnother() {
        for (int nots = 0; nots <= 7; nots++) {
            for (int rounds = 0; nots + rounds <= 7; rounds++) {
                for (int squares = 0; nots + rounds + squares <= 7; squares++) {
                    String sum = "[".repeat(squares) + "1" + "]".repeat(squares);
                    String close = ")".repeat(rounds) + "?1";
                    String text = "y:" + "!".repeat(nots) + "(".repeat(rounds) + sum + "=1" + close;
                    String turned = "y:" + "(".repeat(rounds) + "!".repeat(nots) + "1=" + sum + close;
                    boolean good = nots + rounds + squares <= 6;
                    way("within one another", good ? NONE : 8, text);
                    way("within one another", good ? NONE : squares > 0 ? 10 : 8, turned);
                }
            }
        }
        way("six in the sum", NONE, "y:1=1?[[[[[[1]]]]]]");
        way("seven in the sum", 12, "y:1=1?[[[[[[[1]]]]]]]");
        way("six of a sum alone", NONE, "y:[[[[[[1]]]]]]");
        way("seven of a sum alone", 8, "y:[[[[[[[1]]]]]]]");
        way("seven, blanks between", 14, "y:[ [ [ [ [ [ [1]]]]]]]");
    }

    private static void sevenSideBySide() {
        way("[ side by side", NONE, "y:[1]+[1]+[1]+[1]+[1]+[1]+[1]+[1]");
        way("( side by side", NONE, "y:(1=1)&(1=1)|(1=1)&(1=1)&(1=1)|(1=1)&(1=1)?1");
        way("! side by side", NONE, "y:!1=1&!1=1|!1=1&!1=1&!1=1|!1=1&!1=1?1");
        way("closed ones count no more", NONE, "y:[[[[[1]+[1]]+[1]]+[[1]]]+[[[[[1]]]]]]");
        way("open ones do", 22, "y:[[[[[1]+[1]]+[1]+[[[[1]]]]]]]");
        way("a new clause begins anew", NONE, "y:!!!!!!1=1?1;y:!!!!!!1=1?1");
        way("a new unit begins anew", NONE, "y:!!!!!!1=1&!!!!!!1=1|((((((1=1))))))?1");
        way("a [ late in a sum is within all !", 10, "y:!!!!!!1+[1]=1?1");
    }

    private static void blanksOfWays() {
        String text = "y:!(t<12&[h+3]*4>1000)|g=n?r-o/v;y:c";
        for (int at = 0; at <= text.length(); at++) {
            boolean within = at > 0 && at < text.length() && Character.isDigit(text.charAt(at - 1))
                && Character.isDigit(text.charAt(at));
            way("a blank", within ? at + 1 : NONE, text.substring(0, at) + " " + text.substring(at));
            way("blanks", within ? at + 3 : NONE, text.substring(0, at) + "   " + text.substring(at));
            for (int other : new int[] {9, 10, 31, 34, 128, 160, 255}) {
                way("no blank", at, text.substring(0, at) + (char) other + text.substring(at));
            }
        }
    }

    private static void waysThatEndTooEarly() {
        String text = "y:!(t<12&[h+3]*4>1)|g=n?r;y:c";
        // It may end behind the first sum, and there alone, and at its end.
        for (int length = 0; length <= text.length(); length++) {
            boolean good = length == 25 || length == text.length();
            way("the first " + length, good ? NONE : length, text.substring(0, length));
        }
    }

    private static void bytesOfWays() {
        String signs = "+-*/";
        String behindSum = signs + "=<>; ";
        goesOn(1, "", "y ");
        goesOn(1, " ", "y ");
        goesOn(1, "y", ": ");
        goesOn(1, "y:", UNITS);
        goesOn(1, "y:1", DIGITS + behindSum);
        goesOn(1, "y:123", DIGITS + behindSum);
        goesOn(1, "y:1234", behindSum);
        goesOn(1, "y:1 ", behindSum);
        goesOn(1, "y:t", behindSum);
        goesOn(1, "y:1+", ATOMS);
        goesOn(1, "y:1-", ATOMS);
        goesOn(1, "y:1*", ATOMS);
        goesOn(1, "y:1/", ATOMS);
        goesOn(1, "y:1+1", DIGITS + behindSum);
        goesOn(1, "y:[", ATOMS);
        goesOn(1, "y:[1", DIGITS + signs + "] ");
        goesOn(1, "y:[t", signs + "] ");
        goesOn(1, "y:[1]", behindSum);
        goesOn(1, "y:1;", "y ");
        goesOn(1, "y:1;y", ": ");
        goesOn(1, "y:[[[[[", ATOMS);
        goesOn(1, "y:[[[[[[", DIGITS + "thgnrovc ");
    }

    private static void bytesOfConditions() {
        String signs = "+-*/";
        goesOn(1, "y:1=", ATOMS);
        goesOn(1, "y:1<", ATOMS);
        goesOn(1, "y:1>", ATOMS);
        goesOn(1, "y:1=1", DIGITS + signs + "&|? ");
        goesOn(1, "y:1=t", signs + "&|? ");
        goesOn(1, "y:1=1?", ATOMS);
        goesOn(1, "y:1=1?t", signs + "; ");
        goesOn(1, "y:1=1?1", DIGITS + signs + "; ");
        goesOn(1, "y:1=1&", UNITS);
        goesOn(1, "y:1=1|", UNITS);
        goesOn(1, "y:!", UNITS);
        goesOn(1, "y:(", UNITS);
        goesOn(1, "y:(t", signs + "=<> ");
        goesOn(1, "y:(t=t", signs + "&|) ");
        goesOn(1, "y:(t=t)", "&|? ");
        goesOn(1, "y:!t", signs + "=<> ");
        goesOn(1, "y:!t=t", signs + "&|? ");
        goesOn(1, "y:!(t=t)", "&|? ");
        goesOn(1, "y:(!t=t", signs + "&|) ");
        goesOn(1, "y:((t=t)", "&|) ");
        goesOn(1, "y:(t=t)&t", signs + "=<> ");
        goesOn(1, "y:(((((", UNITS);
        goesOn(1, "y:((((((", DIGITS + "thgnrovc ");
        goesOn(1, "y:!!!!!!", DIGITS + "thgnrovc ");
        goesOn(1, "y:!!!!!!t=", DIGITS + "thgnrovc ");
        goesOn(1, "y:((((((t=t)&", UNITS);
    }

    private static void sortsAndWaysOfTheFace() {
        for (int number = -1; number <= 6; number++) {
            boolean there = number >= 0 && number <= 5;
            ThirdComer x = new ThirdComer();
            Check.due("10: sort " + number, there ? 1 : 0, x.way(number, 3) ? 1 : 0);
            Check.due("43: sort " + number, there ? 3 : NONE, x.wayOf(number));
            Check.due("10: way " + number, there ? 1 : 0, x.way(2, number) ? 1 : 0);
            for (int sort = 0; sort < 6; sort++) {
                int due = sort == 2 && there ? number : sort == number ? 3 : 0;
                Check.due("43: the others stay", due, x.wayOf(sort));
            }
        }
    }
}
