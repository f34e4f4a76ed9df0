/** Promises 1 to 10, 43 and 52: the tape, faults, villages and ways as texts, and what is counted. */
public final class TextsTest {
    private static final int NONE = Check.NONE;
    private static final int HIDDEN = Check.HIDDEN;

    public static void main(String[] args) {
        aNewObject();
        feed();
        end();
        villageFaults();
        villageFaultsOfClauses();
        wayFaults();
        wayFaultsOfConditions();
        wayFaultsOfDepth();
        faultChangesNothing();
        text();
        textRefused();
        villages();
        defaultsAndOrder();
        ways();
        counts();
        Check.finish();
    }

    private static void aNewObject() {
        ThirdComer x = new ThirdComer();
        Check.due("1: no villages", 0, x.count(0));
        Check.due("1: no ways", 0, x.count(1));
        Check.due("1: empty tape", 0, x.count(2));
        Check.due("1: between", 1, x.count(3));
        Check.due("1: no row", NONE, x.count(4));
        Check.due("1: no morning", NONE, x.count(5));
        Check.due("1: none told", NONE, x.count(6));
        Check.yes("1: village 0 throws", Check.noVillage(x, 0, 0));
        Check.due("1: sort 0 has way 0", 0, x.wayOf(0));
    }

    private static void feed() {
        ThirdComer x = new ThirdComer();
        Check.due("2: bytes of 0 are left out", 5, x.feed(0x74003B00, 0, 0x00730000, 0x0000006D, 0x00000031));
        Check.due("2: in their order", NONE, x.fault(0));
        Check.due("2: t;sm1", 0, x.text(0));
        Check.due("2: highest byte first", 2, x.feed(0x00740000, 0x0000006E, 0, 0, 0));
        Check.due("2: tn", 2, x.fault(0));
        x.end(0);
        Check.due("2: bytes above 127", 20, x.feed(-1, -1, -1, -1, -1));
        Check.due("2: nothing", 20, x.feed(0, 0, 0, 0, 0));
        for (int i = 2; i <= 7; i++) {
            Check.due("2: twenty more", 20 * i, x.feed(-1, -1, -1, -1, -1));
        }
        Check.due("2: 159", 159, x.feed(-1, -1, -1, -1, 0x00FFFFFF));
        Check.due("2: more than 160", NONE, x.feed(0x00FF00FF, 0, 0, 0, 0));
        Check.due("2: refused changes nothing", 159, x.count(2));
        Check.due("2: each number counts", NONE, x.feed(0, 0x00FF00FF, 0, 0, 0));
        Check.due("2: each number counts", NONE, x.feed(0, 0, 0x00FF00FF, 0, 0));
        Check.due("2: each number counts", NONE, x.feed(0, 0, 0, 0x00FF00FF, 0));
        Check.due("2: each number counts", NONE, x.feed(0, 0, 0, 0, 0x00FF00FF));
        Check.due("2: refused changes nothing", 159, x.count(2));
        Check.due("2: 160", 160, x.feed(0, 0, 0, 0, 1));
        Check.due("2: nothing more to 160", 160, x.feed(0, 0, 0, 0, 0));
        Check.due("2: 161", NONE, x.feed(0, 1, 0, 0, 0));
        Check.due("2: still 160", 160, x.count(2));
    }

    private static void end() {
        ThirdComer x = new ThirdComer();
        Check.no("3: 1 of none", x.end(1));
        Check.yes("3: 0 of none", x.end(0));
        Check.feed(x, "t;sxx");
        Check.no("3: below 0", x.end(-1));
        Check.no("3: more than there are", x.end(6));
        Check.due("3: refused changes nothing", 5, x.count(2));
        Check.yes("3: all", x.end(5));
        Check.due("3: all stay", 5, x.count(2));
        Check.yes("3: the first 3", x.end(3));
        Check.due("3: 3 stay", 3, x.count(2));
        Check.due("3: t;s is a village", NONE, x.fault(0));
        Check.feed(x, "m2");
        Check.due("3: new ones come behind", 0, x.text(0));
        Check.due("3: t;sm2", 2, x.village(0, 2));
    }

    private static void village(int fault, String text) {
        Check.due("4: village {" + text + "}", fault, Check.faultOf(new ThirdComer(), 0, text));
    }

    private static void villageFaults() {
        village(0, "");
        village(3, "   ");
        village(NONE, "t;s");
        village(NONE, "s;t");
        village(NONE, "  t n 3 p 1 w 100 f 0 ; s m 1 d 1 c 0 k 1  ");
        village(NONE, "tn1p1w0f0;sm1d0c0k0");
        village(NONE, "tn9p3w999f99;sm9d9c99k1");
        village(NONE, "tn009;sm001");
        village(NONE, "tf1w2p3n4;sk1c2d3m4");
        village(1, "t");
        village(1, "s");
        village(2, "t ");
        village(4, "t;t;");
        village(7, "t;t;t;t");
        village(11, "s;s;s;s;s;s");
        village(4, "t;s;");
        village(5, "t;s; ");
        village(0, "x");
        village(0, ";t;s");
        village(0, "T;s");
        village(2, "t;;s");
        village(2, "t;x");
        village(1, "tm1;s");
        village(3, "t;sn1");
        village(2, "tn");
        village(3, "tn ");
        village(2, "tn;s");
        village(2, "tnp");
        village(1, "t3");
        village(1, "ts");
        village(3, "t;st");
        village(4, "tn1 2;s");
        village(2, "tn+1");
        village(1, "t" + (char) 228);
        village(1, "t\t;s");
    }

    private static void villageFaultsOfClauses() {
        village(2, "tn0;s");
        village(3, "tn00;s");
        village(4, "tn000;s");
        village(5, "tn0000;s");
        village(3, "tn10;s");
        village(4, "tn100;s");
        village(5, "tw1000;s");
        village(5, "tn1000;s");
        village(5, "tw0001;s");
        village(NONE, "tw001;s");
        village(2, "tp0;s");
        village(2, "tp4;s");
        village(4, "tf100;s");
        village(4, "t;sm0");
        village(5, "t;sm10");
        village(5, "t;sd10");
        village(6, "t;sc100");
        village(4, "t;sk2");
        village(3, "tn3n3;s");
        village(5, "tn3p1n3;s");
        village(5, "t;sm1m1");
        village(NONE, "tn3;tn3;sm1;sm1");
        village(8, "t;t;t;t;t;s");
        village(14, "t;s;s;s;s;s;s;s");
        village(NONE, "t;t;t;t;s;s;s;s;s;s");
        village(NONE, "t;t;t;t;s;s;s;s;s;s  ");
        village(19, "t;t;t;t;s;s;s;s;s;s;");
        village(19, "t;t;t;t;s;s;s;s;s;s;s");
        village(20, "t;t;t;t;s;s;s;s;s;s ;s");
        village(NONE, "t;sm9;sm9;sm2");
        village(13, "t;sm9;sm9;sm3");
        village(13, "t;sm9;sm9;sm3;s");
        village(15, "t;sm9;sm9;sm3  ;s");
        village(15, "t;sm9;sm9;sm3  ");
        village(15, "t;sm9;sm9;sm3d1");
        village(14, "t;sm9;sm9;sm3dx");
        village(11, "sm9;sm9;sm9");
        village(14, "t;sm9;sm9;sm9 x");
        village(15, "t;sm9;sm9;sm2;s");
        village(NONE, "t;sm9;sm9;s;s");
    }

    private static void way(int fault, String text) {
        Check.due("4: way {" + text + "}", fault, Check.faultOf(new ThirdComer(), 1, text));
    }

    private static void wayFaults() {
        way(0, "");
        way(2, "  ");
        way(NONE, "y:0");
        way(NONE, "y:t");
        way(NONE, " y : 1234 ; y : t + h - g * n / r ; y : [ o ] * v / c ");
        way(NONE, "y:1;y:2;y:3;y:4;y:5;y:6;y:7;y:8;y:9;y:0;y:1;y:2");
        way(1, "y");
        way(2, "y:");
        way(3, "y: ");
        way(0, "x:1");
        way(0, ";y:1");
        way(1, "y1");
        way(4, "y:1;");
        way(4, "y:1;;y:2");
        way(4, "y:1;1");
        way(3, "y:1y:2");
        way(6, "y:12345");
        way(NONE, "y:9999");
        way(NONE, "y:0000");
        way(4, "y:1 2");
        way(3, "y:th");
        way(3, "y:1t");
        way(2, "y:x");
        way(2, "y:y");
        way(2, "y:-1");
        way(3, "y:1]");
        way(3, "y:1)");
        way(4, "y:1+");
        way(4, "y:1+;y:1");
        way(4, "y:1+*2");
        way(4, "y:1--2");
        way(3, "y:[");
        way(3, "y:[]");
        way(4, "y:[1");
        way(4, "y:[1;");
        way(4, "y:[1)");
        way(4, "y:[1=2]");
        way(5, "y:[1][2]");
        way(3, "y:1" + (char) 200);
    }

    private static void wayFaultsOfConditions() {
        way(NONE, "y:1=1?1");
        way(NONE, "y:1<2?1");
        way(NONE, "y:2>1?1");
        way(NONE, "y:t=1&h=2|g=3?n");
        way(NONE, "y:!t=1?1");
        way(NONE, "y:(t=1)?1");
        way(NONE, "y:(t=1|h=1)&!(g=1&r=2)?1");
        way(NONE, "y:t=1&(h=1)?1");
        way(NONE, "y:[t]+1=[h]?[1]");
        way(NONE, "y : ! ( t = 1 ) & ! h > 2 ? 3 ");
        way(3, "y:1?2");
        way(5, "y:1=1");
        way(5, "y:1=1;y:2");
        way(5, "y:1=1=1?1");
        way(4, "y:1=?1");
        way(4, "y:1==1?1");
        way(4, "y:1<=1?1");
        way(6, "y:1=1?");
        way(6, "y:1=1?;");
        way(7, "y:1=1?1?1");
        way(7, "y:1=1?1=1?1");
        way(7, "y:1=1?1|1=1?1");
        way(6, "y:1=1?(1=1)?1");
        way(6, "y:1=1?!1=1?1");
        way(6, "y:1=1&?1");
        way(6, "y:1=1&&1=1?1");
        way(7, "y:1=1|1?1");
        way(5, "y:1=1)?1");
        way(3, "y:1&1=1?1");
        way(3, "y:(");
        way(3, "y:()?1");
        way(4, "y:(1)?1");
        way(6, "y:(1+1)");
        way(6, "y:(1=1?1");
        way(7, "y:(1=1)");
        way(7, "y:(1=1);y:1");
        way(7, "y:(1=1)=1?1");
        way(7, "y:(1=1)+1?1");
        way(4, "y:!1?1");
        way(4, "y:!1;y:1");
        way(6, "y:!1=1");
        way(3, "y:!");
        way(4, "y:1+(2)");
        way(4, "y:1=(2)?1");
        way(4, "y:1=!2?1");
    }

    private static void wayFaultsOfDepth() {
        way(NONE, "y:[[[[[[1]]]]]]");
        way(8, "y:[[[[[[[1]]]]]]]");
        way(NONE, "y:((((((1=1))))))?1");
        way(8, "y:(((((((1=1)))))))?1");
        way(NONE, "y:!!!!!!1=1?1");
        way(8, "y:!!!!!!!1=1?1");
        way(NONE, "y:!(!(!(1=1)))?1");
        way(8, "y:!(!(!([1]=1)))?1");
        way(8, "y:!(!(!(!1=1)))?1");
        way(NONE, "y:(!([[[1]]]=1))?1");
        way(8, "y:(!([[[[1]]]]=1))?1");
        way(NONE, "y:!1=1&!1=1&!1=1&!1=1&!1=1&!1=1&!1=1?1");
        way(NONE, "y:[1]+[1]+[1]+[1]+[1]+[1]+[1]+[[[[[[1]]]]]]");
        way(NONE, "y:!!!!!!1=1?[[[[[[1]]]]]];y:((((((1=1))))))?1");
        way(8, "y:!!!!!![1]=1?1");
        way(10, "y:!!!!!!1=[1]?1");
    }

    private static void faultChangesNothing() {
        ThirdComer x = new ThirdComer();
        Check.feed(x, "t;s");
        Check.due("4: no such sort", -2, x.fault(2));
        Check.due("4: no such sort", -2, x.fault(-1));
        Check.due("4: a way it is not", 0, x.fault(1));
        Check.due("4: a village it is", NONE, x.fault(0));
        Check.due("4: the tape stays", 3, x.count(2));
        Check.due("4: no village comes of it", 0, x.count(0));
    }

    private static void text() {
        ThirdComer x = new ThirdComer();
        for (int i = 0; i < 4; i++) {
            Check.feed(x, "tn" + (i + 1) + ";s");
            Check.due("5: village " + i, i, x.text(0));
            Check.due("5: the tape is empty then", 0, x.count(2));
            Check.due("5: so many villages", i + 1, x.count(0));
        }
        Check.feed(x, "t;s");
        Check.due("5: a fifth village", NONE, x.text(0));
        Check.due("5: the tape stays", 3, x.count(2));
        Check.due("5: it has no fault for all that", NONE, x.fault(0));
        x.end(0);
        for (int i = 0; i < 6; i++) {
            Check.feed(x, "y:" + i);
            Check.due("5: way " + i, i, x.text(1));
            Check.due("5: the tape is empty then", 0, x.count(2));
        }
        Check.feed(x, "y:0");
        Check.due("5: a seventh way", NONE, x.text(1));
        Check.due("5: the tape stays", 3, x.count(2));
        Check.due("5: six ways", 6, x.count(1));
        for (int i = 0; i < 4; i++) {
            Check.due("5: the villages are as they were", i + 1, x.thing(i, 0, 0));
        }
    }

    private static void textRefused() {
        ThirdComer x = new ThirdComer();
        Check.due("5: an empty village", NONE, x.text(0));
        Check.due("5: an empty way", NONE, x.text(1));
        Check.feed(x, "y:1");
        Check.due("5: a fault", NONE, x.text(0));
        Check.due("5: no such sort", NONE, x.text(2));
        Check.due("5: no such sort", NONE, x.text(-1));
        Check.due("5: refused changes nothing", 3, x.count(2));
        Check.due("5: no village", 0, x.count(0));
        Check.due("5: no way", 0, x.count(1));
        Check.due("5: a way", 0, x.text(1));
        Check.feed(x, "tn2;sm4;q");
        Check.due("5: a fault late in it", NONE, x.text(0));
        x.end(0);
        Check.feed(x, "tp2;s");
        Check.due("5: what was refused leaves nothing", 0, x.text(0));
        Check.due("5: NTH", 3, x.thing(0, 0, 0));
        Check.due("5: PEOPLE", 1, x.village(0, 2));
        Check.due("5: SORTS", 1, x.village(0, 1));
        Check.due("5: THINGS", 1, x.village(0, 0));
        Check.feed(x, "y:0;y:10;x");
        Check.due("5: a fault late in a way", NONE, x.text(1));
        x.end(0);
        Check.feed(x, "y:t=2?10");
        Check.due("5: a way without it", 1, x.text(1));
        x.way(0, 1);
        x.start(0, 0, 0, 0L);
        x.minutes(5);
        Check.due("5: what was refused leaves nothing", 2, x.who(0, 1));
    }

    private static void villages() {
        ThirdComer x = Check.with("tn2p3w45f6;t;sm2d3c4k0;sm3", "t;s");
        Check.due("6: THINGS", 2, x.village(0, 0));
        Check.due("6: SORTS", 2, x.village(0, 1));
        Check.due("6: PEOPLE", 5, x.village(0, 2));
        Check.due("6: THINGS of 1", 1, x.village(1, 0));
        Check.yes("6: no such village", Check.noVillage(x, 2, 0));
        Check.yes("6: village below 0", Check.noVillage(x, -1, 0));
        Check.yes("6: no such what", Check.noVillage(x, 0, 3));
        Check.yes("6: what below 0", Check.noVillage(x, 0, -1));
        int[] thing = {2, 3, 45, 6};
        int[] sort = {2, 3, 4, 0};
        for (int what = 0; what < 4; what++) {
            Check.due("7: thing 0, " + what, thing[what], x.thing(0, 0, what));
            Check.due("8: sort 0, " + what, sort[what], x.sort(0, 0, what));
        }
        for (int bad : new int[] {-1, 2, 1000000, Integer.MIN_VALUE, Integer.MAX_VALUE}) {
            Check.due("7: no such village", NONE, x.thing(bad, 0, 0));
            Check.due("7: no such thing", NONE, x.thing(0, bad, 0));
            Check.due("8: no such village", NONE, x.sort(bad, 0, 0));
            Check.due("8: no such sort", NONE, x.sort(0, bad, 0));
            Check.due("9: no such village", NONE, x.of(bad, 0));
        }
        for (int bad : new int[] {-1, 4, Integer.MIN_VALUE, Integer.MAX_VALUE}) {
            Check.due("7: no such what", NONE, x.thing(0, 0, bad));
            Check.due("8: no such what", NONE, x.sort(0, 0, bad));
        }
        int[] sorts = {NONE, 0, 0, 1, 1, 1, NONE};
        for (int person = -1; person < 6; person++) {
            Check.due("9: of " + person, sorts[person + 1], x.of(0, person));
        }
        Check.due("9: of village 1", 0, x.of(1, 0));
        Check.due("9: none more in village 1", NONE, x.of(1, 1));
    }

    private static void defaultsAndOrder() {
        ThirdComer x = Check.with("s;t;sk0;tn1;sm3");
        int[] plainThing = {3, 1, 100, 0};
        int[] plainSort = {1, 1, 0, 1};
        for (int what = 0; what < 4; what++) {
            Check.due("7: without, " + what, plainThing[what], x.thing(0, 0, what));
            Check.due("8: without, " + what, plainSort[what], x.sort(0, 0, what));
        }
        Check.due("7: things in their order", 1, x.thing(0, 1, 0));
        Check.due("7: the others as without", 100, x.thing(0, 1, 2));
        Check.due("8: sorts in their order", 0, x.sort(0, 1, 3));
        Check.due("8: sorts in their order", 3, x.sort(0, 2, 0));
        Check.due("9: people by sorts", 1, x.of(0, 1));
        Check.due("9: people by sorts", 2, x.of(0, 4));
    }

    private static void ways() {
        ThirdComer x = new ThirdComer();
        for (int sort = 0; sort < 6; sort++) {
            Check.due("43: at first", 0, x.wayOf(sort));
            Check.yes("10: a way, though there is none yet", x.way(sort, 5 - sort));
        }
        for (int sort = 0; sort < 6; sort++) {
            Check.due("43: way of " + sort, 5 - sort, x.wayOf(sort));
        }
        Check.no("10: no such sort", x.way(6, 0));
        Check.no("10: sort below 0", x.way(-1, 0));
        Check.no("10: no such way", x.way(0, 6));
        Check.no("10: way below 0", x.way(0, -1));
        Check.due("10: refused changes nothing", 5, x.wayOf(0));
        Check.due("43: no such one", NONE, x.wayOf(6));
        Check.due("43: below 0", NONE, x.wayOf(-1));
    }

    private static void counts() {
        ThirdComer x = Check.with("t;sm2", "t;sm3", "y:1", "y:2", "y:3");
        Check.feed(x, "abcd");
        x.between(7);
        x.row(2, 1, 1, 1, 1, 4);
        x.start(0, 0, 0, 1L);
        x.tell(1, 0);
        int[] due = {2, 3, 4, 7, 4, 2, 3};
        for (int what = 0; what < 7; what++) {
            Check.due("52: count " + what, due[what], x.count(what));
        }
        Check.due("52: no such what", HIDDEN, x.count(7));
        Check.due("52: below 0", HIDDEN, x.count(-1));
    }
}
