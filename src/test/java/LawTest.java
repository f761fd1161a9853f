/** Promises 10, 11 and 13: texts that become laws, where others fail, and what laws tell. */
public final class LawTest {
    private static final Check C = new Check();

    private static void right(String text) {
        StayPlay x = new StayPlay();
        C.due("law of " + text, C.law(x, text), 0);
        C.due("fault of " + text, x.fault(), -1);
        C.due("the tape behind " + text, x.count(4), 0);
        C.due("status()", x.status(), 0);
    }

    private static void wrong(String text, int place) {
        StayPlay x = new StayPlay();
        C.due("law of " + text, C.law(x, text), -6);
        C.due("fault of " + text, x.fault(), place);
        C.due("the tape behind " + text, x.count(4), 0);
        C.due("status()", x.status(), -6);
        C.due("count(1)", x.count(1), 0);
        C.due("count(9)", x.count(9), 1);
    }

    private static void texts() {
        C.about("promises 10, 11");
        right("stays 1");
        right("  stays   1  ");
        right("stays1");
        right("price 1000");
        right("price 0000000000000000000001000");
        right("stays 1+2-3*4/5;price[own]if(own<1)");
        right("stays sort+scene+before+heads+own+minute+played if 1=1 or 2>3 and not not (not 3<4)");
        right("price 5 if [1+2]*3>[[4]]");
        right("stays 5if own=2or own=3and own=4");
        wrong("", 0);
        wrong("    ", 4);
        wrong("stay 1", 0);
        wrong("staysx 1", 0);
        wrong("Stays 1", 0);
        wrong("\tstays 1", 0);
        wrong(" stays 1001", 7);
        wrong("stays 99999999999999999999999999", 6);
        wrong("stays", 5);
        wrong("stays  ", 7);
        wrong("stays 1 2", 8);
        wrong("stays -1", 6);
        wrong("stays (1)", 6);
        wrong("stays [1", 8);
        wrong("stays [1)", 8);
        wrong("stays []", 7);
        wrong("stays 1 if", 10);
        wrong("stays 1 if 1", 12);
        wrong("stays 1 if 1=", 13);
        wrong("stays 1 if 1==2", 13);
        wrong("stays 1 if 1<2<3", 14);
        wrong("stays 1 if (1)<2", 13);
        wrong("stays 1 if [1<2]", 13);
        wrong("stays 1 if (1<2", 15);
        wrong("stays 1 if not", 14);
        wrong("stays 1 if 1<2 or", 17);
        wrong("stays 1 if 1<2 not 1<2", 15);
        wrong("stays 1 if 1<2 if 1<2", 15);
        wrong("stays 1;", 8);
        wrong("stays 1;;price 1", 8);
        wrong(";stays 1", 0);
        wrong("stays 1 price 1", 8);
        wrong("stays 1 + head", 10);
        wrong("stays if", 6);
        wrong("stays stays", 6);
        wrong("stays 1\u00e9", 7);
        wrong("stays 1.5", 7);
        wrong("stays ownown", 6);
    }

    private static void limits() {
        C.about("promise 10, limits");
        String twelve = "price 1" + ";price 1".repeat(11);
        right(twelve);
        wrong(twelve + ";", twelve.length() + 1);
        wrong(twelve + "; price 1", twelve.length() + 2);
        wrong(twelve + "; 5", twelve.length() + 2);
        wrong(twelve + " 5", twelve.length() + 1);
        String fifty = "stays 1" + "+1".repeat(49);
        right(fifty);
        wrong(fifty + "+1", fifty.length() + 1);
        wrong(fifty + "+own", fifty.length() + 1);
        right(fifty + " ");
        wrong(fifty + ";price 1", fifty.length() + 7);
        wrong(fifty + ";price [1]", fifty.length() + 8);
        wrong(fifty + "+[", fifty.length() + 2);
        right("stays " + "[".repeat(8) + "1" + "]".repeat(8));
        wrong("stays " + "[".repeat(9) + "1" + "]".repeat(9), 14);
        right("stays 1 if " + "(".repeat(8) + "1=1" + ")".repeat(8));
        wrong("stays 1 if " + "(".repeat(9) + "1=1" + ")".repeat(9), 19);
        right("stays 1 if " + "(".repeat(5) + "[[[1]]]=[[[1]]]" + ")".repeat(5) + " or " + "(".repeat(8) + "1=1" + ")".repeat(8));
        wrong("stays 1 if " + "(".repeat(5) + "[[[1]]]=[[[[1]]]]" + ")".repeat(5), 27);
        right("stays 1 if " + "not ".repeat(90) + "1=1");
        wrong("+".repeat(400), 0);
        right("stays 1" + " ".repeat(393));
        wrong("stays 1 if " + "not ".repeat(97) + "1", 400);
    }

    private static void room() {
        C.about("promise 10, room");
        StayPlay x = new StayPlay();
        for (int i = 0; i < 6; i++) {
            C.due("law that fails takes no room", C.law(x, "stays 1 if own"), -6);
            C.due("law", C.law(x, "stays " + i), i);
        }
        C.tape(x, "stays");
        C.due("law without room", x.law(), -5);
        C.due("the tape", x.count(4), 0);
        C.due("fault of the latest that was read", x.fault(), -1);
        C.due("status()", x.status(), -5);
        C.due("law without room and text", x.law(), -5);
    }

    /** Each text is read as if it were the first. */
    private static void oneBehindTheOther() {
        C.about("promise 10, one behind the other");
        StayPlay x = new StayPlay();
        x.scene(1, 0, 0);
        for (int i = 0; i < 40; i++) {
            C.law(x, "price 1;stays 5" + "+own".repeat(45) + " if ((1<2");
            C.due("fault", x.fault(), 204);
        }
        C.force(x, "stays 2;price 3+own if own<" + "1+".repeat(40) + "1");
        C.due("chance", x.asks(0, 0, 0, -1, 1, 0, 0, 0), 2);
        C.due("price", x.asks(1, 0, 0, -1, 1, 0, 0, 0), 4);
    }

    /** What a law tells when it is asked of sort 1, scene 2, before 0, 3 and 4 there, minute 25, played 3. */
    private static void tells(String text, int chance, int price) {
        StayPlay x = new StayPlay();
        x.scene(10, 0, 0);
        x.scene(10, 0, 0);
        x.scene(10, 0, 0);
        C.force(x, text);
        C.due("chance by " + text, x.asks(0, 1, 2, 0, 3, 4, 25, 3), chance);
        C.due("price by " + text, x.asks(1, 1, 2, 0, 3, 4, 25, 3), price);
    }

    private static void facts() {
        C.about("promise 13, facts");
        tells("stays sort;price sort", 1, 1);
        tells("stays scene", 2, 0);
        tells("stays before+5", 5, 0);
        tells("stays heads", 7, 0);
        tells("stays own", 4, 0);
        tells("stays minute", 25, 0);
        tells("price played", 100, 3);
        StayPlay x = new StayPlay();
        x.scene(10, 0, 0);
        C.force(x, "stays before+10;price own");
        C.due("nothing before", x.asks(0, 0, 0, -1, 0, 0, 0, 0), 9);
        C.due("itself before", x.asks(0, 0, 0, 0, 5, 5, 300, 4), 10);
        C.due("own of sort 0", x.asks(1, 0, 0, -1, 2, 3, 0, 0), 2);
        C.due("own of sort 1", x.asks(1, 1, 0, -1, 2, 3, 0, 0), 3);
    }

    private static void sums() {
        C.about("promise 13, sums");
        tells("stays 2+3*4", 14, 0);
        tells("stays [2+3]*4", 20, 0);
        tells("stays 20-3-4", 13, 0);
        tells("stays 100/10/5", 2, 0);
        tells("stays 100/[10/5]", 50, 0);
        tells("stays 7/2*2", 6, 0);
        tells("stays 50+[0-7]/2", 47, 0);
        tells("stays 50+7/[0-2]", 47, 0);
        tells("stays 101", 100, 0);
        tells("stays 0-1;price 0-1", 0, 0);
        tells("stays 1;price 100", 1, 99);
        tells("stays 1;price 1000*1000", 1, 99);
    }

    private static void broken() {
        C.about("promise 13, broken");
        tells("stays 7;stays 1/0", 7, 0);
        tells("stays 7;stays 1/[heads-7]", 7, 0);
        tells("stays 7;stays 1000*1000*1000", 100, 0);
        tells("stays 7;stays 1000*1000*1000+1", 7, 0);
        tells("stays 7;stays 0-1000*1000*1000", 0, 0);
        tells("stays 7;stays 0-1000*1000*1000-1", 7, 0);
        tells("stays 7;stays 1000*1000*1000*1000/1000/1000", 7, 0);
        tells("stays 7;stays 1000*1000*1000+1-1", 7, 0);
        tells("stays 7;stays 8 if 1/0=1", 7, 0);
        tells("stays 7;stays 8 if not 1/0=1", 7, 0);
        tells("stays 7;stays 8 if 1=1 or 1/0=1", 8, 0);
        tells("stays 7;stays 8 if 1/0=1 or 1=1", 7, 0);
        tells("stays 7;stays 8 if not (1=2 and 1/0=1)", 8, 0);
        tells("stays 7;stays 8 if not (1=1 and 1/0=1)", 7, 0);
        tells("stays 7;stays 8 if 1=2 or 1=1 or 1/0=1", 8, 0);
        tells("stays 7;stays 8 if 1=2 and 1/0=1 or 1=1", 8, 0);
        tells("stays 1/0", 100, 0);
    }

    private static void clauses() {
        C.about("promise 13, clauses");
        tells("stays 1;stays 2;stays 3 if own=5", 2, 0);
        tells("stays 1 if own=4;price 2;price 3 if own>4", 1, 2);
        tells("stays 1 if own<4;stays 2 if own>4", 100, 0);
        tells("stays 1 if own=4 or own=5 and own=6", 1, 0);
        tells("stays 1 if (own=4 or own=5) and own=6", 100, 0);
        tells("stays 1 if not own=4 or own=4", 1, 0);
        tells("stays 1 if not (own=4 or own=4)", 100, 0);
        tells("stays 1 if not not own=4", 1, 0);
        tells("stays 1 if own<5 and own>3 and own=4", 1, 0);
        tells("stays 1 if own<4 or own>4", 100, 0);
    }

    private static void wrongAsks() {
        C.about("promise 13, wrong inputs");
        StayPlay x = new StayPlay();
        C.due("without a scene", x.asks(0, 0, 0, -1, 0, 0, 0, 0), -1);
        x.scene(10, 0, 0);
        x.scene(10, 0, 0);
        C.due("without a law", x.asks(0, 0, 0, -1, 0, 0, 0, 0), 100);
        C.due("without a law", x.asks(1, 0, 0, -1, 0, 0, 0, 0), 0);
        int[] fine = {1, 1, 1, 1, 5, 5, 300, 4};
        int[][] bad = {{-1, 2}, {-1, 2}, {-1, 2}, {-2, 2}, {-1, 6}, {-1, 6}, {-1, 301}, {-1, 5}};
        C.due("all at their edges", x.asks(1, 1, 1, 1, 5, 5, 300, 4), 0);
        for (int i = 0; i < 8; i++) {
            for (int value : new int[] {bad[i][0], bad[i][1], Integer.MIN_VALUE, Integer.MAX_VALUE}) {
                int[] a = fine.clone();
                a[i] = value;
                C.due("asks with " + value + " at " + i, x.asks(a[0], a[1], a[2], a[3], a[4], a[5], a[6], a[7]), -1);
            }
        }
        C.due("NONE is not a refusal", x.count(5), 0);
    }

    public static void main(String[] args) {
        texts();
        limits();
        room();
        oneBehindTheOther();
        facts();
        sums();
        broken();
        clauses();
        wrongAsks();
        C.end("LawTest");
    }
}
