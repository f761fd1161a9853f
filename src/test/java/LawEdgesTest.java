/**
 * The edges that Terms I and II and promises 6 to 13 name, a test for each sentence, which stands in about():
 * the tape, rows of scenes, the texts of laws, and what laws tell.
 */
public final class LawEdgesTest {
    private static final Check C = new Check();

    private static void firstNumbers() {
        C.about("Terms I: PEOPLE 0 .. 5 (0 at first), WEIGHT 0 .. 9 (1), FRESH 0 .. 5 (0)");
        int[] first = {0, 1, 0};
        int[] most = {5, 9, 5};
        for (int sort = 0; sort < 2; sort++) {
            StayPlay x = new StayPlay();
            for (int what = 0; what < 3; what++) {
                C.due("at first", x.sort(sort, what, most[what]), first[what]);
                C.due("the most", x.sort(sort, what, 0), most[what]);
                C.due("the least", x.sort(sort, what, 1), 0);
                C.due("the other sort's", x.sort(1 - sort, what, first[what]), first[what]);
            }
        }
        C.about("Terms I: TERMS: 0 HEAD 0 .. 9 (1 at first), 1 ENDS 0 .. 99 (0), 2 LONG 0 .. 300 (120)");
        int[] terms = {1, 0, 120};
        int[] top = {9, 99, 300};
        StayPlay x = new StayPlay();
        for (int what = 0; what < 3; what++) {
            C.due("at first", x.terms(what, top[what]), terms[what]);
            C.due("the most", x.terms(what, 0), top[what]);
            C.due("the least", x.terms(what, 1), 0);
        }
        C.about("Terms I: SCENES 0 .. 4 (5 at most)");
        for (int i = 0; i < 5; i++) {
            C.due("scene " + i, x.scene(1 + 14 * i, 31 - (1 << i), i % 2), i);
        }
        C.due("the sixth", x.scene(1, 0, 0), -5);
        for (int i = 0; i < 5; i++) {
            C.due("minutes", x.put(i, 0, 60), 1 + 14 * i);
            C.due("needs", x.put(i, 1, 0), 31 - (1 << i));
            C.due("end", x.put(i, 2, 1), i % 2);
        }
    }

    private static int four(String text, int from) {
        return text.charAt(from) << 24 | text.charAt(from + 1) << 16 | text.charAt(from + 2) << 8 | text.charAt(from + 3);
    }

    private static int feed(StayPlay x, String twenty) {
        return x.feed(four(twenty, 0), four(twenty, 4), four(twenty, 8), four(twenty, 12), four(twenty, 16));
    }

    private static StayPlay oneScene() {
        StayPlay x = new StayPlay();
        x.scene(10, 0, 0);
        return x;
    }

    private static int chance(StayPlay x) {
        return x.asks(0, 0, 0, -1, 1, 0, 0, 0);
    }

    private static void tape() {
        C.about("Promise 6: twenty bytes come behind the TAPE, four of each number, the highest first");
        StayPlay x = oneScene();
        C.due("feed", feed(x, "stays 9*8+7-6/2if1<3"), 20);
        C.due("law()", x.law(), 0);
        x.force(0);
        C.due("chance", chance(x), 76);
        feed(x, "stays 1234          ");
        C.due("end(7)", x.end(7), 7);
        C.due("feed behind seven bytes", feed(x, "2;price 5;stays own;"), 27);
        C.due("end(16)", x.end(16), 16);
        C.due("law()", x.law(), 1);
        x.force(1);
        C.due("chance", chance(x), 12);
        C.due("price", x.asks(1, 0, 0, -1, 1, 0, 0, 0), 5);
        for (int place = 0; place < 20; place++) {
            char[] bytes = "stays 1             ".toCharArray();
            bytes[place] = (char) 255;
            C.due("feed", feed(x, new String(bytes)), 20);
            C.due("law() with a byte 255", x.law(), -6);
            // Ahead of its last letter the head is a word that there is not; behind that letter nothing goes on.
            C.due("its place", x.fault(), place < 5 ? 0 : place);
        }
    }

    private static void tapeIsFull() {
        C.about("Promise 6: NONE, if there would be more than 400");
        StayPlay x = new StayPlay();
        for (int i = 1; i <= 20; i++) {
            C.due("feed", feed(x, "stays 1             "), 20 * i);
        }
        C.due("the 21st", feed(x, "stays 1             "), -1);
        C.due("count(4)", x.count(4), 400);
        C.due("end(380)", x.end(380), 380);
        C.due("room for just twenty", feed(x, "                   ;"), 400);
        C.due("law()", x.law(), -6);
        C.due("fault", x.fault(), 20);
        C.due("empty: feed", feed(x, "stays 1             "), 20);
        for (int i = 0; i < 18; i++) {
            feed(x, "                    ");
        }
        x.end(362);
        C.due("feed up to 382", feed(x, "                    "), 382);
        C.due("feed beyond it", feed(x, ";;;;;;;;;;;;;;;;;;;;"), -1);
        C.due("nothing came", x.count(4), 382);
        C.due("law()", x.law(), 0);
    }

    private static void end() {
        C.about("Promise 7: the TAPE has its first n bytes alone");
        int[] due = {-1, 1, 12, 100};
        for (int n = 7; n <= 9; n++) {
            StayPlay x = oneScene();
            feed(x, "stays 123;stays 5   ");
            C.due("end(" + n + ")", x.end(n), n);
            C.due("count(4)", x.count(4), n);
            x.force(x.law());
            C.due("chance", chance(x), due[n - 6]);
        }
        StayPlay x = oneScene();
        feed(x, "stays 12;stays 5    ");
        C.due("end(8)", x.end(8), 8);
        C.due("what was cut is gone", x.end(9), -1);
        C.due("end(8)", x.end(8), 8);
        C.due("end(0)", x.end(0), 0);
        C.due("end(1)", x.end(1), -1);
        C.due("row() of nothing", x.row(), -6);
        feed(x, "                    ");
        C.due("blanks alone", x.law(), -6);
        C.due("fault", x.fault(), 20);
    }

    /** Rows of bytes, with how many scenes come and how many are cut. */
    private static void row(StayPlay x, String bytes, int came, int cut) {
        C.tape(x, bytes);
        C.due("row()", x.row(), came);
        C.due("cut()", x.cut(), cut);
        C.due("the tape is empty then", x.count(4), 0);
        C.due("status()", x.status(), 0);
    }

    private static void rows() {
        C.about("Terms IV: one that can't be (NEEDS of itself, too) is CUT");
        StayPlay x = new StayPlay();
        row(x, "\u0000\u0000\u0000", 0, 1);
        row(x, "\u003d\u0000\u0000", 0, 1);
        row(x, "\u00ff\u0000\u0000", 0, 1);
        row(x, "\u0081\u0000\u0000", 0, 1);
        row(x, "\u0001\u0020\u0000", 0, 1);
        row(x, "\u0001\u00ff\u0000", 0, 1);
        row(x, "\u0001\u0000\u0002", 0, 1);
        row(x, "\u0001\u0000\u00ff", 0, 1);
        row(x, "\u0001\u0001\u0000", 0, 1);
        row(x, "\u0001\u001f\u0000", 0, 1);
        C.due("no scene came", x.count(0), 0);
        row(x, "\u0001\u001e\u0001", 1, 0);
        row(x, "\u003c\u0002\u0000\u003c\u001d\u0000\u0002\u0004\u0000\u0002\u0001\u0001", 2, 2);
        C.due("least minutes", x.put(0, 0, 5), 1);
        C.due("greatest needs of 0", x.put(0, 1, 0), 30);
        C.due("end of 0", x.put(0, 2, 0), 1);
        C.due("most minutes", x.put(1, 0, 5), 60);
        C.due("greatest needs of 1", x.put(1, 1, 0), 29);
        C.due("minutes of 2", x.put(2, 0, 5), 2);
        C.due("needs of 2", x.put(2, 1, 0), 1);
        C.due("end of 2", x.put(2, 2, 0), 1);
        C.about("Terms IV: one within which the TAPE ends is CUT");
        for (int bytes = 1; bytes <= 7; bytes++) {
            StayPlay y = new StayPlay();
            row(y, "\u0001\u0000\u0000\u0001\u0000\u0000\u0001".substring(0, bytes), bytes / 3, bytes % 3 == 0 ? 0 : 1);
            C.due("count(0)", y.count(0), bytes / 3);
        }
        StayPlay behind = new StayPlay();
        for (int bytes = 1; bytes <= 5; bytes++) {
            // What was cut off the tape would have made it whole.
            behind.feed(0x02000002, 0x00000200, 0x00020000, 0x02000002, 0x00000200);
            behind.end(bytes);
            C.due("row() of " + bytes + " bytes of a longer tape", behind.row(), bytes / 3);
            C.due("cut()", behind.cut(), bytes % 3 == 0 ? 0 : 1);
        }
        C.about("Terms IV: one for which there is no room is CUT");
        StayPlay y = new StayPlay();
        row(y, "\u0001\u0000\u0000".repeat(5), 5, 0);
        row(y, "\u0001\u0000\u0000", 0, 1);
        row(y, "\u0001\u0000\u0000\u0001", 0, 2);
        row(y, "\u0000", 0, 1);
        StayPlay z = new StayPlay();
        row(z, "\u0001\u0000\u0000".repeat(133) + "\u0001", 5, 129);
        C.due("count(8), no call was refused", z.count(8), 0);
    }

    private static void cut() {
        C.about("Promise 9: in the latest row() that was not REFUSED (0 ahead of any)");
        StayPlay x = new StayPlay();
        C.due("cut() ahead of any", x.cut(), 0);
        C.due("row()", x.row(), -6);
        C.due("cut() behind a refused one", x.cut(), 0);
        row(x, "\u0000\u0000\u0000\u0000", 0, 2);
        C.due("row()", x.row(), -6);
        C.due("cut() behind a refused one", x.cut(), 2);
        x.scene(0, 0, 0);
        C.law(x, "stays");
        C.due("cut() behind other refused ones", x.cut(), 2);
        row(x, "\u0001\u0000\u0000", 1, 0);
    }

    private static void right(String text) {
        StayPlay x = new StayPlay();
        C.due("law() of " + text, C.law(x, text), 0);
        C.due("fault() of " + text, x.fault(), -1);
    }

    private static void wrong(String text, int place) {
        StayPlay x = new StayPlay();
        C.due("law() of " + text, C.law(x, text), -6);
        C.due("fault() of " + text, x.fault(), place);
        C.due("count(1)", x.count(1), 0);
        C.due("the tape is empty then", x.count(4), 0);
    }

    private static void sixLaws() {
        C.about("Terms II: LAWS are TEXTS, 6 at most; promise 10: -5 (ahead of reading it; the TAPE is empty then, too)");
        StayPlay x = oneScene();
        for (int i = 0; i < 6; i++) {
            C.due("law " + i, C.law(x, "stays 2" + i), i);
        }
        C.tape(x, "stays");
        C.due("the seventh, wrong", x.law(), -5);
        C.due("the tape", x.count(4), 0);
        C.due("it was not read", x.fault(), -1);
        C.due("the seventh, right", C.law(x, "stays 99"), -5);
        C.due("the seventh, empty", x.law(), -5);
        C.due("count(1)", x.count(1), 6);
        for (int i = 0; i < 6; i++) {
            x.force(i);
            C.due("law " + i + " as it was", chance(x), 20 + i);
        }
    }

    private static void fault() {
        C.about("Promise 11: FAULT of the latest law() that read a TEXT: its place; NONE without");
        StayPlay x = oneScene();
        C.due("ahead of any", x.fault(), -1);
        C.law(x, "stays 1 2");
        C.due("behind a wrong one", x.fault(), 8);
        x.row();
        C.tape(x, "\u0001");
        x.row();
        C.due("a row does not touch it", x.fault(), 8);
        C.law(x, "stays 1");
        C.due("behind a right one", x.fault(), -1);
        C.law(x, "");
        C.due("behind an empty one", x.fault(), 0);
        for (int i = 0; i < 5; i++) {
            C.law(x, "stays 1");
        }
        C.due("behind the sixth", x.fault(), -1);
        StayPlay y = new StayPlay();
        for (int i = 0; i < 6; i++) {
            C.law(y, "stays 1");
            C.law(y, "stays 1 ;");
        }
        C.due("no room, so the latest was not read", y.fault(), -1);
        StayPlay z = new StayPlay();
        for (int i = 0; i < 5; i++) {
            C.law(z, "stays 1");
        }
        z.image(0);
        C.law(z, "stays 1");
        z.back(0);
        C.law(z, "stays 1 ;");
        C.due("a law that was gone back from gives room", z.fault(), 9);
    }

    private static void blanks() {
        C.about("Promise 10: -6 (blanks alone: FAULT at the end)");
        for (int many : new int[] {0, 1, 2, 19, 20, 399, 400}) {
            wrong(" ".repeat(many), many);
        }
        C.about("Terms II: any blanks (32) between");
        right("stays" + " ".repeat(394) + "1");
        right(" ".repeat(393) + "stays 1");
        right("stays 1" + " ".repeat(393));
        right("stays[1]if(1<2)and not 1=2;price 3");
        right(" stays [ 1 ] if ( 1 < 2 ) and not 1 = 2 ; price 3 ");
        for (char other : new char[] {0, 9, 10, 13, 31, 33, 127, 128, 160, 255}) {
            wrong("stays" + other + "1", 5);
            wrong(other + "stays 1", 0);
            wrong("stays 1" + other, 7);
        }
    }

    private static void tokens() {
        C.about("Terms II: TOKENS: longest rows of letters a .. z");
        right("stays1if1=1or1=1and not1=1");
        wrong("stayss 1", 0);
        wrong("stay s 1", 0);
        wrong("s", 0);
        wrong("staysown", 0);
        wrong("stays ownown", 6);
        wrong("stays own own", 10);
        wrong("stays 1 if not1=1 orown=1", 18);
        wrong("stays 1 iff 1=1", 8);
        wrong("stays 1 i f 1=1", 8);
        for (String word : new String[] {"Own", "oWn", "ow", "owns", "sorts", "sor", "playe", "x", "z", "a"}) {
            wrong("stays " + word, 6);
        }
        for (String word : new String[] {"sort", "scene", "before", "heads", "own", "minute", "played"}) {
            right("stays " + word);
            right("price 1 if " + word + "=" + word);
        }
        for (char other : new char[] {'@', 'A', 'Z', '[', '`', '{', '|', '}', '~', '_'}) {
            wrong("stays own" + other, 9);
        }
        C.about("Terms II: TOKENS: longest rows of digits");
        wrong("stays 1 0", 8);
        wrong("stays 1001", 6);
        wrong("stays 10000", 6);
        wrong("stays own1", 9);
        wrong("stays 1own", 7);
        for (char other : new char[] {'.', ',', ':', '\'', '"', '!', '#', '$', '%', '&', '?', '\\', '^'}) {
            wrong("stays 1" + other, 7);
        }
        C.about("Terms II: TOKENS: single other bytes");
        wrong("stays 1 if 1<=1", 13);
        wrong("stays 1 if 1=>1", 13);
        wrong("stays 1 if 1<>1", 13);
        wrong("stays 1**2", 8);
        wrong("stays 1//2", 8);
        wrong("stays 1+-2", 8);
        wrong("stays 1;;stays 1", 8);
        right("stays[[1]]");
        right("stays 1 if((1=1))");
    }

    private static void twelveClauses() {
        C.about("Terms II: CLAUSE {\";\" CLAUSE}, 12 at most (FAULT at the 13th's first TOKEN)");
        String eleven = "stays 1" + ";price 2".repeat(10);
        String twelve = eleven + ";price 3";
        right(eleven);
        right(twelve);
        wrong(twelve + ";price 4", twelve.length() + 1);
        wrong(twelve + "  ;   stays 4", twelve.length() + 6);
        wrong(twelve + ";[", twelve.length() + 1);
        wrong(twelve + ";1001", twelve.length() + 1);
        wrong(twelve + ";;", twelve.length() + 1);
        wrong(twelve + ";  ", twelve.length() + 3);
        wrong(twelve + "  ;", twelve.length() + 3);
        wrong(twelve + " price 4", twelve.length() + 1);
        StayPlay x = oneScene();
        C.force(x, "stays 1;stays 2;stays 3;stays 4;stays 5;stays 6;stays 7;stays 8;stays 9;stays 10;stays 11;stays 12");
        C.due("the twelfth tells", chance(x), 12);
    }

    private static void numbers() {
        C.about("Terms II: NUMBER (to 1,000)");
        right("stays 0");
        right("stays 999");
        right("stays 1000");
        wrong("stays 1001", 6);
        right("stays 0001000");
        wrong("stays 0001001", 6);
        right("stays " + "0".repeat(390) + "1000");
        wrong("stays " + "0".repeat(390) + "1001", 6);
        // 2 multiplied by itself 32 and 64 times, and what wraps round to 1 and to 0 there.
        for (String great : new String[] {"4294967296", "4294967297", "2147483648", "18446744073709551616",
            "18446744073709551617", "10000000000000000000000000000000000000001"}) {
            wrong("stays " + great, 6);
            wrong("stays 1 if 1<" + great, 13);
        }
        wrong("stays " + "9".repeat(394), 6);
        wrong("stays 1" + "0".repeat(393), 6);
    }

    private static void fiftyParts() {
        C.about("Terms II: 50 PARTS that are NUMBERS and words (FAULT at the 51st)");
        String fifty = "stays 1" + "+own".repeat(24) + "-2".repeat(25);
        right(fifty);
        wrong(fifty + "+1", fifty.length() + 1);
        wrong(fifty + "* own", fifty.length() + 2);
        wrong(fifty + " + 1001", fifty.length() + 3);
        wrong(fifty + "+[[1]]", fifty.length() + 3);
        right("stays 1" + "+[own]".repeat(49));
        wrong("stays 1" + "+[own]".repeat(50), 7 + 6 * 49 + 2);
        String tests = "stays 1 if 1=1" + " or 1=1".repeat(23);
        right(tests);
        right(tests + ";price 2");
        wrong(tests + ";price 2 if 3=3", tests.length() + 12);
        wrong(tests + " or 1=1", tests.length() + 6);
        String clauses = "price 1+2+3+4".concat(";price 1+2+3+4".repeat(11));
        right(clauses);
        right(clauses + "+5+6");
        wrong(clauses + "+5+6+7", clauses.length() + 5);
        StayPlay x = oneScene();
        C.force(x, "stays 1" + "+1".repeat(49));
        C.due("fifty ones", chance(x), 50);
        C.force(x, "stays 90-[1-[1-[1-[1-[1-[1-[1-[1" + "-1".repeat(41) + "]]]]]]]]");
        // The innermost of the eight brackets is 1 - 41, that around it 1 + 40, and so on by turns: 90 - 41.
        C.due("fifty within brackets", chance(x), 49);
    }

    private static void eightBrackets() {
        C.about("Terms II: 8 brackets of both kinds within one another (FAULT at the 9th) at most");
        for (int round = 0; round <= 8; round++) {
            int square = 8 - round;
            String open = "(".repeat(round);
            String shut = ")".repeat(round);
            String start = "stays 1 if " + open;
            right(start + "[".repeat(square) + "1" + "]".repeat(square) + "=1" + shut);
            right(start + "1=" + "[".repeat(square) + "1" + "]".repeat(square) + shut);
            wrong(start + "[".repeat(square + 1) + "1" + "]".repeat(square + 1) + "=1" + shut, start.length() + square);
            wrong(start + "1=" + "[".repeat(square + 1) + "1", start.length() + 2 + square);
            wrong(start + "(".repeat(square + 1) + "1=1", start.length() + square);
        }
        right("stays " + "[".repeat(8) + "1" + "]".repeat(8));
        wrong("stays " + "[".repeat(9) + "1" + "]".repeat(9), 14);
        wrong("stays " + "[ ".repeat(9), 22);
        right("stays [[[[[[[[1]]]]]]]]+[[[[[[[[1]]]]]]]]*[[[[[[[[1]]]]]]]] if ((((((((1=1))))))))and((((((((1=1))))))))");
        right("stays [[[[[[[[1]]]]]]]];price [[[[[[[[1]]]]]]]]");
        right("stays 1 if " + "not(".repeat(8) + "1=1" + ")".repeat(8));
        wrong("stays 1 if " + "not(".repeat(9) + "1=1" + ")".repeat(9), 11 + 8 * 4 + 3);
    }

    private static void faults() {
        C.about("Terms II: FAULT: the first TOKEN that can't go on there");
        String[] partsWrong = {"stays", "price", "if", "or", "and", "not", "(", ")", "]", "<", ">", "=", "+", "-", "*", "/",
            ";", "1001", "!", "head"};
        for (String token : partsWrong) {
            wrong("stays " + token, 6);
            wrong("stays 1+ " + token, 9);
            wrong("stays own * " + token, 12);
            wrong("stays [ " + token, 8);
            wrong("stays 1 if 1 = " + token, 15);
            if (!token.equals("not") && !token.equals("(")) {
                wrong("stays 1 if " + token, 11);
                wrong("stays 1 if not " + token, 15);
                wrong("stays 1 if ( " + token, 13);
                wrong("stays 1 if 1=1 or " + token, 18);
                wrong("stays 1 if 1=1 and " + token, 19);
            }
        }
        String[] headsWrong = {"if", "or", "own", "1", "(", "[", ";", "+", "stay", "prices", "!"};
        for (String token : headsWrong) {
            wrong(token, 0);
            wrong("  " + token + " 1", 2);
            wrong("stays 1 ; " + token, 10);
        }
        for (String token : new String[] {"(", ")", "[", "]", "<", "=", "not", "or", "and", "own", "7", "price", "!"}) {
            wrong("stays 1 " + token, 8);
        }
        for (String token : new String[] {"(", ")", "[", "]", "<", ">", "=", "not", "if", "own", "7", "stays", "!"}) {
            wrong("stays 1 if 1=1 " + token, 15);
        }
        for (String token : new String[] {")", "]", ";", "or", "and", "if", "not", "(", "["}) {
            wrong("stays 1 if 1 " + token, 13);
        }
        wrong("stays [1)", 8);
        wrong("stays [1;", 8);
        wrong("stays 1 if (1=1]", 15);
        wrong("stays 1 if (1=1;", 15);
        wrong("stays 1 if (1)=1", 13);
        wrong("stays 1 if [1=1]", 13);
        C.about("Terms II: FAULT (the end's: the TEXT's length)");
        String[] unended = {"stays", "stays ", "price 1+", "price 1*  ", "stays [", "stays [1", "stays [1 ", "stays 1 if",
            "stays 1 if 1", "stays 1 if 1=", "stays 1 if not", "stays 1 if (", "stays 1 if (1=1", "stays 1 if 1=1 or",
            "stays 1 if 1=1 and ", "stays 1;", "stays 1 ; "};
        for (String text : unended) {
            wrong(text, text.length());
        }
        wrong("stays 1" + " ".repeat(392) + ";", 400);
        wrong(";".repeat(400), 0);
        wrong("stays " + "[".repeat(8) + "+".repeat(386), 14);
    }

    /** What a law tells of sort 1, scene 2, scene 0 before it, 3 and 4 there, minute 25, played 3. */
    private static void tells(String text, int chance, int price) {
        StayPlay x = new StayPlay();
        for (int i = 0; i < 3; i++) {
            x.scene(10, 0, 0);
        }
        C.force(x, text);
        C.due("chance by " + text, x.asks(0, 1, 2, 0, 3, 4, 25, 3), chance);
        C.due("price by " + text, x.asks(1, 1, 2, 0, 3, 4, 25, 3), price);
    }

    private static void broken() {
        C.about("Terms II: beyond 1,000,000,000 either way a SUM, a TEST is BROKEN");
        String billion = "1000*1000*1000";
        tells("stays 7;stays " + billion, 100, 0);
        tells("stays 7;stays " + billion + "+1", 7, 0);
        tells("stays 7;stays 1+" + billion, 7, 0);
        tells("stays 7;stays 0-" + billion, 0, 0);
        tells("stays 7;stays 0-" + billion + "-1", 7, 0);
        tells("price 7;price " + billion, 100, 99);
        tells("price 7;price " + billion + "+1", 100, 7);
        tells("stays 7;stays 8 if 0<" + billion, 8, 0);
        tells("stays 7;stays 8 if 0<" + billion + "+1", 7, 0);
        tells("stays 7;stays 8 if " + billion + "+1>0", 7, 0);
        tells("stays 7;stays 8 if 0>0-" + billion, 8, 0);
        tells("stays 7;stays 8 if 0>0-" + billion + "-1", 7, 0);
        tells("stays 7;stays 8 if not 0>" + billion + "+1", 7, 0);
        // What would wrap round in 32 and in 64 bits.
        tells("stays 7;stays [256*256]*[256*256]", 7, 0);
        tells("stays 7;stays [256*256]*[256*256]+5", 7, 0);
        tells("stays 7;stays [0-1000]*1000*1000*1000*1000*1000*1000", 7, 0);
        tells("stays 7;stays [1000*1000*1000]*[1000*1000*1000]*[1000*1000*1000]", 7, 0);
        C.about("Terms II: divided by 0 a SUM, a TEST is BROKEN");
        tells("stays 7;stays 1/0", 7, 0);
        tells("stays 7;stays 0/0", 7, 0);
        tells("stays 7;stays 5/[own-4]", 7, 0);
        tells("stays 7;stays 5/before", 7, 0);
        tells("stays 7;stays 0*[1/0]", 7, 0);
        tells("stays 7;stays 8 if 1/0=0", 7, 0);
        tells("stays 7;stays 8 if 0=1/0", 7, 0);
        tells("stays 7;stays 8 if not 1/0=0", 7, 0);
        tells("stays 7;stays 8 if not (1/0=0)", 7, 0);
        C.about("Terms II: / is cut towards 0");
        tells("stays 7/2", 3, 0);
        tells("stays 60+[0-7]/2", 57, 0);
        tells("stays 60+7/[0-2]", 57, 0);
        tells("stays 60+[0-7]/[0-2]", 63, 0);
        tells("stays 60+[0-1]/2", 60, 0);
        tells("stays 60+0/5", 60, 0);
        tells("stays 60/1", 60, 0);
        tells("stays 60+3/[0-1]", 57, 0);
        tells("stays 60+[1-1000*1000*1000]/[1000*1000*1000]", 60, 0);
    }

    private static void holding() {
        C.about("Terms II: \"or\", \"and\" ask what stands behind only if it can still matter");
        String no = "stays 7;stays 8 if ";
        tells(no + "1=1 or 1/0=1", 8, 0);
        tells(no + "1=2 or 1/0=1", 7, 0);
        tells(no + "1/0=1 or 1=1", 7, 0);
        tells(no + "1=1 and 1/0=1", 7, 0);
        tells(no + "1=2 and 1/0=1", 7, 0);
        tells(no + "not (1=2 and 1/0=1)", 8, 0);
        tells(no + "not (1=1 and 1/0=1)", 7, 0);
        tells(no + "not (1/0=1 and 1=2)", 7, 0);
        tells(no + "not (1=1 or 1/0=1)", 7, 0);
        tells(no + "not (1=2 or 1/0=1)", 7, 0);
        tells(no + "1=2 and 1/0=1 or 1=1", 8, 0);
        tells(no + "1=2 and 1=1 and 1/0=1 or 1=1", 8, 0);
        tells(no + "1=1 and 1/0=1 or 1=1", 7, 0);
        tells(no + "1=1 or 1/0=1 or 1/0=2", 8, 0);
        tells(no + "1=2 or 1=1 or 1/0=2", 8, 0);
        tells(no + "1=1 or 1/0=1 and 1/0=2", 8, 0);
        tells(no + "(1=1 or 1/0=1) and 1=1", 8, 0);
        tells(no + "(1=1 or 1/0=1) and 1=2", 7, 0);
        tells(no + "(1=2 and 1/0=1) or 1=1", 8, 0);
        C.about("Terms II: a CLAUSE HOLDS, if its \"if\" is so, and neither that nor its SUM is BROKEN");
        tells("stays 7;stays 1/0 if 1=1", 7, 0);
        tells("stays 7;stays 1/0 if 1=2", 7, 0);
        tells("stays 7;stays 8 if 4<4", 7, 0);
        tells("stays 7;stays 8 if 4>4", 7, 0);
        tells("stays 7;stays 8 if 4=4", 8, 0);
        tells("stays 7;stays 8 if 3<4", 8, 0);
        tells("stays 7;stays 8 if 4>3", 8, 0);
        tells("stays 7;stays 8 if 0-4<0-3", 8, 0);
        C.about("Terms II: what the last CLAUSE with it that HOLDS tells");
        tells("stays 7;stays 8", 8, 0);
        tells("stays 7;stays 8;stays 9 if own=5", 8, 0);
        tells("stays 7;stays 8;stays 9/0", 8, 0);
        tells("stays 7;price 6;stays 8;price 5;stays 9 if 1=2;price 4/0", 8, 5);
    }

    private static void nearest() {
        C.about("Terms II: the CHANCE: 0 .. 100 of a hundred (else the nearest), 100 without");
        int[][] chances = {{0, 0}, {1, 1}, {99, 99}, {100, 100}, {101, 100}, {1000, 100}};
        for (int[] one : chances) {
            tells("stays " + one[0], one[1], 0);
        }
        tells("stays 0-1", 0, 0);
        tells("stays 0-1000*1000*1000", 0, 0);
        tells("stays 1000*1000*1000", 100, 0);
        tells("price 5", 100, 5);
        tells("stays 5 if 1=2", 100, 0);
        tells("stays 5/0", 100, 0);
        C.about("Terms II: the PRICE: 0 .. 99 (else the nearest), 0 without");
        int[][] prices = {{0, 0}, {1, 1}, {98, 98}, {99, 99}, {100, 99}, {1000, 99}};
        for (int[] one : prices) {
            tells("price " + one[0], 100, one[1]);
        }
        tells("price 0-1", 100, 0);
        tells("price 0-1000*1000*1000", 100, 0);
        tells("price 1000*1000*1000", 100, 99);
        tells("stays 5", 5, 0);
        tells("price 5 if 1=2", 100, 0);
        tells("price 5/0", 100, 0);
    }

    private static void inForce() {
        C.about("Terms II: one is in FORCE (NONE at first: no CLAUSE)");
        StayPlay x = oneScene();
        C.law(x, "stays 3;price 4");
        C.due("read, not in force", chance(x), 100);
        C.due("price", x.asks(1, 0, 0, -1, 1, 0, 0, 0), 0);
        C.due("count(10)", x.count(10), -1);
        C.due("force(0)", x.force(0), -1);
        C.due("in force", chance(x), 3);
        C.due("force(NONE)", x.force(-1), 0);
        C.due("not in force", chance(x), 100);
        C.due("force(NONE) again", x.force(-1), -1);
    }

    private static void facts() {
        C.about("Terms II: before: the SCENE ahead of it (-1: none)");
        StayPlay x = oneScene();
        x.scene(20, 0, 0);
        C.force(x, "stays 50+before;price 50+before");
        C.due("none", x.asks(0, 0, 0, -1, 1, 1, 0, 0), 49);
        C.due("scene 0", x.asks(0, 0, 1, 0, 1, 1, 0, 0), 50);
        C.due("scene 1, itself", x.asks(1, 0, 1, 1, 1, 1, 0, 0), 51);
        C.about("Promise 13: so many there of SORT 0, of SORT 1 (0 .. 5 each)");
        C.force(x, "stays heads*10+own;price own*10+sort");
        C.due("nobody", x.asks(0, 0, 0, -1, 0, 0, 0, 0), 0);
        C.due("five and five", x.asks(0, 0, 0, -1, 5, 5, 0, 0), 100);
        C.due("one and five of sort 0", x.asks(0, 0, 0, -1, 1, 5, 0, 0), 61);
        C.due("one and five of sort 1", x.asks(0, 1, 0, -1, 1, 5, 0, 0), 65);
        C.due("own of sort 0", x.asks(1, 0, 0, -1, 2, 3, 0, 0), 20);
        C.due("own of sort 1", x.asks(1, 1, 0, -1, 2, 3, 0, 0), 31);
        C.about("Promise 13: so many minutes (0 .. 300), so many played (0 .. 4)");
        C.force(x, "stays minute/3;price played*10+scene");
        C.due("minute 0", x.asks(0, 0, 0, -1, 1, 1, 0, 0), 0);
        C.due("minute 299", x.asks(0, 0, 0, -1, 1, 1, 299, 0), 99);
        C.due("minute 300", x.asks(0, 0, 0, -1, 1, 1, 300, 0), 100);
        C.due("played 0", x.asks(1, 0, 0, -1, 1, 1, 0, 0), 0);
        C.due("played 4", x.asks(1, 0, 1, -1, 1, 1, 0, 4), 41);
        x.sort(0, 0, 1);
        C.due("asked with more than the PEOPLE told", x.asks(0, 0, 0, -1, 5, 5, 150, 0), 50);
    }

    public static void main(String[] args) {
        firstNumbers();
        tape();
        tapeIsFull();
        end();
        rows();
        cut();
        sixLaws();
        fault();
        blanks();
        tokens();
        twelveClauses();
        numbers();
        fiftyParts();
        eightBrackets();
        faults();
        broken();
        holding();
        nearest();
        inForce();
        facts();
        C.end("LawEdgesTest");
    }
}
