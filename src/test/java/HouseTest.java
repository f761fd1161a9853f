/** Promises 1 to 9, 12, 14 to 16 and 32 to 35: what is told, kept, gone back to and counted. */
public final class HouseTest {
    private static final Check C = new Check();

    private static void newObject() {
        C.about("promise 1");
        StayPlay x = new StayPlay();
        for (int what = 0; what <= 9; what++) {
            C.due("count(" + what + ")", x.count(what), 0);
        }
        C.due("count(10)", x.count(10), -1);
        C.due("status()", x.status(), 0);
        C.due("cut()", x.cut(), 0);
        C.due("fault()", x.fault(), -1);
        C.due("can(0)", x.can(0), 0);
        C.due("rows()", x.rows(), 1);
        for (int chooser = 0; chooser < 4; chooser++) {
            C.due("worth", x.worth(chooser), 0);
            C.due("run", x.run(chooser, 1), 0);
            C.due("odds 6", x.odds(chooser, 6), 0);
        }
        C.due("sort(0, 0, 0)", x.sort(0, 0, 0), 0);
        C.due("sort(0, 1, 1)", x.sort(0, 1, 1), 1);
        C.due("sort(1, 2, 0)", x.sort(1, 2, 0), 0);
        C.due("terms(0, 1)", x.terms(0, 1), 1);
        C.due("terms(1, 0)", x.terms(1, 0), 0);
        C.due("terms(2, 120)", x.terms(2, 120), 120);
        C.due("NONE", StayPlay.NONE, -1);
    }

    private static void scene() {
        C.about("promise 2");
        StayPlay x = new StayPlay();
        int[][] wrong = {{0, 0, 0}, {61, 0, 0}, {-1, 0, 0}, {1, -1, 0}, {1, 32, 0}, {1, 1, 0}, {1, 0, 2}, {1, 0, -1},
            {Integer.MIN_VALUE, 0, 0}, {1, Integer.MIN_VALUE, 0}, {1, 0, Integer.MAX_VALUE}};
        for (int[] w : wrong) {
            C.due("scene(" + w[0] + "," + w[1] + "," + w[2] + ")", x.scene(w[0], w[1], w[2]), -1);
            C.due("status()", x.status(), -1);
        }
        C.due("count(5)", x.count(5), wrong.length);
        C.due("needs of what is not there yet", x.scene(1, 30, 0), 0);
        C.due("status()", x.status(), 0);
        C.due("scene(60, 1, 1)", x.scene(60, 1, 1), 1);
        C.due("needs of itself", x.scene(60, 4, 1), -1);
        C.due("scene(5, 27, 1)", x.scene(5, 27, 1), 2);
        C.due("scene(5, 0, 0)", x.scene(5, 0, 0), 3);
        C.due("scene(5, 15, 0)", x.scene(5, 15, 0), 4);
        C.due("no room", x.scene(5, 0, 0), -5);
        C.due("status()", x.status(), -5);
        C.due("a wrong number ahead of no room", x.scene(0, 0, 0), -1);
        C.due("count(8)", x.count(8), 1);
        C.due("count(0)", x.count(0), 5);
    }

    private static void put() {
        C.about("promise 3");
        StayPlay x = new StayPlay();
        x.scene(10, 2, 1);
        x.scene(20, 0, 0);
        C.due("put(0, 0, 60)", x.put(0, 0, 60), 10);
        C.due("put(0, 0, 1)", x.put(0, 0, 1), 60);
        C.due("put(0, 1, 30)", x.put(0, 1, 30), 2);
        C.due("put(0, 1, 0)", x.put(0, 1, 0), 30);
        C.due("put(0, 2, 0)", x.put(0, 2, 0), 1);
        C.due("put(0, 2, 1)", x.put(0, 2, 1), 0);
        int[][] wrong = {{0, 0, 0}, {0, 0, 61}, {0, 1, 32}, {0, 1, -1}, {0, 1, 1}, {1, 1, 3}, {0, 2, 2}, {0, 2, -1},
            {0, 3, 0}, {0, -1, 1}, {7, 0, 0}, {-1, 3, 0}, {2, 1, 4}};
        for (int[] w : wrong) {
            C.due("put(" + w[0] + "," + w[1] + "," + w[2] + ")", x.put(w[0], w[1], w[2]), -1);
        }
        for (int scene : new int[] {2, 5, -1, Integer.MIN_VALUE, Integer.MAX_VALUE}) {
            C.due("put(" + scene + ", 0, 5)", x.put(scene, 0, 5), -2);
            C.due("status()", x.status(), -2);
            C.due("put(" + scene + ", 1, 0)", x.put(scene, 1, 0), -2);
        }
        C.due("nothing was changed", x.put(1, 0, 20), 20);
        C.due("nothing was changed", x.put(1, 1, 0), 0);
        x.sort(0, 0, 1);
        C.due("worth ahead", x.worth(2), 2100);
        x.put(1, 0, 40);
        C.due("worth behind new minutes", x.worth(2), 4100);
        x.put(1, 1, 1);
        C.due("worth behind new needs", x.worth(2), 100);
    }

    private static void sort() {
        C.about("promise 4");
        StayPlay x = new StayPlay();
        C.due("sort(0, 0, 5)", x.sort(0, 0, 5), 0);
        C.due("sort(0, 0, 4)", x.sort(0, 0, 4), 5);
        C.due("sort(1, 0, 3)", x.sort(1, 0, 3), 0);
        C.due("sort(0, 1, 9)", x.sort(0, 1, 9), 1);
        C.due("sort(1, 1, 0)", x.sort(1, 1, 0), 1);
        C.due("sort(0, 2, 5)", x.sort(0, 2, 5), 0);
        C.due("sort(1, 2, 1)", x.sort(1, 2, 1), 0);
        int[][] wrong = {{2, 0, 0}, {-1, 0, 0}, {0, 3, 0}, {0, -1, 0}, {0, 0, 6}, {0, 0, -1}, {0, 1, 10}, {0, 1, -1},
            {0, 2, 6}, {0, 2, -1}, {Integer.MAX_VALUE, 0, 0}};
        for (int[] w : wrong) {
            C.due("sort(" + w[0] + "," + w[1] + "," + w[2] + ")", x.sort(w[0], w[1], w[2]), -1);
            C.due("status()", x.status(), -1);
        }
        C.due("sort(0, 0, 0)", x.sort(0, 0, 0), 4);
        C.due("sort(0, 1, 0)", x.sort(0, 1, 0), 9);
        C.due("sort(0, 2, 0)", x.sort(0, 2, 0), 5);
        C.due("status()", x.status(), 0);
    }

    private static void terms() {
        C.about("promise 5");
        StayPlay x = new StayPlay();
        C.due("terms(0, 9)", x.terms(0, 9), 1);
        C.due("terms(0, 0)", x.terms(0, 0), 9);
        C.due("terms(1, 99)", x.terms(1, 99), 0);
        C.due("terms(1, 0)", x.terms(1, 0), 99);
        C.due("terms(2, 300)", x.terms(2, 300), 120);
        C.due("terms(2, 0)", x.terms(2, 0), 300);
        int[][] wrong = {{0, 10}, {0, -1}, {1, 100}, {1, -1}, {2, 301}, {2, -1}, {3, 0}, {-1, 0}};
        for (int[] w : wrong) {
            C.due("terms(" + w[0] + "," + w[1] + ")", x.terms(w[0], w[1]), -1);
        }
        C.due("count(5)", x.count(5), wrong.length);
        C.due("terms(2, 1)", x.terms(2, 1), 0);
    }

    private static void tape() {
        C.about("promises 6, 7");
        StayPlay x = new StayPlay();
        C.due("end(0)", x.end(0), 0);
        C.due("end(1)", x.end(1), -1);
        C.due("end(-1)", x.end(-1), -1);
        for (int i = 1; i <= 20; i++) {
            C.due("feed", x.feed(0, 0, 0, 0, 0), 20 * i);
        }
        C.due("feed", x.feed(0, 0, 0, 0, 0), -1);
        C.due("count(4)", x.count(4), 400);
        C.due("end(401)", x.end(401), -1);
        C.due("end(400)", x.end(400), 400);
        C.due("end(381)", x.end(381), 381);
        C.due("feed", x.feed(0, 0, 0, 0, 0), -1);
        C.due("end(382)", x.end(382), -1);
        C.due("end(MIN)", x.end(Integer.MIN_VALUE), -1);
        C.due("end(380)", x.end(380), 380);
        C.due("feed", x.feed(0, 0, 0, 0, 0), 400);
        C.due("end(0)", x.end(0), 0);
        C.due("NONE is not a refusal", x.count(5), 0);
        // The highest byte first, and bytes above 127: 60 minutes, needs 16, an end; then 255 minutes.
        C.due("feed", x.feed(0x3C1001FF, 0x000005FF, 0x000A0000, 0, 0), 20);
        C.due("end(12)", x.end(12), 12);
        C.due("row()", x.row(), 2);
        C.due("cut()", x.cut(), 2);
        C.due("put(0, 0, 1)", x.put(0, 0, 1), 60);
        C.due("put(0, 1, 0)", x.put(0, 1, 0), 16);
        C.due("put(0, 2, 0)", x.put(0, 2, 0), 1);
        C.due("put(1, 0, 1)", x.put(1, 0, 1), 10);
    }

    private static void rows() {
        C.about("promises 8, 9");
        StayPlay x = new StayPlay();
        C.due("row() of nothing", x.row(), -6);
        C.due("status()", x.status(), -6);
        C.due("cut()", x.cut(), 0);
        C.tape(x, "\u0001\u0002\u0000" + "\u0001\u0002\u0000" + "\u003d\u0000\u0000" + "\u0001\u0020\u0000" + "\u0001\u0000\u0002" + "\u0001\u0000");
        C.due("row()", x.row(), 1);
        C.due("status()", x.status(), 0);
        C.due("cut(), needs of itself among them", x.cut(), 5);
        C.due("the tape is empty", x.count(4), 0);
        C.due("row() of nothing", x.row(), -6);
        C.due("cut() stays", x.cut(), 5);
        C.tape(x, "\u0001");
        C.due("row() of one byte", x.row(), 0);
        C.due("cut()", x.cut(), 1);
        C.tape(x, "\u0001\u0000\u0000");
        x.end(2);
        C.due("row() of two bytes, whatever stood behind them", x.row(), 0);
        C.due("cut()", x.cut(), 1);
        C.tape(x, "\u0001\u0000\u0000\u0002\u0000\u0000\u0003\u0000\u0000\u0004\u0000\u0001\u0005\u0000\u0000");
        C.due("row()", x.row(), 4);
        C.due("cut() without room", x.cut(), 1);
        C.tape(x, "\u0001\u0000\u0000");
        C.due("row() without room", x.row(), 0);
        C.due("cut()", x.cut(), 1);
        C.due("put(4, 2, 0)", x.put(4, 2, 0), 1);
        C.due("count(9)", x.count(9), 2);
    }

    private static void force() {
        C.about("promise 12");
        StayPlay x = new StayPlay();
        C.due("force(0)", x.force(0), -2);
        C.due("force(-1)", x.force(-1), -1);
        C.due("status()", x.status(), 0);
        C.due("count(5)", x.count(5), 0);
        C.law(x, "stays 1");
        C.law(x, "stays 2");
        C.due("force(1)", x.force(1), -1);
        C.due("count(10)", x.count(10), 1);
        C.due("force(2)", x.force(2), -2);
        C.due("force(-2)", x.force(-2), -2);
        C.due("status()", x.status(), -2);
        C.due("force(0)", x.force(0), 1);
        C.due("force(-1)", x.force(-1), 0);
        C.due("count(10)", x.count(10), -1);
    }

    private static void can() {
        C.about("promise 14");
        StayPlay x = new StayPlay();
        C.due("can(1)", x.can(1), -1);
        x.scene(50, 0, 0);
        x.scene(40, 1, 0);
        x.scene(30, 3, 1);
        x.scene(31, 16, 0);
        int[] due = {1, 2, 1, 4, 0, 0, 0, 0};
        for (int played = 0; played < 8; played++) {
            C.due("can(" + played + ")", x.can(played), due[played]);
        }
        C.due("can(-1)", x.can(-1), -1);
        C.due("can(16)", x.can(16), -1);
        C.due("can(MIN)", x.can(Integer.MIN_VALUE), -1);
        C.due("can(15)", x.can(15), 0);
        x.terms(2, 119);
        C.due("can(3), too long by one", x.can(3), 0);
        x.scene(1, 0, 0);
        C.due("can(16)", x.can(16), 9);
        x.terms(2, 0);
        C.due("can(0), no time", x.can(0), 0);
    }

    /** Behind an end the evening is over, wherever it stood among those that were played. */
    private static void canBehindAnEnd() {
        C.about("promise 14, ends");
        StayPlay x = new StayPlay();
        x.scene(1, 0, 1);
        x.scene(1, 0, 0);
        x.scene(1, 1, 0);
        int[] due = {3, 0, 1, 0, 3, 0, 1, 0};
        for (int played = 0; played < 8; played++) {
            C.due("can(" + played + ")", x.can(played), due[played]);
        }
        x.put(0, 2, 0);
        C.due("can(1), no end any more", x.can(1), 6);
        x.put(1, 2, 1);
        C.due("can(1), the end is another", x.can(1), 6);
        C.due("can(3), the end is another", x.can(3), 0);
        C.due("can(8), behind all scenes", x.can(8), -1);
    }

    private static void book() {
        C.about("promises 15, 16");
        StayPlay x = new StayPlay();
        C.due("tear()", x.tear(), 0);
        C.due("book(0)", x.book(0), -2);
        x.scene(10, 0, 0);
        x.scene(10, 0, 0);
        C.due("book(1)", x.book(1), 1);
        C.due("book(1)", x.book(1), -3);
        C.due("status()", x.status(), -3);
        C.due("book(0)", x.book(0), 2);
        C.due("book(2)", x.book(2), -2);
        C.due("book(-1)", x.book(-1), -2);
        C.due("count(2)", x.count(2), 2);
        C.due("tear()", x.tear(), 2);
        C.due("status() is not tear's", x.status(), -2);
        C.due("tear()", x.tear(), 0);
        C.due("book(1)", x.book(1), 1);
    }

    private static void images() {
        C.about("promises 32, 33");
        StayPlay x = new StayPlay();
        C.due("back(0)", x.back(0), -2);
        C.due("back(2)", x.back(2), -1);
        C.due("back(-1)", x.back(-1), -1);
        C.due("image(2)", x.image(2), -1);
        C.due("image(-1)", x.image(-1), -1);
        C.due("status()", x.status(), -1);
        C.due("image(1)", x.image(1), 0);
        C.due("status()", x.status(), 0);
        C.due("back(0)", x.back(0), -2);
        x.scene(30, 0, 0);
        x.scene(20, 1, 1);
        x.sort(0, 0, 2);
        x.sort(1, 1, 7);
        x.sort(1, 2, 3);
        x.terms(0, 2);
        x.terms(1, 3);
        x.terms(2, 90);
        C.force(x, "stays 50");
        x.book(1);
        x.heads(3);
        x.stayed(0, 2);
        C.due("image(0)", x.image(0), 0);
        int worth = x.worth(2);
        int were = x.were(1);
        x.put(0, 0, 5);
        x.put(1, 1, 0);
        x.put(1, 2, 0);
        x.scene(1, 0, 0);
        x.sort(0, 0, 5);
        x.sort(1, 1, 1);
        x.sort(1, 2, 0);
        x.terms(0, 1);
        x.terms(1, 1);
        x.terms(2, 1);
        C.force(x, "stays 20");
        x.book(0);
        x.heads(5);
        x.run(2, 4);
        C.tape(x, "stays");
        x.law();
        C.tape(x, "\u0001\u0000\u0009");
        x.row();
        C.tape(x, "abc");
        int refusals = x.count(6);
        C.due("back(0)", x.back(0), 0);
        C.due("status()", x.status(), 0);
        C.due("worth", x.worth(2), worth);
        C.due("were", x.were(1), were);
        int[] due = {2, 1, 1, 1, 3};
        for (int what = 0; what < 5; what++) {
            C.due("count(" + what + ")", x.count(what), due[what]);
        }
        C.due("count(10)", x.count(10), 0);
        C.due("the fault stays", x.fault(), 5);
        C.due("the cut stays", x.cut(), 1);
        C.due("refusals stay", x.count(6), refusals);
        C.due("put(0, 0, 1)", x.put(0, 0, 1), 30);
        C.due("put(1, 1, 0)", x.put(1, 1, 0), 1);
        C.due("put(1, 2, 0)", x.put(1, 2, 0), 1);
        C.due("sort(1, 1, 1)", x.sort(1, 1, 1), 7);
        C.due("sort(1, 2, 1)", x.sort(1, 2, 1), 3);
        C.due("terms(0, 1)", x.terms(0, 1), 2);
        C.due("terms(1, 1)", x.terms(1, 1), 3);
        C.due("terms(2, 1)", x.terms(2, 1), 90);
        C.due("back(0) again", x.back(0), 0);
        C.due("the image was not touched", x.put(0, 0, 1), 30);
        C.due("back(1)", x.back(1), 0);
        C.due("count(0)", x.count(0), 0);
        C.due("were(0)", x.were(0), -1);
        C.due("stayed(0, 0)", x.stayed(0, 0), -2);
        C.due("back(0) from image 1", x.back(0), 0);
        C.due("count(0)", x.count(0), 2);
    }

    /** Rows that are changed in their places, not in their lengths, come back too. */
    private static void imagesOfRows() {
        C.about("promise 33, rows");
        StayPlay x = new StayPlay();
        for (int i = 0; i < 5; i++) {
            x.scene(10 + i, 0, 0);
        }
        x.sort(0, 0, 1);
        x.image(1);
        C.force(x, "stays 0");
        x.book(0);
        x.book(4);
        x.heads(5);
        for (int i = 0; i < 5; i++) {
            x.stayed(i, i == 4 ? 0 : 5);
        }
        x.image(0);
        C.due("worth(0)", x.worth(0), 1000);
        C.due("were(0)", x.were(0), -1);
        x.back(1);
        C.force(x, "stays 0 if scene=4");
        x.book(4);
        x.book(0);
        x.heads(5);
        for (int i = 4; i >= 0; i--) {
            x.stayed(i, 0);
        }
        C.due("worth(0)", x.worth(0), 1400);
        C.due("were(0)", x.were(0), 166666);
        x.back(0);
        C.due("the law", x.asks(0, 0, 0, -1, 1, 0, 0, 0), 0);
        C.due("the book", x.worth(0), 1000);
        C.due("the heads", x.were(0), -1);
        C.force(x, "stays 0 if scene=4");
        C.due("the heads, by another law", x.were(0), 166666);
        C.due("it is in the row of heads", x.stayed(4, 0), -3);
    }

    private static void latestWorldStays() {
        C.about("promise 33, the latest world");
        StayPlay x = new StayPlay();
        x.image(0);
        x.scene(10, 0, 0);
        x.sort(1, 0, 4);
        x.run(2, 9);
        x.back(0);
        C.due("ran(0, 0)", x.ran(0, 0), 0);
        C.due("ran(0, 2)", x.ran(0, 2), 4);
        x.run(2, 9);
        C.due("ran(0, 0)", x.ran(0, 0), -1);
    }

    private static void counts() {
        C.about("promises 34, 35");
        StayPlay x = new StayPlay();
        x.terms(5, 0);
        x.force(3);
        x.scene(9, 0, 0);
        x.stayed(0, 0);
        x.row();
        for (int i = 0; i < 6; i++) {
            C.law(x, "price 1");
        }
        C.law(x, "price 1");
        int[] due = {1, 6, 0, 0, 0, 1, 1, 1, 1, 1, -1, -1};
        for (int what = 0; what < due.length; what++) {
            C.due("count(" + what + ")", x.count(what), due[what]);
        }
        C.due("count(-1)", x.count(-1), -1);
        C.due("count(MAX)", x.count(Integer.MAX_VALUE), -1);
        C.due("status()", x.status(), -5);
        x.worth(9);
        x.feed(0, 0, 0, 0, 0);
        x.end(999);
        x.nights(0, 0, 0, 0);
        x.can(99);
        C.due("others do not change the status", x.status(), -5);
        C.due("count(5)", x.count(5), 1);
        C.due("count(4)", x.count(4), 20);
        x.run(0, 0);
        C.due("status()", x.status(), 0);
        x.run(0, -1);
        C.due("status()", x.status(), -1);
        x.image(0);
        C.due("status()", x.status(), 0);
        x.back(1);
        C.due("status()", x.status(), -2);
        x.heads(0);
        C.due("status()", x.status(), 0);
        x.heads(11);
        C.due("status()", x.status(), -1);
    }

    public static void main(String[] args) {
        newObject();
        scene();
        put();
        sort();
        terms();
        tape();
        rows();
        force();
        can();
        canBehindAnEnd();
        book();
        images();
        imagesOfRows();
        latestWorldStays();
        counts();
        C.end("HouseTest");
    }
}
