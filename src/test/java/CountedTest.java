/** Promises 26 to 28: heads that were counted, and which sorts there must have been. */
public final class CountedTest {
    private static final Check C = new Check();

    private static StayPlay scenes(int many, String law) {
        StayPlay x = new StayPlay();
        for (int i = 0; i < many; i++) {
            x.scene(10, 0, i % 2);
        }
        if (law != null) {
            C.force(x, law);
        }
        return x;
    }

    private static void were(StayPlay x, int... due) {
        for (int many = 0; many <= 5; many++) {
            C.due("were(" + many + ")", x.were(many), due[many]);
        }
        C.due("were(-1)", x.were(-1), -1);
        C.due("were(6)", x.were(6), -1);
        C.due("were(MIN)", x.were(Integer.MIN_VALUE), -1);
    }

    private static void heads() {
        C.about("promise 26");
        StayPlay x = scenes(2, null);
        C.due("heads(-1)", x.heads(-1), -1);
        C.due("heads(11)", x.heads(11), -1);
        C.due("status()", x.status(), -1);
        were(x, -1, -1, -1, -1, -1, -1);
        C.due("heads(0)", x.heads(0), 0);
        were(x, 1000000, 0, 0, 0, 0, 0);
        C.due("heads(10)", x.heads(10), 0);
        were(x, 0, 0, 0, 0, 0, 1000000);
        C.due("heads(7)", x.heads(7), 0);
        were(x, 0, 0, 250000, 250000, 250000, 250000);
        C.due("heads(2)", x.heads(2), 0);
        were(x, 333333, 333333, 333333, 0, 0, 0);
        x.stayed(1, 2);
        C.due("count(3)", x.count(3), 1);
        C.due("heads(2) empties the row", x.heads(2), 0);
        C.due("count(3)", x.count(3), 0);
        C.due("a refused one does not", x.heads(12), -1);
        C.due("stayed(1, 2)", x.stayed(1, 2), 1);
    }

    private static void stayed() {
        C.about("promise 27");
        StayPlay x = scenes(5, null);
        C.due("heads() was not told", x.stayed(0, 0), -3);
        x.heads(5);
        C.due("stayed(5, 0)", x.stayed(5, 0), -2);
        C.due("stayed(-1, 0)", x.stayed(-1, 0), -2);
        C.due("stayed(0, -1)", x.stayed(0, -1), -1);
        C.due("stayed(0, 11)", x.stayed(0, 11), -1);
        C.due("stayed(9, 11)", x.stayed(9, 11), -1);
        C.due("more than ahead", x.stayed(0, 6), -3);
        C.due("stayed(3, 5)", x.stayed(3, 5), 1);
        C.due("it is in it", x.stayed(3, 5), -3);
        C.due("status()", x.status(), -3);
        C.due("stayed(0, 3)", x.stayed(0, 3), 2);
        C.due("more than behind the one ahead", x.stayed(1, 4), -3);
        C.due("stayed(1, 3)", x.stayed(1, 3), 3);
        C.due("stayed(2, 0)", x.stayed(2, 0), 4);
        C.due("stayed(4, 0)", x.stayed(4, 0), 5);
        C.due("stayed(4, 0)", x.stayed(4, 0), -3);
        C.due("count(3)", x.count(3), 5);
        C.due("count(7)", x.count(7), 5);
    }

    private static void odds() {
        C.about("promise 28");
        StayPlay x = scenes(3, "stays 100; stays 0 if sort=1");
        x.heads(3);
        x.stayed(0, 2);
        were(x, 0, 0, 1000000, 0, 0, 0);
        x.force(-1);
        were(x, -1, -1, -1, -1, -1, -1);
        // Of two one stayed: 2 * .6 * .4, .3 * .4 + .7 * .6, 2 * .3 * .7, of 1.44 in all.
        C.force(x, "stays 30; stays 60 if sort=1");
        x.heads(2);
        x.stayed(0, 1);
        were(x, 333333, 375000, 291666, 0, 0, 0);
        // An end is asked like any other; that one left, too: .192, .252, .294 of .738 in all.
        x.stayed(1, 0);
        were(x, 260162, 341463, 398373, 0, 0, 0);
    }

    private static void facts() {
        C.about("promise 28, what the law is asked");
        StayPlay x = scenes(3, "stays 100; stays 0 if sort=0 and played=1 and before=2 and minute=25 and scene=0");
        x.put(2, 0, 25);
        x.heads(4);
        x.stayed(2, 4);
        x.stayed(0, 3);
        were(x, 0, 1000000, 0, 0, 0, 0);
        x.stayed(1, 3);
        were(x, 0, 1000000, 0, 0, 0, 0);
        x.put(2, 0, 24);
        were(x, -1, -1, -1, -1, -1, -1);
        C.force(x, "stays 100; stays 50 if own=2 and heads=3");
        x.heads(3);
        x.stayed(0, 3);
        were(x, 400000, 100000, 100000, 400000, 0, 0);
    }

    /** Neither needs nor the evening's length are asked. */
    private static void free() {
        C.about("promise 27, needs and length");
        StayPlay x = scenes(2, null);
        x.put(0, 1, 2);
        x.terms(2, 0);
        x.heads(1);
        C.due("stayed(0, 1)", x.stayed(0, 1), 1);
        C.due("stayed(1, 1)", x.stayed(1, 1), 2);
        were(x, 500000, 500000, 0, 0, 0, 0);
    }

    public static void main(String[] args) {
        heads();
        stayed();
        odds();
        facts();
        free();
        C.end("CountedTest");
    }
}
