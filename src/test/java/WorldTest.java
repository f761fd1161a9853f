/** Promises 29 to 31: evenings by draws, and nights in a town that talks. */
public final class WorldTest {
    private static final Check C = new Check();

    private static void ran(StayPlay x, int[]... due) {
        for (int i = 0; i <= due.length; i++) {
            for (int what = 0; what < 3; what++) {
                C.due("ran(" + i + ", " + what + ")", x.ran(i, what), i < due.length ? due[i][what] : -1);
            }
            C.due("ran(" + i + ", 3)", x.ran(i, 3), -1);
            C.due("ran(" + i + ", -1)", x.ran(i, -1), -1);
        }
        C.due("ran(-1, 0)", x.ran(-1, 0), -1);
        C.due("ran(MAX, 0)", x.ran(Integer.MAX_VALUE, 0), -1);
    }

    // By seed 5 the draws of 100 are 60, 68, 94, 64, 84, 62, 53, 37, 50, 13, 68, 50.

    private static void run() {
        C.about("promises 29, 30");
        StayPlay x = new StayPlay();
        ran(x);
        x.scene(10, 0, 0);
        x.scene(20, 1, 0);
        x.scene(30, 3, 1);
        x.sort(0, 0, 2);
        x.sort(1, 0, 2);
        // 60 < 65, 68 > 65, then of sort 1: 94 < 95, 64 < 95; then 84, 62 of the one and 53 .. of the others.
        C.force(x, "stays 65; stays 95 if sort=1; stays 85 if scene=1");
        for (int chooser = 1; chooser < 4; chooser++) {
            C.due("run(" + chooser + ", 5)", x.run(chooser, 5), 3);
            ran(x, new int[] {0, 2, 2}, new int[] {1, 1, 2}, new int[] {2, 1, 2});
        }
        C.due("run(0, 5) without a book", x.run(0, 5), 0);
        ran(x);
        x.book(0);
        C.due("run(0, 5)", x.run(0, 5), 1);
        ran(x, new int[] {0, 2, 2});
        int[][] wrong = {{-1, 0}, {4, 0}, {0, -1}, {0, 1000001}, {0, Integer.MIN_VALUE}};
        for (int[] w : wrong) {
            C.due("run(" + w[0] + "," + w[1] + ")", x.run(w[0], w[1]), -1);
            C.due("status()", x.status(), -1);
        }
        ran(x, new int[] {0, 2, 2});
        C.due("run(0, 1000000)", x.run(0, 1000000), 1);
        C.due("run(0, 0)", x.run(0, 0), 1);
        C.due("status()", x.status(), 0);
    }

    /** A draw that is just the chance does not stay. */
    private static void edges() {
        C.about("promise 29, edges");
        StayPlay x = new StayPlay();
        x.scene(10, 0, 0);
        x.scene(20, 1, 0);
        x.sort(0, 0, 1);
        C.force(x, "stays 60");
        C.due("60 of 60", x.run(2, 5), 1);
        C.force(x, "stays 61");
        C.due("60 of 61", x.run(2, 5), 2);
        C.force(x, "stays 0");
        C.due("nobody stays", x.run(2, 5), 1);
        x.force(-1);
        C.due("all stay", x.run(2, 5), 2);
        x.put(0, 2, 1);
        C.due("over behind an end", x.run(2, 5), 1);
        x.sort(0, 0, 0);
        C.due("nobody came", x.run(2, 5), 0);
    }

    private static void oneNight() {
        C.about("promise 31, one night");
        StayPlay x = new StayPlay();
        x.scene(10, 0, 0);
        x.scene(20, 1, 1);
        x.sort(0, 0, 2);
        x.sort(1, 0, 3);
        C.force(x, "stays 65");
        // 60 stays, 68 goes; 94 goes, 64 stays, 84 goes.
        C.due("came", x.nights(1, 2, 5, 0), 5);
        C.due("saw", x.nights(1, 2, 5, 1), 2);
        C.due("sat", x.nights(1, 2, 5, 2), 90);
        C.due("the latest world is not touched", x.ran(0, 0), -1);
        C.due("seed 0", x.nights(1, 2, 0, 0), 5);
        C.due("the greatest seed", x.nights(1, 2, 1000000, 0), 5);
        int[][] wrong = {{0, 2, 5, 0}, {61, 2, 5, 0}, {-1, 2, 5, 0}, {1, 4, 5, 0}, {1, -1, 5, 0}, {1, 2, -1, 0},
            {1, 2, 1000001, 0}, {1, 2, 5, 3}, {1, 2, 5, -1}};
        for (int[] w : wrong) {
            C.due("nights(" + w[0] + "," + w[1] + "," + w[2] + "," + w[3] + ")", x.nights(w[0], w[1], w[2], w[3]), -1);
        }
        C.due("NONE is not a refusal", x.count(5), 0);
    }

    private static void town() {
        C.about("promise 31, later nights");
        StayPlay x = new StayPlay();
        x.scene(10, 0, 0);
        x.scene(20, 1, 1);
        x.sort(0, 0, 2);
        x.sort(1, 0, 3);
        x.sort(0, 2, 2);
        x.sort(1, 2, 5);
        C.force(x, "stays 65");
        // One of each saw it; 658762 modulo 3 is 1 more of sort 0, 624653 modulo 6 is 5 more of sort 1, 5 at most.
        C.due("came", x.nights(2, 2, 5, 0), 5 + 7);
        // Of them by 37, 50 both stay, by 13, 68, 50 two of three, and two more are drawn for.
        int seed = 842550;
        int stay = 4;
        for (int i = 0; i < 2; i++) {
            seed = (int) ((seed * 1103L + 12345) % 1000003);
            stay += seed % 100 < 65 ? 1 : 0;
        }
        C.due("saw", x.nights(2, 2, 5, 1), 2 + stay);
        C.due("sat", x.nights(2, 2, 5, 2), 90 + 70 + 20 * stay);
        for (int chooser = 0; chooser < 4; chooser++) {
            x.force(-1);
            C.due("sixty nights", x.nights(60, chooser, 1000000, 0) > 59 ? 1 : 0, 1);
        }
    }

    /** Without fresh ones a town in which nobody sees an end stays at home. */
    private static void empty() {
        C.about("promise 31, an empty town");
        StayPlay x = new StayPlay();
        x.scene(10, 0, 0);
        x.sort(0, 0, 4);
        C.due("came", x.nights(60, 2, 1, 0), 4);
        C.due("saw", x.nights(60, 2, 1, 1), 0);
        C.due("sat", x.nights(60, 2, 1, 2), 40);
        x.put(0, 2, 1);
        C.due("came", x.nights(60, 2, 1, 0), 240);
        C.due("saw", x.nights(60, 2, 1, 1), 240);
        C.due("sat", x.nights(60, 2, 1, 2), 2400);
    }

    public static void main(String[] args) {
        run();
        edges();
        oneNight();
        town();
        empty();
        C.end("WorldTest");
    }
}
