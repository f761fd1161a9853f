import java.util.HashMap;
import java.util.List;
import java.util.Map;
import java.util.function.Consumer;
import java.util.function.Supplier;
import java.util.function.ToIntFunction;

/**
 * Every call that can be REFUSED or answer NONE, at each edge of its numbers: what it answers just beyond the edge and
 * just at it, what it does to status() and to the counts of REFUSED calls, and that it changes nothing else.
 */
public final class RefusedTest {
    private static final int MIN = Integer.MIN_VALUE;
    private static final int MAX = Integer.MAX_VALUE;
    private static final int NONE = -1;
    private static final Check C = new Check();
    private static final Map<String, List<String>> UNTOUCHED = new HashMap<>();

    /** Scene 2 is an end and scene 1 needs scene 0; the book is 0, 1; 4, 3, 2 heads were counted by scenes 0, 1. */
    private static StayPlay house(int scenes, int laws) {
        StayPlay x = new StayPlay();
        x.image(1);
        for (int i = 0; i < scenes; i++) {
            x.scene(10 + i, i == 1 ? 1 : 0, i == 2 ? 1 : 0);
        }
        for (int sort = 0; sort < 2; sort++) {
            x.sort(sort, 0, 2 - sort);
            x.sort(sort, 1, 3 - sort);
            x.sort(sort, 2, 1 + 3 * sort);
        }
        x.terms(0, 2);
        x.terms(1, 7);
        x.terms(2, 100);
        C.law(x, "stays");
        for (int i = 0; i < laws; i++) {
            C.law(x, "stays " + (50 + i) + "; price own+" + i);
        }
        C.tape(x, "stays 1 if own");
        x.law();
        x.force(laws - 1);
        x.book(0);
        x.book(1);
        x.heads(4);
        x.stayed(0, 3);
        x.stayed(1, 2);
        x.image(0);
        x.terms(0, 3);
        C.tape(x, "\u0000");
        x.row();
        x.run(2, 77);
        C.tape(x, "stays 37");
        return x;
    }

    private static StayPlay some() {
        return house(3, 2);
    }

    private static StayPlay full() {
        return house(5, 6);
    }

    private static int[] refusals(StayPlay x) {
        int[] many = new int[5];
        for (int i = 0; i < 5; i++) {
            many[i] = x.count(5 + i);
        }
        return many;
    }

    /** The answer of a call, and what it does to status() and to the counts of REFUSED calls. */
    private static void answers(String call, boolean refused, int due, Supplier<StayPlay> made, ToIntFunction<StayPlay> of) {
        StayPlay x = made.get();
        // Ahead of a call that is to be REFUSED status() is 0, ahead of others it is not.
        x.force(refused ? x.count(10) : 99);
        int[] before = refusals(x);
        C.due(call, of.applyAsInt(x), due);
        C.due("status() behind " + call, x.status(), refused ? due : -2);
        // There is no -4, so the codes behind it are counted one place nearer.
        int place = due > -4 ? -1 - due : -2 - due;
        int[] behind = refusals(x);
        for (int i = 0; i < 5; i++) {
            int more = refused && i == place ? 1 : 0;
            C.due("count(" + (5 + i) + ") behind " + call, behind[i], before[i] + more);
        }
    }

    private static void untouched(String call, String name, Supplier<StayPlay> made, ToIntFunction<StayPlay> of) {
        StayPlay x = made.get();
        of.applyAsInt(x);
        List<String> seen = Seen.of(x);
        List<String> due = UNTOUCHED.computeIfAbsent(name, n -> Seen.of(made.get()));
        for (int i = 0; i < Math.max(seen.size(), due.size()); i++) {
            String got = i < seen.size() ? seen.get(i) : "nothing";
            String want = i < due.size() ? due.get(i) : "nothing";
            C.due(got + " behind " + call + ", without it " + want, got.equals(want) ? 1 : 0, 1);
        }
    }

    private static Supplier<StayPlay> behind(Supplier<StayPlay> made, Consumer<StayPlay> calls) {
        return () -> {
            StayPlay x = made.get();
            calls.accept(x);
            return x;
        };
    }

    /** REFUSED: one more is counted, status() tells it, nothing else is changed. */
    private static void refused(String call, int due, String name, Supplier<StayPlay> made, ToIntFunction<StayPlay> of) {
        answers(call, true, due, made, of);
        untouched(call, name, made, of);
    }

    private static void refused(String call, int due, ToIntFunction<StayPlay> of) {
        refused(call, due, "some", RefusedTest::some, of);
    }

    private static void refusedFull(String call, int due, ToIntFunction<StayPlay> of) {
        refused(call, due, "full", RefusedTest::full, of);
    }

    /** NONE: neither counted nor told by status(), and nothing is changed. */
    private static void none(String call, String name, Supplier<StayPlay> made, ToIntFunction<StayPlay> of) {
        answers(call, false, NONE, made, of);
        untouched(call, name, made, of);
    }

    private static void none(String call, ToIntFunction<StayPlay> of) {
        none(call, "some", RefusedTest::some, of);
    }

    /** Taken: status() is 0 behind a call that was REFUSED, and no more are counted. */
    private static void taken(String call, int due, Supplier<StayPlay> made, ToIntFunction<StayPlay> of) {
        StayPlay x = made.get();
        x.terms(3, 0);
        int[] before = refusals(x);
        C.due(call, of.applyAsInt(x), due);
        C.due("status() behind " + call, x.status(), 0);
        for (int i = 0; i < 5; i++) {
            C.due("count(" + (5 + i) + ") behind " + call, x.count(5 + i), before[i]);
        }
    }

    private static void taken(String call, int due, ToIntFunction<StayPlay> of) {
        taken(call, due, RefusedTest::some, of);
    }

    /** An answer that is neither REFUSED nor NONE, of a call that status() does not tell of. */
    private static void told(String call, int due, ToIntFunction<StayPlay> of) {
        answers(call, false, due, RefusedTest::some, of);
    }

    private static void scene() {
        C.about("Promise 2: -1 (NEEDS of itself, too; of SCENES that are not there yet: allowed); -5");
        for (int minutes : new int[] {0, 61, -1, 256, MIN, MAX}) {
            refused("scene(" + minutes + ", 0, 0)", -1, x -> x.scene(minutes, 0, 0));
        }
        for (int needs : new int[] {-1, 32, 33, 8, 15, 31, 64, MIN, MAX}) {
            refused("scene(10, " + needs + ", 0)", -1, x -> x.scene(10, needs, 0));
        }
        for (int end : new int[] {-1, 2, 3, 256, MIN, MAX}) {
            refused("scene(10, 0, " + end + ")", -1, x -> x.scene(10, 0, end));
        }
        refusedFull("a sixth scene", -5, x -> x.scene(10, 0, 0));
        refusedFull("a sixth scene with the greatest needs", -5, x -> x.scene(60, 31, 1));
        refusedFull("a sixth scene of no minutes", -1, x -> x.scene(0, 0, 0));
        refusedFull("a sixth scene that needs itself", -1, x -> x.scene(10, 32, 0));
        refusedFull("a sixth scene, no end nor none", -1, x -> x.scene(10, 0, 2));
        taken("scene(1, 0, 0)", 3, x -> x.scene(1, 0, 0));
        taken("scene(60, 0, 1)", 3, x -> x.scene(60, 0, 1));
        taken("needs of all but itself, one not there yet", 3, x -> x.scene(10, 23, 0));
        taken("the fifth", 4, behind(RefusedTest::some, x -> x.scene(1, 0, 0)), x -> x.scene(10, 15, 0));
    }

    private static void put() {
        C.about("Promise 3: -1; -2");
        for (int what : new int[] {-1, 3, MIN, MAX}) {
            refused("put(0, " + what + ", 1)", -1, x -> x.put(0, what, 1));
        }
        for (int minutes : new int[] {0, 61, -1, MIN, MAX}) {
            refused("put(0, 0, " + minutes + ")", -1, x -> x.put(0, 0, minutes));
        }
        for (int needs : new int[] {-1, 32, 4, 31, MIN, MAX}) {
            refused("put(2, 1, " + needs + ")", -1, x -> x.put(2, 1, needs));
        }
        refused("put(0, 1, 1)", -1, x -> x.put(0, 1, 1));
        for (int end : new int[] {-1, 2, MIN, MAX}) {
            refused("put(1, 2, " + end + ")", -1, x -> x.put(1, 2, end));
        }
        for (int scene : new int[] {3, 4, 5, -1, 32, 34, -30, MIN, MAX}) {
            refused("put(" + scene + ", 0, 10)", -2, x -> x.put(scene, 0, 10));
            refused("put(" + scene + ", 2, 1)", -2, x -> x.put(scene, 2, 1));
            refused("put(" + scene + ", 1, 5)", -2, x -> x.put(scene, 1, 5));
            refused("put(" + scene + ", 0, 61), -1 ahead of -2", -1, x -> x.put(scene, 0, 61));
            refused("put(" + scene + ", 3, 0), -1 ahead of -2", -1, x -> x.put(scene, 3, 0));
        }
        refusedFull("put(5, 0, 1)", -2, x -> x.put(5, 0, 1));
        taken("put(2, 0, 1)", 12, x -> x.put(2, 0, 1));
        taken("put(2, 0, 60)", 12, x -> x.put(2, 0, 60));
        taken("put(1, 1, 29)", 1, x -> x.put(1, 1, 29));
        taken("put(1, 1, 0)", 1, x -> x.put(1, 1, 0));
        taken("put(2, 2, 0)", 1, x -> x.put(2, 2, 0));
        taken("put(0, 2, 1)", 0, x -> x.put(0, 2, 1));
        taken("put(4, 1, 15)", 0, RefusedTest::full, x -> x.put(4, 1, 15));
    }

    private static void sort() {
        C.about("Promise 4: -1");
        int[] tops = {5, 9, 5};
        int[][] was = {{2, 3, 1}, {1, 2, 4}};
        for (int sort : new int[] {-1, 2, MIN, MAX}) {
            refused("sort(" + sort + ", 0, 0)", -1, x -> x.sort(sort, 0, 0));
        }
        for (int what : new int[] {-1, 3, MIN, MAX}) {
            refused("sort(0, " + what + ", 0)", -1, x -> x.sort(0, what, 0));
        }
        for (int sort = 0; sort < 2; sort++) {
            for (int what = 0; what < 3; what++) {
                int s = sort;
                int w = what;
                for (int value : new int[] {-1, tops[what] + 1, MIN, MAX}) {
                    refused("sort(" + s + ", " + w + ", " + value + ")", -1, x -> x.sort(s, w, value));
                }
                taken("sort(" + s + ", " + w + ", 0)", was[s][w], x -> x.sort(s, w, 0));
                taken("sort(" + s + ", " + w + ", the most)", was[s][w], x -> x.sort(s, w, tops[w]));
            }
        }
    }

    private static void terms() {
        C.about("Promise 5: -1");
        int[] tops = {9, 99, 300};
        int[] was = {3, 7, 100};
        for (int what : new int[] {-1, 3, MIN, MAX}) {
            refused("terms(" + what + ", 0)", -1, x -> x.terms(what, 0));
        }
        for (int what = 0; what < 3; what++) {
            int w = what;
            for (int value : new int[] {-1, tops[what] + 1, MIN, MAX}) {
                refused("terms(" + w + ", " + value + ")", -1, x -> x.terms(w, value));
            }
            taken("terms(" + w + ", 0)", was[w], x -> x.terms(w, 0));
            taken("terms(" + w + ", the most)", was[w], x -> x.terms(w, tops[w]));
        }
    }

    /** The text and blanks behind it, so many bytes in all. */
    private static Supplier<StayPlay> taped(int bytes) {
        return behind(RefusedTest::some, x -> C.tape(x, "stays 38" + " ".repeat(bytes - 8)));
    }

    private static void tape() {
        C.about("Promise 6: NONE, if there would be more than 400");
        for (int bytes : new int[] {381, 390, 400}) {
            none("feed behind " + bytes, "taped " + bytes, taped(bytes), x -> x.feed(MIN, MAX, 0, -1, 1));
        }
        answers("feed behind 380", false, 400, taped(380), x -> x.feed(0, 0, 0, 0, 0));
        C.about("Promise 7: NONE, if it has not so many, or n is below 0");
        for (int n : new int[] {9, 20, 400, 401, -1, MIN, MAX}) {
            none("end(" + n + ") of 8", x -> x.end(n));
        }
        none("end(401) of 400", "taped 400", taped(400), x -> x.end(401));
        told("end(8) of 8", 8, x -> x.end(8));
        told("end(0)", 0, x -> x.end(0));
        Supplier<StayPlay> bare = behind(RefusedTest::some, x -> x.end(0));
        none("end(1) of nothing", "bare", bare, x -> x.end(1));
        C.about("Promise 8: -6 the TAPE is empty");
        refused("row() of nothing", -6, "bare", bare, StayPlay::row);
        taken("row() of one byte", 0, behind(RefusedTest::some, x -> x.end(1)), StayPlay::row);
    }

    private static void law() {
        C.about("Promise 10: -5 (ahead of reading it; the TAPE is empty then, too); -6");
        answers("a seventh law", true, -5, RefusedTest::full, StayPlay::law);
        Supplier<StayPlay> bare = behind(RefusedTest::full, x -> x.end(0));
        refused("a seventh law without a text", -5, "bare and full", bare, StayPlay::law);
        Supplier<StayPlay> seventh = behind(RefusedTest::full, StayPlay::law);
        refused("a seventh law again, the tape being empty", -5, "bare and full", seventh, StayPlay::law);
        answers("a seventh law with a fault", true, -5, behind(RefusedTest::full, x -> x.end(3)), StayPlay::law);
        Supplier<StayPlay> wrong = behind(RefusedTest::some, x -> {
            C.tape(x, "stays 2 if own");
        });
        answers("a law with a fault", true, -6, wrong, StayPlay::law);
        // The house has the same fault already, so that nothing but the tape is another.
        Supplier<StayPlay> read = behind(wrong, StayPlay::law);
        untouched("a law with a fault", "bare", behind(RefusedTest::some, x -> x.end(0)), x -> {
            C.tape(x, "stays 2 if own");
            return x.law();
        });
        answers("a law without a text", true, -6, read, StayPlay::law);
        taken("the third law", 2, RefusedTest::some, StayPlay::law);
        taken("the sixth law", 5, behind(() -> house(3, 5), x -> x.end(8)), StayPlay::law);
    }

    private static void force() {
        C.about("Promise 12: -2");
        for (int law : new int[] {2, 3, 5, 6, -2, MIN, MAX}) {
            refused("force(" + law + ")", -2, x -> x.force(law));
        }
        refusedFull("force(6)", -2, x -> x.force(6));
        taken("force(NONE)", 1, x -> x.force(-1));
        taken("force(0)", 1, x -> x.force(0));
        taken("force(1)", 1, x -> x.force(1));
        taken("force(5)", 5, RefusedTest::full, x -> x.force(5));
    }

    private static void asks() {
        C.about("Promise 13: NONE");
        int[] fine = {1, 1, 2, 2, 5, 5, 300, 4};
        int[][] beyond = {{-1, 2}, {-1, 2}, {-1, 3}, {-2, 3}, {-1, 6}, {-1, 6}, {-1, 301}, {-1, 5}};
        int[][] edges = {{0, 1}, {0, 1}, {0, 2}, {-1, 2}, {0, 5}, {0, 5}, {0, 300}, {0, 4}};
        for (int i = 0; i < 8; i++) {
            for (int value : new int[] {beyond[i][0], beyond[i][1], MIN, MAX}) {
                int[] a = fine.clone();
                a[i] = value;
                none("asks with " + value + " at place " + i,
                    x -> x.asks(a[0], a[1], a[2], a[3], a[4], a[5], a[6], a[7]));
            }
            for (int value : edges[i]) {
                int[] a = fine.clone();
                a[i] = value;
                // "stays 51; price own+1" is in force.
                int own = a[1] == 0 ? a[4] : a[5];
                told("asks with " + value + " at place " + i, a[0] == 0 ? 51 : own + 1,
                    x -> x.asks(a[0], a[1], a[2], a[3], a[4], a[5], a[6], a[7]));
            }
        }
    }

    private static void can() {
        C.about("Promise 14: as bits (NONE: over that). NONE");
        for (int played : new int[] {8, 9, 16, 32, -1, -8, MIN, MAX}) {
            none("can(" + played + ")", x -> x.can(played));
        }
        none("can(32)", "full", RefusedTest::full, x -> x.can(32));
        told("can(0)", 5, x -> x.can(0));
        told("can(1)", 6, x -> x.can(1));
        told("can(7)", 0, x -> x.can(7));
        answers("can(31)", false, 0, RefusedTest::full, x -> x.can(31));
    }

    private static void book() {
        C.about("Promise 15: -2; -3 it is in it");
        for (int scene : new int[] {3, 4, 5, -1, 32, MIN, MAX}) {
            refused("book(" + scene + ")", -2, x -> x.book(scene));
        }
        refusedFull("book(5)", -2, x -> x.book(5));
        refused("book(0)", -3, x -> x.book(0));
        refused("book(1)", -3, x -> x.book(1));
        taken("book(2)", 3, x -> x.book(2));
        Supplier<StayPlay> all = behind(RefusedTest::full, x -> {
            x.book(4);
            x.book(2);
            x.book(3);
        });
        for (int scene = 0; scene < 5; scene++) {
            int s = scene;
            refused("book(" + s + ") of a full one", -3, "full book", all, x -> x.book(s));
        }
        C.about("Promise 16: how many it had");
        told("tear()", 2, StayPlay::tear);
        answers("tear() of a full one", false, 5, all, StayPlay::tear);
        answers("tear() of none", false, 0, behind(all, StayPlay::tear), StayPlay::tear);
    }

    private static void evenings() {
        for (int chooser : new int[] {-1, 4, MIN, MAX}) {
            C.about("Promise 17: NONE");
            none("worth(" + chooser + ")", x -> x.worth(chooser));
            C.about("Promise 18: NONE");
            none("figures(" + chooser + ", 11)", x -> x.figures(chooser, 11));
            C.about("Promise 19: NONE");
            none("next(" + chooser + ", 0, NONE, 1, 1)", x -> x.next(chooser, 0, -1, 1, 1));
            C.about("Promise 25: NONE");
            none("odds(" + chooser + ", 0)", x -> x.odds(chooser, 0));
        }
        C.about("Promise 18: k 0 .. 12, NONE");
        for (int k : new int[] {-1, 13, 14, MIN, MAX}) {
            for (int chooser = 0; chooser < 4; chooser++) {
                int c = chooser;
                none("figures(" + c + ", " + k + ")", x -> x.figures(c, k));
            }
        }
        told("figures(2, 0)", 0, x -> x.figures(2, 0));
        told("figures(2, 12)", 0, x -> x.figures(2, 12));
        C.about("Promise 20: NONE");
        // Worth most is 0, 1, 2: the end is the last one.
        for (int i : new int[] {-1, 3, 4, 5, 6, MIN, MAX}) {
            none("fixed(" + i + ")", x -> x.fixed(i));
        }
        told("fixed(0)", 0, x -> x.fixed(0));
        told("fixed(2)", 2, x -> x.fixed(2));
        C.about("Promise 23: NONE (nobody of it, too); promise 24: NONE");
        for (int sort : new int[] {-1, 2, MIN, MAX}) {
            none("loss(" + sort + ")", x -> x.loss(sort));
            none("evening(" + sort + ")", x -> x.evening(sort));
        }
        for (int sort = 0; sort < 2; sort++) {
            int s = sort;
            none("loss of nobody", "nobody of " + s, behind(RefusedTest::some, x -> x.sort(s, 0, 0)), x -> x.loss(s));
        }
        C.about("Promise 25: NONE (no such SCENE, too)");
        for (int what : new int[] {-1, 3, 4, 8, 9, MIN, MAX}) {
            for (int chooser = 0; chooser < 4; chooser++) {
                int c = chooser;
                none("odds(" + c + ", " + what + ")", x -> x.odds(c, what));
            }
        }
        told("odds(0, 0)", 1000000, x -> x.odds(0, 0));
        told("odds(0, 2)", 0, x -> x.odds(0, 2));
        answers("odds(0, 4)", false, 0, RefusedTest::full, x -> x.odds(0, 4));
        told("odds(0, 7)", 0, x -> x.odds(0, 7));
    }

    private static void next() {
        C.about("Promise 19: some were played (bits), the latest of them (NONE without any), 0 .. PEOPLE; NONE");
        for (int chooser = 0; chooser < 4; chooser++) {
            int c = chooser;
            for (int played : new int[] {-1, 8, 9, 32, MIN, MAX}) {
                none("next(" + c + ", " + played + ", 0, 1, 1)", x -> x.next(c, played, 0, 1, 1));
            }
            none("next(" + c + ", MIN, 31, 1, 1)", x -> x.next(c, MIN, 31, 1, 1));
            for (int latest : new int[] {-1, -2, 1, 2, 3, 5, 32, -32, MIN, MAX}) {
                none("next(" + c + ", 1, " + latest + ", 1, 1)", x -> x.next(c, 1, latest, 1, 1));
            }
            for (int latest : new int[] {0, 1, -2, 5, 32, MIN, MAX}) {
                none("next(" + c + ", 0, " + latest + ", 1, 1)", x -> x.next(c, 0, latest, 1, 1));
            }
            for (int zero : new int[] {-1, 3, 6, MIN, MAX}) {
                none("next(" + c + ", 0, NONE, " + zero + ", 1)", x -> x.next(c, 0, -1, zero, 1));
            }
            for (int one : new int[] {-1, 2, 6, MIN, MAX}) {
                none("next(" + c + ", 0, NONE, 1, " + one + ")", x -> x.next(c, 0, -1, 1, one));
            }
            none("next, people that are 0 together", x -> x.next(c, 0, -1, 1, -1));
            C.about("Promise 19: NONE (over, too)");
            none("next with nobody there", x -> x.next(c, 0, -1, 0, 0));
            none("next behind an end", x -> x.next(c, 4, 2, 1, 1));
            none("next behind an end that is not the latest", x -> x.next(c, 5, 0, 1, 1));
            none("next behind all", x -> x.next(c, 7, 1, 1, 1));
            Supplier<StayPlay> late = behind(RefusedTest::some, x -> x.terms(2, 9));
            none("next without time", "late", late, x -> x.next(c, 0, -1, 1, 1));
            C.about("Promise 19: 0 .. PEOPLE");
            int first = c == 1 ? 2 : 0;
            told("next(" + c + ", 0, NONE, 2, 1)", first, x -> x.next(c, 0, -1, 2, 1));
            told("next(" + c + ", 0, NONE, 0, 1)", first, x -> x.next(c, 0, -1, 0, 1));
            told("next(" + c + ", 0, NONE, 2, 0)", first, x -> x.next(c, 0, -1, 2, 0));
            told("next(" + c + ", 1, 0, 1, 1)", c == 1 ? 2 : 1, x -> x.next(c, 1, 0, 1, 1));
        }
    }

    private static void counted() {
        C.about("Promise 26: -1");
        for (int heads : new int[] {-1, 11, 12, MIN, MAX}) {
            refused("heads(" + heads + ")", -1, x -> x.heads(heads));
        }
        taken("heads(0)", 0, x -> x.heads(0));
        taken("heads(10)", 0, x -> x.heads(10));
        C.about("Promise 27: -1; -2; -3 it is in it, heads() was not told, more than ahead of it");
        for (int heads : new int[] {-1, 11, MIN, MAX}) {
            refused("stayed(2, " + heads + ")", -1, x -> x.stayed(2, heads));
            refused("stayed(3, " + heads + "), -1 ahead of -2", -1, x -> x.stayed(3, heads));
            refused("stayed(0, " + heads + "), -1 ahead of -3", -1, x -> x.stayed(0, heads));
        }
        for (int scene : new int[] {3, 4, 5, -1, 32, MIN, MAX}) {
            refused("stayed(" + scene + ", 0)", -2, x -> x.stayed(scene, 0));
            refused("stayed(" + scene + ", 10), -2 ahead of -3", -2, x -> x.stayed(scene, 10));
        }
        refused("stayed(0, 2), it is in it", -3, x -> x.stayed(0, 2));
        refused("stayed(1, 2), it is in it, the latest", -3, x -> x.stayed(1, 2));
        refused("stayed(2, 3), more than ahead of it", -3, x -> x.stayed(2, 3));
        refused("stayed(2, 10), more than ahead of it", -3, x -> x.stayed(2, 10));
        taken("stayed(2, 2), as many as ahead of it", 3, x -> x.stayed(2, 2));
        taken("stayed(2, 0)", 3, x -> x.stayed(2, 0));
        Supplier<StayPlay> untold = behind(RefusedTest::some, x -> x.back(1));
        Supplier<StayPlay> bare = behind(untold, x -> x.scene(10, 0, 0));
        refused("stayed(0, 0), heads() was not told", -3, "untold", bare, x -> x.stayed(0, 0));
        refused("stayed(1, 0), heads() was not told and no scene", -2, "untold", bare, x -> x.stayed(1, 0));
        taken("stayed(0, 10) behind heads(10)", 1, behind(bare, x -> x.heads(10)), x -> x.stayed(0, 10));
        C.about("Promise 28: NONE (heads() was not told, it can't be at all, too)");
        for (int many : new int[] {-1, 6, 10, MIN, MAX}) {
            none("were(" + many + ")", x -> x.were(many));
        }
        Supplier<StayPlay> never = behind(RefusedTest::some, x -> x.force(-1));
        for (int many = 0; many <= 5; many++) {
            int m = many;
            none("were(" + m + "), heads() was not told", "untold", bare, x -> x.were(m));
            none("were(" + m + "), none can go", "never", never, x -> x.were(m));
        }
        told("were(5), more than there were", 0, x -> x.were(5));
    }

    private static void worlds() {
        C.about("Promise 29: -1");
        int[] seeds = {-1, 1000001, 1000003, MIN, MAX};
        for (int chooser : new int[] {-1, 4, MIN, MAX}) {
            refused("run(" + chooser + ", 1)", -1, x -> x.run(chooser, 1));
        }
        for (int chooser = 0; chooser < 4; chooser++) {
            int c = chooser;
            for (int seed : seeds) {
                refused("run(" + c + ", " + seed + ")", -1, x -> x.run(c, seed));
                none("nights(1, " + c + ", " + seed + ", 0)", x -> x.nights(1, c, seed, 0));
            }
            Supplier<StayPlay> nobody = behind(RefusedTest::some, x -> {
                x.sort(0, 0, 0);
                x.sort(1, 0, 0);
            });
            taken("run(" + c + ", 0)", 0, nobody, x -> x.run(c, 0));
            taken("run(" + c + ", 1000000)", 0, nobody, x -> x.run(c, 1000000));
        }
        C.about("Promise 30: NONE");
        int size = some().run(2, 77);
        for (int i : new int[] {-1, size, 5, 6, MIN, MAX}) {
            for (int what = 0; what < 3; what++) {
                int w = what;
                none("ran(" + i + ", " + w + ")", x -> x.ran(i, w));
            }
        }
        for (int what : new int[] {-1, 3, MIN, MAX}) {
            none("ran(0, " + what + ")", x -> x.ran(0, what));
        }
        told("ran(0, 1)", 2, x -> x.ran(0, 1));
        told("ran(0, 2)", 1, x -> x.ran(0, 2));
        C.about("Promise 31: NONE");
        for (int n : new int[] {0, 61, -1, MIN, MAX}) {
            none("nights(" + n + ", 2, 1, 0)", x -> x.nights(n, 2, 1, 0));
        }
        for (int wrong : new int[] {-1, 4, MIN, MAX}) {
            none("nights(1, " + wrong + ", 1, 0)", x -> x.nights(1, wrong, 1, 0));
            none("nights(1, 2, 1, " + wrong + ")", x -> x.nights(1, 2, 1, wrong));
        }
        none("nights(1, 2, 1, 3)", x -> x.nights(1, 2, 1, 3));
        untouched("nights(60, 2, 1, 0)", "some", RefusedTest::some, x -> x.nights(60, 2, 1, 0));
        told("nights(1, 2, 0, 0)", 3, x -> x.nights(1, 2, 0, 0));
        told("nights(1, 2, 1000000, 0)", 3, x -> x.nights(1, 2, 1000000, 0));
    }

    private static void images() {
        C.about("Promise 32: -1");
        for (int k : new int[] {-1, 2, MIN, MAX}) {
            refused("image(" + k + ")", -1, x -> x.image(k));
        }
        C.about("Promise 33: -1; -2 it was not kept");
        for (int k : new int[] {-1, 2, MIN, MAX}) {
            refused("back(" + k + ")", -1, x -> x.back(k));
        }
        taken("image(0)", 0, x -> x.image(0));
        taken("image(1)", 0, x -> x.image(1));
        taken("back(0)", 0, x -> x.back(0));
        taken("back(1)", 0, x -> x.back(1));
        answers("back(0), not kept", true, -2, StayPlay::new, x -> x.back(0));
        answers("back(1), not kept", true, -2, StayPlay::new, x -> x.back(1));
        Supplier<StayPlay> one = behind(StayPlay::new, x -> {
            x.image(1);
            x.scene(10, 0, 0);
        });
        refused("back(0), image 1 alone being kept", -2, "one", one, x -> x.back(0));
        answers("back(1), image 0 alone being kept", true, -2, behind(StayPlay::new, x -> x.image(0)), x -> x.back(1));
    }

    private static void counts() {
        C.about("Promise 34: NONE for others");
        for (int what : new int[] {-1, 11, 12, -5, MIN, MAX}) {
            none("count(" + what + ")", x -> x.count(what));
        }
        told("count(0)", 3, x -> x.count(0));
        told("count(10)", 1, x -> x.count(10));
        answers("count(10), none", false, -1, behind(RefusedTest::some, x -> x.force(-1)), x -> x.count(10));
    }

    /** Whatever only asks leaves all as it is, and status() too. */
    private static void asking() {
        C.about("Promise 35: the latest call of scene, put, .. back alone");
        Map<String, ToIntFunction<StayPlay>> calls = new HashMap<>();
        calls.put("cut", StayPlay::cut);
        calls.put("fault", StayPlay::fault);
        calls.put("asks", x -> x.asks(0, 1, 0, -1, 1, 1, 0, 0));
        calls.put("can", x -> x.can(0));
        calls.put("rows", StayPlay::rows);
        calls.put("seeing", StayPlay::seeing);
        calls.put("fixed", x -> x.fixed(0));
        calls.put("were", x -> x.were(2));
        calls.put("ran", x -> x.ran(0, 0));
        calls.put("count", x -> x.count(5));
        calls.put("status", StayPlay::status);
        for (int chooser = 0; chooser < 4; chooser++) {
            int c = chooser;
            calls.put("worth " + c, x -> x.worth(c));
            calls.put("figures " + c, x -> x.figures(c, 11));
            calls.put("next " + c, x -> x.next(c, 1, 0, 1, 1));
            calls.put("odds " + c, x -> x.odds(c, 5));
            calls.put("nights " + c, x -> x.nights(7, c, 9, 2));
        }
        for (int sort = 0; sort < 2; sort++) {
            int s = sort;
            calls.put("loss " + s, x -> x.loss(s));
            calls.put("evening " + s, x -> x.evening(s));
        }
        for (Map.Entry<String, ToIntFunction<StayPlay>> call : calls.entrySet()) {
            untouched(call.getKey(), "some", RefusedTest::some, call.getValue());
            StayPlay x = some();
            int due = call.getValue().applyAsInt(x);
            for (int status : new int[] {0, -1, -2, -3, -6}) {
                bringsStatus(x, status);
                C.due("status()", x.status(), status);
                int[] before = refusals(x);
                int got = call.getValue().applyAsInt(x);
                boolean same = call.getKey().equals("count") || call.getKey().equals("status") || got == due;
                C.due(call.getKey() + " answers as before", same ? 1 : 0, 1);
                C.due("status() behind " + call.getKey(), x.status(), status);
                for (int i = 0; i < 5; i++) {
                    C.due("count(" + (5 + i) + ") behind " + call.getKey(), x.count(5 + i), before[i]);
                }
            }
        }
    }

    private static void bringsStatus(StayPlay x, int status) {
        switch (status) {
            case -1: x.terms(3, 0); break;
            case -2: x.book(9); break;
            case -3: x.book(0); break;
            case -6: x.end(0); x.row(); break;
            default: x.force(x.count(10));
        }
    }

    public static void main(String[] args) {
        scene();
        put();
        sort();
        terms();
        tape();
        law();
        force();
        asks();
        can();
        book();
        evenings();
        next();
        counted();
        worlds();
        images();
        counts();
        asking();
        C.end("RefusedTest");
    }
}
