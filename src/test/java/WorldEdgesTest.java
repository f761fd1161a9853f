import java.util.ArrayList;
import java.util.List;

/**
 * The edges that Terms IV and promises 26 to 35 name, and that of 512 calls, a test for each sentence, which stands in
 * about(): heads that were counted, evenings by draws, nights, images and counts.
 */
public final class WorldEdgesTest {
    private static final Check C = new Check();

    private static StayPlay scenes(int many) {
        StayPlay x = new StayPlay();
        for (int i = 0; i < many; i++) {
            x.scene(10 + i, 0, 0);
        }
        return x;
    }

    private static void were(StayPlay x, int... due) {
        for (int many = 0; many < 6; many++) {
            C.due("were(" + many + ")", x.were(many), due[many]);
        }
        C.due("were(-1)", x.were(-1), -1);
        C.due("were(6)", x.were(6), -1);
    }

    private static void counted() {
        C.about("Terms IV: HEADS that were counted: a row of SCENES, 5 at most (each once)");
        StayPlay x = scenes(5);
        C.due("heads(10)", x.heads(10), 0);
        for (int i = 0; i < 5; i++) {
            C.due("stayed(" + (4 - i) + ", 10)", x.stayed(4 - i, 10), i + 1);
            C.due("the same once more", x.stayed(4 - i, 10), -3);
            C.due("count(3)", x.count(3), i + 1);
        }
        for (int i = 0; i < 5; i++) {
            C.due("a sixth", x.stayed(i, 0), -3);
        }
        C.due("count(3)", x.count(3), 5);
        C.about("Terms IV: NEEDS and LONG not asked");
        StayPlay y = scenes(3);
        y.terms(2, 0);
        y.put(0, 1, 6);
        y.put(1, 1, 16);
        y.heads(4);
        C.due("stayed(0, 4)", y.stayed(0, 4), 1);
        C.due("stayed(1, 4)", y.stayed(1, 4), 2);
        y.put(2, 2, 1);
        C.due("stayed(2, 4)", y.stayed(2, 4), 3);
        C.about("Terms IV: (0 .. 10, not more than ahead of it; the first: ahead of all)");
        for (int heads = 0; heads <= 10; heads++) {
            StayPlay z = scenes(3);
            C.due("heads(" + heads + ")", z.heads(heads), 0);
            C.due("one more than ahead of all", z.stayed(1, heads + 1), heads == 10 ? -1 : -3);
            C.due("as many as ahead of all", z.stayed(1, heads), 1);
            C.due("one more than ahead of it", z.stayed(0, heads + 1), heads == 10 ? -1 : -3);
            C.due("one fewer", z.stayed(0, heads - 1), heads == 0 ? -1 : 2);
            C.due("more than ahead of it, fewer than ahead of all", z.stayed(2, heads), heads == 0 ? 2 : -3);
        }
        C.about("Promise 26: the row of SCENES is empty then");
        x.heads(3);
        C.due("count(3)", x.count(3), 0);
        C.due("stayed(0, 4)", x.stayed(0, 4), -3);
        C.due("stayed(0, 3)", x.stayed(0, 3), 1);
    }

    private static void ways() {
        C.about("Terms IV: WERE: of all ways in which PEOPLE at first are so many in all, 0 .. 5 of each SORT, each as likely");
        StayPlay x = scenes(1);
        were(x, -1, -1, -1, -1, -1, -1);
        int[] each = {1000000, 500000, 333333, 250000, 200000, 166666, 200000, 250000, 333333, 500000, 1000000};
        for (int heads = 0; heads <= 10; heads++) {
            x.heads(heads);
            int[] due = new int[6];
            for (int many = 0; many < 6; many++) {
                due[many] = many <= heads && heads - many <= 5 ? each[heads] : 0;
            }
            were(x, due);
        }
        C.about("Terms IV: WERE asks PEOPLE at first, not those that were told");
        x.sort(0, 0, 5);
        x.sort(1, 0, 1);
        x.heads(2);
        were(x, 333333, 333333, 333333, 0, 0, 0);
        C.about("Terms IV: WERE: given what was counted");
        StayPlay given = scenes(2);
        C.force(given, "stays 100;stays 0 if sort=0 and own=1;stays 50 if sort=1 and own=1");
        given.heads(3);
        given.stayed(1, 2);
        // None of three of one sort goes; one of sort 0 goes, one of sort 1 by a half.
        were(given, 0, 666666, 333333, 0, 0, 0);
        C.about("Promise 28: in millionths, cut, exactly");
        StayPlay y = scenes(5);
        C.force(y, "stays 1+sort");
        y.heads(5);
        for (int i = 0; i < 5; i++) {
            y.stayed(i, 5);
        }
        // Each one more of sort 1 makes it 32 times as likely.
        were(y, 968750, 30273, 946, 29, 0, 0);
        y.heads(9);
        for (int i = 0; i < 5; i++) {
            y.stayed(i, 9);
        }
        were(y, 0, 0, 0, 0, 969696, 30303);
        // Worked out by fractions.
        StayPlay z = scenes(3);
        C.force(z, "stays 37+sort*29-own*3+scene");
        z.heads(7);
        z.stayed(2, 6);
        z.stayed(0, 4);
        z.stayed(1, 3);
        were(z, 0, 0, 541235, 317661, 118625, 22477);
        C.about("Promise 28: NONE (it can't be at all, too)");
        y.force(-1);
        were(y, 0, 0, 0, 0, 500000, 500000);
        y.heads(9);
        y.stayed(0, 8);
        were(y, -1, -1, -1, -1, -1, -1);
        C.force(y, "stays 0");
        were(y, -1, -1, -1, -1, -1, -1);
        y.heads(0);
        y.stayed(0, 0);
        were(y, 1000000, 0, 0, 0, 0, 0);
        y.heads(10);
        y.stayed(0, 0);
        were(y, 0, 0, 0, 0, 0, 1000000);
        C.due("a wrong many, though it could be", y.were(6), -1);
    }

    private static void endsAsked() {
        C.about("Terms IV: behind each of the SCENES all are asked, ENDS too");
        StayPlay x = scenes(2);
        x.put(0, 2, 1);
        C.force(x, "stays 100;stays 0 if sort=0");
        x.heads(4);
        x.stayed(0, 1);
        were(x, 0, 0, 0, 1000000, 0, 0);
        x.stayed(1, 1);
        were(x, 0, 0, 0, 1000000, 0, 0);
        C.about("Terms II, IV: before (-1: none), minute, played, heads by the row that was counted");
        String[] tests = {"before=0-1 and scene=1", "before=1", "minute=0 and scene=1", "minute=11 and scene=0",
            "played=0 and scene=1", "played=1 and scene=0"};
        for (int i = 0; i < tests.length; i++) {
            boolean first = i % 2 == 0;
            StayPlay y = scenes(2);
            C.force(y, "stays 100;stays 0 if sort=0 and " + tests[i]);
            y.heads(3);
            y.stayed(1, first ? 2 : 3);
            y.stayed(0, 2);
            were(y, 0, 1000000, 0, 0, 0, 0);
        }
    }

    /** Scene 0 of 10 minutes, then scene 1, an end of 20. */
    private static StayPlay twoScenes(int zero, int one, String law) {
        StayPlay x = new StayPlay();
        x.scene(10, 0, 0);
        x.scene(20, 1, 1);
        x.sort(0, 0, zero);
        x.sort(1, 0, one);
        C.force(x, law);
        return x;
    }

    private static void draws() {
        C.about("Terms IV: s is a SEED (0 .. 1,000,000); s becomes (s times 1103 and 12345) modulo 1,000,003");
        // The seed, and what the first draw of 100 is then: s becomes 12345, 9036, 7933, 0, 1, 1000002, 1000000, 99.
        int[][] seeds = {{0, 45}, {1000000, 36}, {999999, 33}, {870345, 0}, {413408, 1}, {327279, 2}, {241150, 0},
            {633717, 99}};
        for (int[] seed : seeds) {
            C.about("Terms IV: it stays, if that is below the CHANCE, seed " + seed[0]);
            C.due("a chance as great", twoScenes(1, 0, "stays " + seed[1]).run(2, seed[0]), 1);
            C.due("a greater chance", twoScenes(0, 1, "stays " + (seed[1] + 1)).run(2, seed[0]), 2);
            C.due("none", twoScenes(1, 0, "stays 0").run(2, seed[0]), 1);
            C.due("all", twoScenes(0, 1, "stays 100").run(2, seed[0]), 2);
        }
        C.about("Terms IV: SORT by SORT, one of its PEOPLE behind the other, a DRAW of 100");
        // By seed 0 the draws are 45, 41, 89, 57, 60, 50, 73, 41, 86, 76.
        ran(twoScenes(1, 1, "stays 42"), 1, 0, 1);
        ran(twoScenes(2, 1, "stays 50"), 1, 2, 0);
        ran(twoScenes(1, 2, "stays 50"), 1, 1, 1);
        ran(twoScenes(5, 5, "stays 60"), 1, 3, 2);
        ran(twoScenes(5, 5, "stays 61"), 1, 4, 2);
        C.about("Terms IV: a DRAW for each, whether the CHANCE is none or all");
        ran(twoScenes(1, 1, "stays 42;stays 100 if sort=0"), 1, 1, 1);
        ran(twoScenes(1, 1, "stays 42;stays 0 if sort=0"), 1, 0, 1);
        ran(twoScenes(1, 2, "stays 89;stays 0 if sort=0"), 1, 0, 1);
    }

    /** Who is there during a scene by AHEAD and the seed 0. */
    private static void ran(StayPlay x, int scene, int zero, int one) {
        C.due("run(2, 0)", x.run(2, 0), scene + 1);
        C.due("ran(" + scene + ", 0)", x.ran(scene, 0), scene);
        C.due("ran(" + scene + ", 1)", x.ran(scene, 1), zero);
        C.due("ran(" + scene + ", 2)", x.ran(scene, 2), one);
        C.due("ran behind it", x.ran(scene + 1, 0), -1);
    }

    private static void worlds() {
        C.about("Promise 29: kept as the latest WORLD");
        StayPlay x = twoScenes(1, 1, "stays 42");
        C.due("ahead of any", x.ran(0, 0), -1);
        x.run(2, 0);
        x.run(4, 0);
        x.run(0, 1000001);
        x.nights(3, 2, 7, 0);
        x.sort(0, 0, 5);
        x.put(0, 0, 60);
        x.force(-1);
        C.due("ran(1, 2)", x.ran(1, 2), 1);
        C.due("ran(0, 1)", x.ran(0, 1), 1);
        C.due("ran(2, 0)", x.ran(2, 0), -1);
        C.due("run(2, 0) as it is now", x.run(2, 0), 2);
        C.due("ran(1, 1)", x.ran(1, 1), 5);
        C.due("run(0, 0) without a book", x.run(0, 0), 0);
        C.due("ran(0, 0)", x.ran(0, 0), -1);
        C.due("ran(0, 1)", x.ran(0, 1), -1);
        StayPlay y = scenes(5);
        y.sort(0, 0, 1);
        C.due("five scenes", y.run(2, 3), 5);
        C.due("ran(4, 0)", y.ran(4, 0), 4);
        C.due("ran(5, 0)", y.ran(5, 0), -1);
    }

    private static long s;

    private static int draw(int n) {
        s = (s * 1103 + 12345) % 1000003;
        return (int) (s % n);
    }

    /** Nights of the two scenes by hand: who came, who saw the end, minutes that were sat. */
    private static int[] town(int nights, int seed, int[] people, int[] fresh, int chance) {
        s = seed;
        int[] sums = new int[3];
        int[] come = people.clone();
        for (int night = 0; night < nights; night++) {
            int[] stay = new int[2];
            for (int sort = 0; sort < 2; sort++) {
                for (int i = 0; i < come[sort]; i++) {
                    stay[sort] += draw(100) < chance ? 1 : 0;
                }
                sums[0] += come[sort];
                sums[1] += stay[sort];
                sums[2] += 10 * come[sort] + 20 * stay[sort];
            }
            for (int sort = 0; sort < 2; sort++) {
                come[sort] = Math.min(5, stay[sort] + draw(fresh[sort] + 1));
            }
        }
        return sums;
    }

    private static void nights() {
        int[][] people = {{0, 0}, {1, 0}, {0, 1}, {2, 3}, {5, 5}};
        int[][] fresh = {{0, 0}, {1, 0}, {0, 1}, {5, 5}, {2, 4}};
        int[] chances = {0, 1, 50, 65, 99, 100};
        int[] nights = {1, 2, 3, 59, 60};
        C.about("Terms IV: NIGHTS: as many come as saw an END in the one ahead, and a DRAW of FRESH and 1 more, 5 at most");
        for (int i = 0; i < 150; i++) {
            int[] p = people[i % 5];
            int[] f = fresh[i / 5 % 5];
            int chance = chances[i / 25];
            int n = nights[(i + i / 5 + i / 25) % 5];
            int seed = i % 4 == 0 ? 1000000 : i * 6543;
            StayPlay x = twoScenes(p[0], p[1], "stays " + chance);
            x.sort(0, 2, f[0]);
            x.sort(1, 2, f[1]);
            x.book(0);
            x.book(1);
            int[] due = town(n, seed, p, f, chance);
            for (int chooser = 0; chooser < 4; chooser++) {
                for (int what = 0; what < 3 && chooser != 1; what++) {
                    C.due("nights(" + n + ", " + chooser + ", " + seed + ", " + what + ")",
                        x.nights(n, chooser, seed, what), due[what]);
                }
            }
            C.due("PEOPLE stay as they were told", x.sort(0, 0, p[0]), p[0]);
        }
        C.about("Terms IV: 5 at most");
        StayPlay x = twoScenes(5, 5, "stays 100");
        x.sort(0, 2, 5);
        x.sort(1, 2, 5);
        C.due("sixty nights", x.nights(60, 2, 1, 0), 600);
        C.due("all saw the end", x.nights(60, 2, 1, 1), 600);
        C.due("minutes", x.nights(60, 2, 1, 2), 18000);
        C.about("Terms IV: an END that is seen, not the last SCENE");
        x.put(1, 2, 0);
        x.sort(0, 2, 0);
        x.sort(1, 2, 0);
        C.due("came", x.nights(60, 2, 1, 0), 10);
        C.due("saw", x.nights(60, 2, 1, 1), 0);
        C.due("minutes", x.nights(60, 2, 1, 2), 300);
    }

    /** The rows of what is seen, but for what images do not keep. */
    private static List<String> kept(StayPlay x) {
        List<String> kept = new ArrayList<>();
        for (String row : Seen.of(x)) {
            boolean not = row.startsWith("cut") || row.startsWith("fault") || row.startsWith("ran") || row.contains("count(4)")
                || row.contains("tape") || row.startsWith("its") || row.startsWith("image") || row.startsWith("back");
            if (!not) {
                kept.add(row);
            }
        }
        return kept;
    }

    private static StayPlay furnished() {
        StayPlay x = new StayPlay();
        x.image(1);
        for (int i = 0; i < 4; i++) {
            x.scene(11 + i, i == 3 ? 17 : 0, i == 2 ? 1 : 0);
        }
        for (int sort = 0; sort < 2; sort++) {
            for (int what = 0; what < 3; what++) {
                x.sort(sort, what, 1 + sort + what);
            }
        }
        x.terms(0, 2);
        x.terms(1, 3);
        x.terms(2, 60);
        C.law(x, "stays 70-own;price 3");
        C.law(x, "stays 60-heads+scene*5+played*7*sort;price 4");
        x.force(1);
        x.book(2);
        x.book(0);
        x.heads(6);
        x.stayed(3, 5);
        x.stayed(1, 4);
        return x;
    }

    /** Every call that changes what images keep. */
    private static void change(StayPlay x, int which) {
        switch (which) {
            case 0: x.scene(9, 0, 0); break;
            case 1: x.put(0, 0, 60); break;
            case 2: x.put(1, 1, 1); break;
            case 3: x.put(3, 2, 1); break;
            case 4: case 5: case 6: x.sort(0, which - 4, 4); break;
            case 7: case 8: case 9: x.sort(1, which - 7, 5); break;
            case 10: case 11: case 12: x.terms(which - 10, 9); break;
            case 13: C.tape(x, "\u0001\u0000\u0000"); x.row(); break;
            case 14: C.law(x, "stays 1"); break;
            case 15: x.force(0); break;
            case 16: x.force(-1); break;
            case 17: x.book(1); break;
            case 18: x.tear(); break;
            case 19: x.heads(3); break;
            case 20: x.stayed(0, 1); break;
            case 21: x.tear(); x.book(0); x.book(2); break;
            case 22: x.heads(6); x.stayed(1, 5); x.stayed(3, 4); break;
            case 23: x.back(1); C.law(x, "stays 33;price 9"); break;
            default: x.back(1);
        }
    }

    private static void images() {
        C.about("Promise 33: BACK to one all that it keeps is as it was then (IMAGES stay)");
        StayPlay first = furnished();
        first.image(0);
        List<String> due = kept(first);
        for (int which = 0; which <= 24; which++) {
            StayPlay x = furnished();
            x.image(0);
            x.worth(2);
            x.worth(3);
            change(x, which);
            x.worth(2);
            x.worth(3);
            C.due("back(0) behind change " + which, x.back(0), 0);
            change(x, which);
            x.worth(2);
            x.worth(3);
            C.due("back(0) again", x.back(0), 0);
            List<String> got = kept(x);
            C.due("all is as it was ahead of change " + which, got.equals(due) ? 1 : 0, 1);
            StayPlay y = furnished();
            change(y, which);
            y.image(0);
            C.due("change " + which + " is seen", kept(y).equals(due) ? 1 : 0, 0);
        }
        C.about("Promise 33: full rows come back, too");
        StayPlay full = scenes(5);
        C.force(full, "stays 50");
        full.heads(6);
        for (int i = 0; i < 5; i++) {
            full.book(4 - i);
            full.stayed(i, i == 4 ? 2 : 6);
        }
        full.image(0);
        full.tear();
        full.heads(10);
        for (int i = 0; i < 5; i++) {
            full.book(i);
            full.stayed(4 - i, 10);
        }
        full.back(0);
        full.sort(0, 0, 1);
        full.force(-1);
        C.due("run(0, 0)", full.run(0, 0), 5);
        C.due("the book's last", full.ran(4, 0), 0);
        C.force(full, "stays 100;stays 0 if sort=0 and scene=4");
        were(full, 0, 0, 0, 0, 1000000, 0);
        C.about("Promise 32: IMAGE k is kept, in the place of what it was");
        StayPlay x = new StayPlay();
        x.image(0);
        x.scene(1, 0, 0);
        x.image(1);
        x.scene(2, 0, 0);
        x.image(0);
        x.scene(3, 0, 0);
        x.back(1);
        C.due("image 1", x.count(0), 1);
        x.back(0);
        C.due("image 0", x.count(0), 2);
        x.back(1);
        x.image(0);
        x.scene(4, 0, 0);
        x.back(0);
        C.due("image 0, kept anew", x.count(0), 1);
    }

    private static void notKept() {
        C.about("Terms IV: IMAGES keep all but the TAPE, FAULT, CUT, the latest WORLD");
        StayPlay x = furnished();
        C.tape(x, "\u0000");
        x.row();
        C.law(x, "stays");
        x.run(2, 5);
        C.tape(x, "stays 1");
        x.image(0);
        C.tape(x, "\u0000\u0000\u0000\u0000");
        x.row();
        C.law(x, "stays 1;");
        x.terms(2, 300);
        x.tear();
        x.book(1);
        int size = x.run(0, 5);
        C.tape(x, "stays 12;price 8");
        x.back(0);
        C.due("the tape", x.count(4), 16);
        C.due("fault", x.fault(), 8);
        C.due("cut", x.cut(), 2);
        C.due("the latest world has one scene", size, 1);
        C.due("ran(0, 0)", x.ran(0, 0), 1);
        C.due("ran(1, 0)", x.ran(1, 0), -1);
        C.due("the tape's text", x.law(), 2);
        x.force(2);
        C.due("chance", x.asks(0, 0, 0, -1, 1, 1, 0, 0), 12);
        C.about("Promise 34: how many calls were REFUSED (IMAGES do not keep that)");
        StayPlay y = furnished();
        y.image(0);
        y.scene(0, 0, 0);
        y.force(9);
        y.book(0);
        y.scene(1, 0, 0);
        y.scene(1, 0, 0);
        y.row();
        y.end(0);
        y.row();
        y.back(0);
        int[] many = {1, 1, 1, 1, 2};
        for (int i = 0; i < 5; i++) {
            C.due("count(" + (5 + i) + ")", y.count(5 + i), many[i]);
        }
        C.due("status() is back's", y.status(), 0);
    }

    private static void counts() {
        C.about("Promise 34: 0 SCENES, 1 LAWS, 2 SCENES of the BOOK, 3 those of the row of HEADS, 4 bytes of the TAPE");
        StayPlay x = scenes(5);
        for (int i = 0; i < 5; i++) {
            x.book(i);
        }
        for (int i = 0; i < 6; i++) {
            C.law(x, "stays 1");
        }
        x.heads(10);
        for (int i = 0; i < 5; i++) {
            x.stayed(i, 10);
        }
        C.tape(x, " ".repeat(400));
        x.force(5);
        int[] most = {5, 6, 5, 5, 400, 0, 0, 0, 0, 0, 5};
        for (int what = 0; what <= 10; what++) {
            C.due("the most, count(" + what + ")", x.count(what), most[what]);
        }
        for (int i = 1; i <= 3; i++) {
            x.sort(9, 0, 0);
            x.force(6);
            x.book(0);
            x.scene(1, 0, 0);
            x.end(0);
            x.row();
            for (int what = 5; what <= 9; what++) {
                C.due("count(" + what + ")", x.count(what), i);
            }
        }
        C.about("Promise 35: 0 if it was not, or ahead of any");
        StayPlay y = new StayPlay();
        C.due("ahead of any", y.status(), 0);
        y.worth(-1);
        y.end(5);
        C.due("NONE is no refusal", y.status(), 0);
        y.back(0);
        C.due("status()", y.status(), -2);
        C.due("status() twice", y.status(), -2);
    }

    private static void calls() {
        C.about("An object is used for at most 512 calls");
        StayPlay x = new StayPlay();
        x.scene(30, 0, 0);
        x.scene(20, 1, 1);
        for (int i = 2; i < 511; i += 3) {
            int zero = 1 + i % 5;
            x.sort(0, 0, zero);
            C.due("worth(2) by call " + i, x.worth(2), 5000 * zero);
            C.due("worth(3) by call " + i, x.worth(3), 5000 * zero);
        }
        C.due("the 512th", x.run(3, 1), 2);
        StayPlay y = new StayPlay();
        for (int i = 0; i < 511; i++) {
            y.terms(3, 0);
        }
        C.due("the 512th", y.count(5), 511);
        StayPlay z = scenes(1);
        for (int i = 0; i < 170; i++) {
            z.feed(0x73746179, 0x73203520, 0x20202020, 0x20202020, 0x20202020);
            C.due("law()", z.law(), i < 6 ? i : -5);
            C.due("asks", z.asks(0, 0, 0, -1, 1, 1, 0, 0), 100);
        }
        C.due("the 512th", z.count(8), 164);
    }

    public static void main(String[] args) {
        counted();
        ways();
        endsAsked();
        draws();
        worlds();
        nights();
        images();
        notKept();
        counts();
        calls();
        C.end("WorldEdgesTest");
    }
}
