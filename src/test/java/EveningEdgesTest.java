/**
 * The edges that Terms III and promises 14 to 25 name, a test for each sentence, which stands in about():
 * what can be played, what evenings come to, and how the four choosers choose.
 */
public final class EveningEdgesTest {
    private static final Check C = new Check();

    /** Scenes of so many minutes each, that need nothing and are no ends, and one of sort 0. */
    private static StayPlay scenes(int... minutes) {
        StayPlay x = new StayPlay();
        for (int i = 0; i < minutes.length; i++) {
            C.due("scene " + i, x.scene(minutes[i], 0, 0), i);
        }
        x.sort(0, 0, 1);
        return x;
    }

    /** The same, each of which needs the one ahead of it. */
    private static StayPlay chain(int... minutes) {
        StayPlay x = scenes(minutes);
        for (int i = 1; i < minutes.length; i++) {
            x.put(i, 1, 1 << i - 1);
        }
        return x;
    }

    private static void cans(StayPlay x, int... due) {
        for (int played = 0; played < due.length; played++) {
            C.due("can(" + played + ")", x.can(played), due[played]);
        }
        C.due("can() over that", x.can(due.length), -1);
    }

    private static void can() {
        C.about("Terms III: SCENES one behind the other, each once");
        cans(scenes(), 0);
        cans(scenes(1), 1, 0);
        cans(scenes(1, 1, 1), 7, 6, 5, 4, 3, 2, 1, 0);
        C.about("Terms III: each with all that it NEEDS ahead of it");
        StayPlay x = scenes(1, 1, 1);
        x.put(2, 1, 3);
        cans(x, 3, 2, 1, 4, 3, 2, 1, 0);
        x.put(0, 1, 2);
        x.put(1, 1, 1);
        cans(x, 0, 2, 1, 4, 0, 2, 1, 0);
        C.about("Promise 2: NEEDS of SCENES that are not there yet: allowed");
        StayPlay y = new StayPlay();
        y.scene(1, 16, 0);
        cans(y, 0, 0);
        for (int i = 1; i < 4; i++) {
            y.scene(1, 0, 0);
        }
        C.due("still not there", y.can(14), 0);
        y.scene(1, 0, 0);
        C.due("there, not played", y.can(14), 16);
        C.due("played", y.can(30), 1);
        C.due("can(31)", y.can(31), 0);
        C.due("can(32)", y.can(32), -1);
    }

    private static void minutes() {
        C.about("Terms III: all MINUTES together at most LONG");
        StayPlay x = scenes(60, 60, 1);
        cans(x, 7, 6, 5, 0, 3, 0, 0, 0);
        x.terms(2, 121);
        cans(x, 7, 6, 5, 4, 3, 2, 1, 0);
        x.terms(2, 119);
        cans(x, 7, 4, 4, 0, 3, 0, 0, 0);
        x.terms(2, 60);
        cans(x, 7, 0, 0, 0, 0, 0, 0, 0);
        x.terms(2, 59);
        cans(x, 4, 0, 0, 0, 0, 0, 0, 0);
        x.terms(2, 1);
        cans(x, 4, 0, 0, 0, 0, 0, 0, 0);
        x.terms(2, 0);
        cans(x, 0, 0, 0, 0, 0, 0, 0, 0);
        StayPlay y = scenes(60, 60, 60, 60, 60);
        y.terms(2, 300);
        C.due("five of sixty in 300", y.can(15), 16);
        C.due("worth", y.worth(2), 30000);
        y.terms(2, 299);
        C.due("five of sixty in 299", y.can(15), 0);
        C.due("worth", y.worth(2), 24000);
        C.due("worth of FIXED", y.worth(3), 24000);
        C.due("worth of MOST", y.worth(1), 24000);
    }

    private static void ends() {
        C.about("Terms III: behind an END the EVENING is over");
        StayPlay x = scenes(1, 2, 3);
        x.put(1, 2, 1);
        cans(x, 7, 6, 0, 0, 3, 2, 0, 0);
        x.put(0, 2, 1);
        cans(x, 7, 0, 0, 0, 3, 0, 0, 0);
        C.due("worth(2)", x.worth(2), 500);
        x.book(0);
        x.book(2);
        C.due("worth(0)", x.worth(0), 100);
        C.due("played behind the end", x.odds(0, 2), 0);
        C.due("run(0, 0)", x.run(0, 0), 1);
        C.due("next behind an end", x.next(0, 1, 0, 1, 0), -1);
    }

    private static void over() {
        C.about("Terms III: it is over, too, when nobody is there");
        StayPlay x = scenes(10, 30, 20);
        x.book(2);
        x.book(1);
        C.force(x, "stays 0");
        int[] worths = {2000, 1000, 3000, 3000};
        int[] first = {2, 0, 1, 1};
        for (int chooser = 0; chooser < 4; chooser++) {
            C.due("worth(" + chooser + ")", x.worth(chooser), worths[chooser]);
            C.due("run(" + chooser + ", 0)", x.run(chooser, 0), 1);
            C.due("ran(0, 0)", x.ran(0, 0), first[chooser]);
            for (int scene = 0; scene < 3; scene++) {
                C.due("odds(" + chooser + ", " + scene + ")", x.odds(chooser, scene), scene == first[chooser] ? 1000000 : 0);
            }
        }
        C.due("fixed(1)", x.fixed(1), 0);
        C.due("fixed(2)", x.fixed(2), 2);
        x.sort(0, 0, 0);
        for (int chooser = 0; chooser < 4; chooser++) {
            C.due("worth(" + chooser + ") of nobody", x.worth(chooser), 0);
            C.due("run(" + chooser + ", 0) of nobody", x.run(chooser, 0), 0);
            for (int what = 0; what < 8; what++) {
                C.due("odds(" + chooser + ", " + what + ") of nobody", x.odds(chooser, what), what == 3 || what == 4 ? -1 : 0);
            }
        }
        C.due("rows() of nobody", x.rows(), 6);
        C.due("fixed(0) of nobody, the first as a row", x.fixed(0), 0);
        C.due("seeing() of nobody", x.seeing(), 0);
        C.due("evening(0) of nobody", x.evening(0), 0);
        C.due("evening(1) of nobody", x.evening(1), 0);
        C.about("Terms III: it is over, too, when no SCENE can be played");
        StayPlay y = scenes();
        for (int chooser = 0; chooser < 4; chooser++) {
            C.due("worth(" + chooser + ") of no scene", y.worth(chooser), 0);
            C.due("run(" + chooser + ", 0) of no scene", y.run(chooser, 0), 0);
            C.due("next(" + chooser + ", ..) of no scene", y.next(chooser, 0, -1, 1, 0), -1);
            C.due("odds(" + chooser + ", 6) of no scene", y.odds(chooser, 6), 0);
        }
    }

    private static void brings() {
        C.about("Terms III: WEIGHT of its SORT times HEAD times MINUTES, its PRICE, and, if it is an END, WEIGHT times ENDS");
        StayPlay x = scenes(60);
        x.sort(0, 0, 5);
        x.sort(0, 1, 9);
        x.terms(0, 9);
        x.terms(1, 99);
        C.due("5 * 9 * 9 * 60", x.worth(2), 2430000);
        x.put(0, 2, 1);
        C.due("an end: and 5 * 9 * 99", x.worth(2), 2875500);
        x.terms(0, 0);
        C.due("no head", x.worth(2), 445500);
        x.sort(0, 1, 0);
        C.due("no weight", x.worth(2), 0);
        C.force(x, "price 99");
        C.due("prices alone, ends' too", x.worth(2), 49500);
        x.sort(1, 0, 5);
        x.sort(1, 1, 0);
        C.due("of both sorts", x.worth(2), 99000);
        x.terms(1, 0);
        x.sort(1, 1, 9);
        C.due("an end that brings nothing more", x.worth(2), 99000);
    }

    private static void cut() {
        C.about("Terms III: WORTH is told in hundredths, cut");
        int[] chances = {99, 33, 9, 10, 31, 32};
        int[] due = {96, 1, 0, 0, 0, 1};
        for (int i = 0; i < chances.length; i++) {
            // The chance multiplied four times by itself: .96059601, .01185921, .00006561, .0001, .00923521, .01048576.
            StayPlay x = chain(1, 1, 1, 1, 1);
            x.terms(0, 0);
            C.force(x, "stays " + chances[i] + ";price 1 if played=4");
            for (int chooser = 1; chooser < 4; chooser++) {
                C.due("worth by " + chances[i], x.worth(chooser), due[i]);
            }
            C.due("seeing()", x.seeing(), 0);
            C.due("loss(0)", x.loss(0), due[i]);
        }
    }

    private static void figures() {
        C.about("Promise 18: nine figures of it from the (9 k)-th on (k 0 .. 12, the lowest first)");
        StayPlay x = chain(1, 1, 1, 1, 1);
        x.terms(0, 0);
        C.force(x, "stays 99;price 1 if played=4");
        StayPlay y = chain(1, 1, 1, 1, 1);
        y.terms(0, 0);
        y.sort(0, 0, 5);
        y.sort(1, 0, 5);
        // Ten times a hundredth multiplied forty times by itself, the least that can be told.
        C.force(y, "stays 1;price 1 if heads=10 and played=4");
        for (int scene = 0; scene < 5; scene++) {
            x.book(scene);
            y.book(scene);
        }
        for (int chooser = 0; chooser < 4; chooser++) {
            for (int k = 0; k <= 12; k++) {
                C.due("figures of .96059601", x.figures(chooser, k), k == 10 ? 605960100 : k == 11 ? 9 : 0);
                C.due("figures of the least", y.figures(chooser, k), k == 2 ? 1000 : 0);
            }
            C.due("the least in hundredths", y.worth(chooser), 0);
        }
        C.due("one fewer never brings it", y.loss(0), 0);
    }

    private static void book() {
        C.about("Terms III: BOOK: over, where the next one can't be played, or the row ends");
        StayPlay x = scenes(10, 20, 30);
        C.due("no row", x.worth(0), 0);
        C.due("next of no row", x.next(0, 0, -1, 1, 0), -1);
        x.put(1, 1, 4);
        x.book(0);
        C.due("a row of one", x.worth(0), 1000);
        C.due("next behind it", x.next(0, 1, 0, 1, 0), -1);
        x.book(1);
        C.due("the next one needs one that was not played", x.worth(0), 1000);
        C.due("next that can't be", x.next(0, 1, 0, 1, 0), -1);
        x.book(2);
        C.due("and what stands behind that does not come", x.worth(0), 1000);
        C.due("odds of it", x.odds(0, 2), 0);
        C.due("run of it", x.run(0, 3), 1);
        x.put(1, 1, 0);
        C.due("all of it", x.worth(0), 6000);
        x.terms(2, 59);
        C.due("the last one is too long", x.worth(0), 3000);
        x.terms(2, 60);
        C.due("it is not", x.worth(0), 6000);
        C.due("next behind two", x.next(0, 3, 1, 1, 0), 2);
        C.due("next behind all", x.next(0, 7, 2, 1, 0), -1);
        C.about("Promise 15: -3 it is in it; promise 16: the BOOK is empty then");
        C.due("book(2)", x.book(2), -3);
        C.due("worth as it was", x.worth(0), 6000);
        C.due("tear()", x.tear(), 3);
        C.due("worth", x.worth(0), 0);
        C.due("book(2)", x.book(2), 1);
        C.due("worth", x.worth(0), 3000);
    }

    private static void most() {
        C.about("Terms III: MOST: of alike ones the lowest");
        StayPlay x = scenes(1, 9, 5);
        C.due("all stay", x.next(1, 0, -1, 1, 0), 0);
        C.due("0 is played", x.next(1, 1, 0, 1, 0), 1);
        C.force(x, "stays 0");
        C.due("none stays", x.next(1, 0, -1, 1, 0), 0);
        C.due("worth", x.worth(1), 100);
        C.force(x, "stays 40;stays 41 if scene=2");
        C.due("one of a hundred more", x.next(1, 0, -1, 1, 0), 2);
        C.due("alike ones behind it", x.next(1, 4, 2, 1, 0), 0);
        C.about("Terms III: MOST: behind an END all that are there");
        C.force(x, "stays 99");
        x.put(2, 2, 1);
        C.due("an end keeps more than 99", x.next(1, 0, -1, 1, 0), 2);
        x.force(-1);
        C.due("100 is alike, the lowest", x.next(1, 0, -1, 1, 0), 0);
        x.put(2, 2, 0);
        x.put(0, 2, 1);
        C.due("100 is alike, the end is the lowest", x.next(1, 0, -1, 1, 0), 0);
        C.force(x, "stays 0");
        C.due("an end that nobody stays behind by the law", x.next(1, 0, -1, 1, 0), 0);
        x.put(0, 2, 0);
        x.put(1, 2, 1);
        C.due("behind an end all that are there", x.next(1, 0, -1, 1, 0), 1);
        C.about("Terms III: MOST: the one behind which most are there in the MEAN, of both SORTS");
        StayPlay y = scenes(1, 1);
        y.sort(0, 0, 5);
        y.sort(1, 0, 5);
        C.force(y, "stays 50;stays 60 if scene=0 and sort=0;stays 61 if scene=1 and sort=1");
        C.due("five and five", y.next(1, 0, -1, 5, 5), 1);
        C.due("five and four", y.next(1, 0, -1, 5, 4), 0);
        C.due("none and one", y.next(1, 0, -1, 0, 1), 1);
        C.due("one and none", y.next(1, 0, -1, 1, 0), 0);
    }

    /** Scene 0 is an end with the price 9; 1, 2, 3 bring 9 and then 1, if one stays twice by a hundredth. */
    private static StayPlay near() {
        StayPlay x = chain(1, 1, 1, 1);
        x.put(0, 2, 1);
        x.put(1, 1, 0);
        x.terms(0, 0);
        return x;
    }

    private static void ahead() {
        C.about("Terms III: AHEAD: the SCENE by which the EVENING from there on is worth most, exactly");
        StayPlay x = near();
        C.force(x, "stays 1;price 9 if scene<2;price 0 if before>0-1;price 1 if scene=3");
        C.due("a ten thousandth more", x.next(2, 0, -1, 1, 0), 1);
        C.due("worth(2)", x.worth(2), 900);
        C.due("figures(2, 11)", x.figures(2, 11), 90);
        C.due("figures(2, 10)", x.figures(2, 10), 1000000);
        C.due("fixed(0), too", x.fixed(0), 1);
        C.about("Terms III: AHEAD: of alike ones the lowest");
        C.force(x, "stays 1;price 9 if scene<2;price 0 if before>0-1");
        C.due("alike", x.next(2, 0, -1, 1, 0), 0);
        C.due("fixed(0), too", x.fixed(0), 0);
        StayPlay y = scenes(7, 7, 7, 7, 7);
        for (int i = 0; i < 5; i++) {
            C.due("alike ones", y.next(2, (1 << i) - 1, i - 1, 1, 0), i);
            C.due("alike ones", y.next(2, 31 - (1 << i), i == 0 ? 1 : 0, 1, 0), i);
        }
        C.about("Terms III: AHEAD: it always goes on, if it can");
        y.terms(0, 0);
        C.due("worth nothing", y.worth(2), 0);
        for (int i = 0; i < 5; i++) {
            C.due("and yet it goes on", y.next(2, (1 << i) - 1, i - 1, 1, 0), i);
        }
        C.due("run(2, 0)", y.run(2, 0), 5);
        C.due("odds(2, 4)", y.odds(2, 4), 1000000);
        C.due("behind all", y.next(2, 31, 4, 1, 0), -1);
    }

    private static void fixed() {
        C.about("Terms III: FIXED: of alike ones the first as a row");
        StayPlay x = scenes(7, 7, 7, 7, 7);
        for (int i = 0; i < 5; i++) {
            C.due("fixed(" + i + ")", x.fixed(i), i);
        }
        C.due("fixed(5)", x.fixed(5), -1);
        C.due("fixed(-1)", x.fixed(-1), -1);
        x.put(0, 1, 2);
        int[] due = {1, 0, 2, 3, 4};
        for (int i = 0; i < 5; i++) {
            C.due("fixed(" + i + "), 0 needs 1", x.fixed(i), due[i]);
        }
        C.about("Terms III: FIXED: rows that end with an END, or where no SCENE can be played any more");
        int[] free = {1, 1, 2, 6, 24, 120};
        for (int many = 0; many <= 5; many++) {
            C.due("rows of " + many, scenes(new int[] {1, 1, 1, 1, 1}, many).rows(), free[many]);
        }
        StayPlay y = scenes(1, 1, 1, 1, 1);
        // One of so many ends, alone or behind each row of some of the others: with four of those there are
        // 1 + 4 + 12 + 24 + 24 such rows, with three 1 + 3 + 6 + 6, with two 1 + 2 + 2, with one 1 + 1, with none 1.
        int[] ahead = {65, 16, 5, 2, 1};
        for (int ends = 1; ends <= 5; ends++) {
            y.put(ends - 1, 2, 1);
            C.due("rows with " + ends + " ends", y.rows(), ends * ahead[ends - 1]);
        }
        StayPlay z = scenes(30, 30);
        z.terms(2, 30);
        C.due("no time for the other", z.rows(), 2);
        C.due("fixed(1)", z.fixed(1), -1);
        z.terms(2, 29);
        C.due("the row without a scene", z.rows(), 1);
        C.due("fixed(0)", z.fixed(0), -1);
        C.due("next(3, ..)", z.next(3, 0, -1, 1, 0), -1);
        C.due("run(3, 0)", z.run(3, 0), 0);
        C.due("worth(3)", z.worth(3), 0);
        z.terms(2, 300);
        z.put(0, 1, 2);
        z.put(1, 1, 1);
        C.due("each needs the other", z.rows(), 1);
    }

    private static StayPlay scenes(int[] minutes, int many) {
        return scenes(java.util.Arrays.copyOf(minutes, many));
    }

    private static void nextOfFixed() {
        C.about("Promise 19: for FIXED: the next one of its row, if just those ahead of it were played");
        StayPlay x = scenes(1, 2, 3);
        x.put(0, 1, 4);
        x.put(1, 1, 1);
        // The one row is 2, 0, 1.
        C.due("rows()", x.rows(), 1);
        C.due("none", x.next(3, 0, -1, 1, 0), 2);
        C.due("the first", x.next(3, 4, 2, 1, 0), 0);
        C.due("both", x.next(3, 5, 0, 1, 0), 1);
        C.due("both, in another order", x.next(3, 5, 2, 1, 0), 1);
        C.due("all", x.next(3, 7, 1, 1, 0), -1);
        C.due("not the first alone", x.next(3, 1, 0, 1, 0), -1);
        C.due("another", x.next(3, 2, 1, 1, 0), -1);
        C.due("one that is not ahead, too", x.next(3, 6, 2, 1, 0), -1);
        C.due("one that is not ahead, too", x.next(3, 6, 1, 1, 0), -1);
        C.due("two that are not", x.next(3, 3, 1, 1, 0), -1);
    }

    private static void seeing() {
        C.about("Promise 22: what SEEING is worth, in hundredths, cut");
        StayPlay x = scenes(1, 1, 1);
        x.put(1, 1, 1);
        x.put(2, 1, 1);
        x.put(1, 2, 1);
        x.put(2, 2, 1);
        x.sort(0, 0, 2);
        x.terms(0, 0);
        // Two stay by .1089, one by .4422: seen .66, told ahead .4422.
        C.force(x, "stays 33;price 1 if scene=1 and heads=1 or scene=2 and heads=2");
        C.due("worth(2)", x.worth(2), 66);
        C.due("worth(3)", x.worth(3), 44);
        C.due("seeing(), cut behind it was taken off", x.seeing(), 21);
        x.force(-1);
        C.due("nothing", x.seeing(), 0);
    }

    private static void loss() {
        C.about("Promise 23: LOSS of a SORT, in hundredths, cut. NONE (nobody of it, too)");
        StayPlay x = chain(1, 1, 1);
        x.terms(0, 0);
        x.sort(0, 0, 2);
        // Of each .1089 in the mean.
        C.force(x, "stays 33;price 1 if scene=2");
        C.due("worth(2) of two", x.worth(2), 21);
        C.due("loss(0) of two", x.loss(0), 10);
        C.due("loss(1) of none", x.loss(1), -1);
        x.sort(0, 0, 1);
        C.due("loss(0) of the last", x.loss(0), 10);
        x.sort(1, 0, 5);
        x.sort(0, 0, 0);
        C.due("loss(0) of none", x.loss(0), -1);
        C.due("loss(1) of five", x.loss(1), 10);
        x.sort(0, 0, 5);
        C.due("loss(0) of ten", x.loss(0), 10);
        C.due("PEOPLE stay as they were", x.sort(0, 0, 5), 5);
        C.about("Terms III: A SORT's LOSS: WORTH by AHEAD less that with one of its PEOPLE fewer");
        StayPlay y = scenes(10, 20);
        y.put(0, 2, 1);
        y.put(1, 2, 1);
        y.sort(0, 0, 2);
        y.sort(1, 0, 1);
        y.terms(0, 0);
        // With three 3 * 9, with two 2 * 5 by the other scene.
        C.force(y, "price 9 if scene=0 and heads=3;price 5 if scene=1 and heads=2");
        C.due("loss(0)", y.loss(0), 1700);
        C.due("loss(1)", y.loss(1), 1700);
        C.force(y, "price 9 if heads=2");
        C.due("fewer are worth more", y.loss(1), -1800);
        C.force(y, "price 9 if heads=2;price 1 if heads=3");
        C.due("3 less 18", y.loss(1), -1500);
    }

    private static void evening() {
        C.about("Promise 24: for ONE of a SORT, in hundredths, cut");
        StayPlay x = chain(1, 1, 1);
        C.force(x, "stays 33;price 50");
        C.due("1 and .33 and .1089", x.evening(0), 143);
        C.due("nobody of sort 1, but no NONE", x.evening(1), 0);
        C.about("Terms III: if the other SORT's WEIGHT and all PRICES were 0");
        x.sort(1, 0, 5);
        x.sort(1, 1, 9);
        C.due("others there", x.evening(0), 143);
        C.due("those others", x.evening(1), 6475);
        x.sort(0, 1, 0);
        C.due("no weight", x.evening(0), 0);
        C.due("of the others, as before", x.evening(1), 6475);
        C.due("worth with all", x.worth(2) > 10000 ? 1 : 0, 1);
        StayPlay y = scenes(10, 20);
        y.put(0, 2, 1);
        y.put(1, 2, 1);
        y.sort(1, 0, 5);
        // Alone it is worth most to see scene 1, whatever the others' weight and the prices say.
        C.force(y, "price 99 if scene=0");
        C.due("evening(0)", y.evening(0), 2000);
        C.due("next(2, ..)", y.next(2, 0, -1, 1, 5), 0);
        C.due("worth(2)", y.worth(2), 65400);
    }

    private static void odds() {
        C.about("Promise 25: in millionths, cut");
        StayPlay x = chain(1, 1, 1, 1, 1);
        x.put(4, 2, 1);
        C.force(x, "stays 33");
        int[] due = {1000000, 330000, 108900, 35937, 11859, 11859, 988140, 1};
        for (int what = 0; what < 8; what++) {
            for (int chooser = 1; chooser < 4; chooser++) {
                C.due("odds(" + chooser + ", " + what + ")", x.odds(chooser, what), due[what]);
            }
            C.due("odds(0, " + what + ") without a book", x.odds(0, what), 0);
        }
        C.about("Promise 25: how many see an END in the MEAN (7), in hundredths, cut");
        x.sort(0, 0, 5);
        x.sort(1, 0, 5);
        C.due("ten of .01185921", x.odds(2, 7), 11);
        C.about("Terms III: that an END is seen by one at least");
        StayPlay y = scenes(1, 1);
        y.put(1, 1, 1);
        y.put(1, 2, 1);
        y.sort(0, 0, 2);
        C.force(y, "stays 33");
        C.due("both or one", y.odds(2, 5), 551100);
        C.due("the scene, too", y.odds(2, 1), 551100);
        C.due("in the mean", y.odds(2, 7), 66);
        C.due("all are gone ahead of it", y.odds(2, 6), 448900);
        C.about("Terms III: that all are gone ahead of any END (nobody there behind a SCENE that is none)");
        C.force(y, "stays 0");
        C.due("gone behind scene 0", y.odds(2, 6), 1000000);
        C.due("no end", y.odds(2, 5), 0);
        y.put(0, 2, 1);
        C.due("an end that nobody stays behind", y.odds(2, 6), 0);
        C.due("it was seen", y.odds(2, 5), 1000000);
        y.put(0, 2, 0);
        y.terms(2, 1);
        C.due("gone behind the last scene that can be played", y.odds(2, 6), 1000000);
        y.book(0);
        C.due("gone behind the last scene of the book", y.odds(0, 6), 1000000);
        y.force(-1);
        C.due("all stay to the last, and there is no end", y.odds(2, 6), 0);
        C.due("no end is seen", y.odds(2, 5), 0);
        C.due("none sees one", y.odds(2, 7), 0);
        StayPlay z = chain(1, 1, 1, 1, 1);
        C.force(z, "stays 0 if scene=4");
        for (int chooser = 1; chooser < 4; chooser++) {
            C.due("gone behind the fifth of five", z.odds(chooser, 6), 1000000);
        }
        z.put(4, 2, 1);
        C.due("the fifth is an end", z.odds(2, 6), 0);
    }

    /** Five of each sort, five scenes in any order, numbers as great as they can be. */
    private static void full() {
        C.about("Terms I, III: 5 SCENES, 5 PEOPLE of each SORT, the greatest of all");
        StayPlay x = scenes(60, 60, 60, 60, 60);
        for (int sort = 0; sort < 2; sort++) {
            x.sort(sort, 0, 5);
            x.sort(sort, 1, 9);
        }
        x.terms(0, 9);
        x.terms(1, 99);
        x.terms(2, 300);
        for (int i = 4; i >= 0; i--) {
            x.book(i);
        }
        for (int chooser = 0; chooser < 4; chooser++) {
            C.due("worth(" + chooser + "), all stay", x.worth(chooser), 24300000);
            C.due("all gone, all stay", x.odds(chooser, 6), 0);
            C.due("run", x.run(chooser, 1), 5);
            C.due("ran", x.ran(4, 1) * 10 + x.ran(4, 2), 55);
        }
        C.force(x, "stays 99");
        // 48600 times 4.90099501; a hundredth multiplied ten times by itself, some five times over, are all gone.
        for (int chooser = 0; chooser < 4; chooser++) {
            C.due("worth(" + chooser + ")", x.worth(chooser), 23818835);
            C.due("figures(" + chooser + ", 11)", x.figures(chooser, 11), 2381883);
            C.due("figures(" + chooser + ", 10)", x.figures(chooser, 10), 574860000);
            C.due("figures(" + chooser + ", 9)", x.figures(chooser, 9), 0);
            C.due("figures(" + chooser + ", 12)", x.figures(chooser, 12), 0);
            C.due("all gone", x.odds(chooser, 6), 0);
        }
        C.force(x, "stays 0 if played=4");
        for (int chooser = 0; chooser < 4; chooser++) {
            C.due("all gone behind the fifth", x.odds(chooser, 6), 1000000);
        }
        C.due("rows()", x.rows(), 120);
        C.due("seeing()", x.seeing(), 0);
        C.due("loss(0)", x.loss(0), 2430000);
        C.due("evening(1)", x.evening(1), 12150000);
        for (int i = 0; i < 5; i++) {
            x.put(i, 2, 1);
        }
        C.force(x, "price 1000");
        // 10 * (9 * 9 * 60 + 9 * 99 + 99).
        C.due("five ends", x.worth(2), 5850000);
        C.due("ten see one", x.odds(2, 7), 1000);
        C.due("nights", x.nights(60, 2, 1000000, 2), 36000);
    }

    private static void facts() {
        C.about("Terms II: before (-1: none), heads, own, minute, played as the EVENING goes");
        StayPlay x = chain(10, 20, 30);
        x.sort(0, 0, 2);
        x.sort(1, 0, 3);
        x.terms(0, 0);
        C.force(x, "price 1 if before=0-1");
        C.due("nothing before the first alone", x.worth(2), 500);
        C.force(x, "price 1 if before=0");
        C.due("before the second", x.worth(2), 500);
        C.force(x, "price 1 if minute=0;price 2 if minute=30");
        C.due("minutes ahead of it", x.worth(2), 1500);
        C.force(x, "price 1 if played=0;price 3 if played=2");
        C.due("played ahead of it", x.worth(2), 2000);
        C.force(x, "price heads*10+own if played=0");
        // Two of 52 and three of 53.
        C.due("heads and own", x.worth(2), 26300);
        C.force(x, "stays 0 if sort=0;price heads if played=1");
        C.due("three there", x.worth(2), 900);
    }

    /** One answer for each call that goes by FIXED, and one by each of the others. */
    private static int answer(StayPlay x, int call) {
        switch (call) {
            case 0: return x.worth(3);
            case 1: return x.figures(3, 11);
            case 2: return x.next(3, 0, -1, 1, 0);
            case 3: return x.fixed(0);
            case 4: return x.odds(3, 0);
            case 5: return x.run(3, 1) < 0 ? -9 : x.ran(0, 0);
            case 6: return x.nights(1, 3, 1, 2);
            case 7: return x.rows();
            case 8: return x.worth(2);
            case 9: return x.next(2, 0, -1, 1, 0);
            case 10: return x.run(2, 1) < 0 ? -9 : x.ran(0, 0);
            case 11: return x.nights(1, 2, 1, 2);
            case 12: return x.odds(2, 0);
            case 13: return x.worth(1);
            case 14: return x.worth(0);
            case 15: return x.evening(0);
            case 16: return x.loss(0);
            case 17: return x.seeing();
            default: return x.can(0);
        }
    }

    /** Two ends of 10 and 20 minutes, scene 0 in the book, and the price 30 for scene 0 by a law that is not in force. */
    private static StayPlay twoEnds() {
        StayPlay x = scenes(10, 20);
        x.put(0, 2, 1);
        x.put(1, 2, 1);
        x.book(0);
        C.law(x, "price 30 if scene=0");
        return x;
    }

    private static void change(StayPlay x, int which) {
        switch (which) {
            case 0: x.scene(40, 0, 1); break;
            case 1: C.tape(x, "\u0028\u0000\u0001"); x.row(); break;
            case 2: x.put(0, 0, 50); break;
            case 3: x.put(1, 1, 1); break;
            case 4: x.put(0, 2, 0); break;
            case 5: x.sort(0, 0, 4); break;
            case 6: x.sort(0, 1, 9); break;
            case 7: x.terms(0, 9); break;
            case 8: x.terms(1, 99); break;
            case 9: x.terms(2, 15); break;
            case 10: x.force(0); break;
            case 11: x.tear(); break;
            case 12: x.tear(); x.book(1); break;
            default: x.image(0); x.put(0, 0, 55); x.worth(2); x.worth(3); x.back(0);
        }
    }

    /** What was found out ahead of a change is not told behind it. */
    private static void anew() {
        for (int which = 0; which <= 13; which++) {
            C.about("Terms III, behind change " + which + " all goes by what stands then");
            for (int call = 0; call <= 18; call++) {
                for (int ahead = 0; ahead <= 18; ahead++) {
                    StayPlay fresh = twoEnds();
                    change(fresh, which);
                    StayPlay used = twoEnds();
                    answer(used, ahead);
                    change(used, which);
                    C.due("call " + call + ", with call " + ahead + " ahead of it", answer(used, call), answer(fresh, call));
                }
            }
        }
        C.about("Terms III, FIXED by what stands");
        int[][] due = {{4000, 400, 2, 2, 0, 2, 40}, {4000, 400, 2, 2, 0, 2, 40}, {5000, 500, 0, 0, 1000000, 0, 50},
            {1000, 100, 0, 0, 1000000, 0, 10}, {3000, 300, 0, 0, 1000000, 0, 30}};
        for (int which = 0; which < due.length; which++) {
            for (int call = 0; call < 7; call++) {
                StayPlay x = twoEnds();
                C.due("fixed(0)", x.fixed(0), 1);
                change(x, which);
                C.due("call " + call + " behind change " + which, answer(x, call), due[which][call]);
            }
        }
    }

    public static void main(String[] args) {
        can();
        minutes();
        ends();
        over();
        brings();
        cut();
        figures();
        book();
        most();
        ahead();
        fixed();
        nextOfFixed();
        seeing();
        loss();
        evening();
        odds();
        full();
        facts();
        anew();
        C.end("EveningEdgesTest");
    }
}
