/** Promises 17 to 25: what evenings come to by each chooser. */
public final class EveningTest {
    private static final Check C = new Check();

    private static void gains() {
        C.about("promise 17, what a scene brings");
        StayPlay x = new StayPlay();
        x.scene(30, 0, 0);
        x.scene(20, 1, 1);
        x.sort(0, 0, 2);
        x.sort(0, 1, 3);
        x.sort(1, 0, 1);
        x.sort(1, 1, 0);
        x.terms(0, 2);
        x.terms(1, 10);
        C.force(x, "stays 50; price 4 if sort=1");
        // 2 * 3 * 2 * 30 and 4; then in the mean 1 * 3 * (2 * 20 + 10) and half of 4.
        C.due("worth(2)", x.worth(2), 51600);
        C.due("worth(1)", x.worth(1), 51600);
        C.due("worth(3)", x.worth(3), 51600);
        C.due("worth(0) without a book", x.worth(0), 0);
        x.terms(0, 0);
        C.due("worth(2) with no head", x.worth(2), 3600);
        x.put(1, 2, 0);
        C.due("worth(2) with no end", x.worth(2), 600);
        x.force(-1);
        C.due("worth(2) with no law", x.worth(2), 0);
        C.due("worth(4)", x.worth(4), -1);
        C.due("worth(-1)", x.worth(-1), -1);
    }

    private static void exact() {
        C.about("promises 17, 18");
        StayPlay x = new StayPlay();
        x.scene(10, 0, 0);
        x.scene(1, 1, 0);
        x.scene(1, 2, 0);
        x.sort(1, 0, 1);
        C.force(x, "stays 33");
        for (int chooser = 0; chooser < 4; chooser++) {
            boolean book = chooser == 0;
            C.due("worth, cut", x.worth(chooser), book ? 0 : 1043);
            for (int k = 0; k <= 12; k++) {
                int due = book ? 0 : k == 11 ? 104 : k == 10 ? 389000000 : 0;
                C.due("figures(" + chooser + "," + k + ")", x.figures(chooser, k), due);
            }
        }
        C.due("figures(2, -1)", x.figures(2, -1), -1);
        C.due("figures(2, 13)", x.figures(2, 13), -1);
        C.due("figures(4, 0)", x.figures(4, 0), -1);
        C.due("figures(-1, 0)", x.figures(-1, 0), -1);
    }

    /** Five people of each sort, five scenes of the greatest worth: the numbers are as long as they get. */
    private static void greatest() {
        C.about("promise 18, the greatest");
        StayPlay x = new StayPlay();
        for (int i = 0; i < 5; i++) {
            x.scene(60, (1 << i) - 1, i / 4);
        }
        for (int sort = 0; sort < 2; sort++) {
            x.sort(sort, 0, 5);
            x.sort(sort, 1, 9);
        }
        x.terms(0, 9);
        x.terms(1, 99);
        x.terms(2, 300);
        C.force(x, "price 1000");
        // 5 scenes, 10 people, 9 * 9 * 60 and 99 each, and 9 * 99 at the end.
        C.due("worth(2)", x.worth(2), 25686000);
        C.due("worth(3)", x.worth(3), 25686000);
        C.due("figures(2, 11)", x.figures(2, 11), 2568600);
        C.due("loss(1)", x.loss(1), 2568600);
        C.force(x, "stays 99");
        // 48600 times 1, 0.99, .. 0.99 multiplied four times, and 8910 at that end.
        C.due("worth(2)", x.worth(2), 24674726);
        for (int k = 0; k <= 12; k++) {
            C.due("figures(3, " + k + ")", x.figures(3, k), x.figures(2, k));
        }
        C.due("figures(2, 11)", x.figures(2, 11), 2467472);
        C.due("figures(2, 10)", x.figures(2, 10), 679351000);
        C.due("odds(2, 7)", x.odds(2, 7), 960);
    }

    private static void book() {
        C.about("promise 17, BOOK");
        StayPlay x = new StayPlay();
        x.scene(30, 0, 0);
        x.scene(20, 1, 1);
        x.scene(10, 0, 0);
        x.sort(0, 0, 1);
        x.book(1);
        x.book(0);
        C.due("the first one can't be played", x.worth(0), 0);
        x.tear();
        x.book(0);
        C.due("the row ends", x.worth(0), 3000);
        x.book(2);
        C.due("a scene comes to it", x.worth(0), 4000);
        x.tear();
        x.book(0);
        x.book(1);
        x.book(2);
        C.due("over behind an end", x.worth(0), 5000);
        C.due("odds of what is behind the end", x.odds(0, 2), 0);
        C.due("next behind an end", x.next(0, 3, 1, 1, 0), -1);
        x.terms(2, 45);
        C.due("over where it is too long, though a later one would do", x.worth(0), 3000);
        C.due("next", x.next(0, 0, -1, 1, 0), 0);
        C.due("next that is too long", x.next(0, 1, 0, 1, 0), -1);
        C.due("next when others were played", x.next(0, 4, 2, 1, 0), -1);
        C.due("worth", x.worth(0), 3000);
        x.tear();
        C.due("worth of no row", x.worth(0), 0);
        C.due("next of no row", x.next(0, 0, -1, 1, 0), -1);
    }

    private static void most() {
        C.about("promises 17, 19, MOST");
        StayPlay x = new StayPlay();
        x.scene(10, 0, 0);
        x.scene(20, 0, 0);
        x.scene(5, 0, 1);
        x.sort(0, 0, 1);
        C.force(x, "stays 50 if scene=0; stays 60 if scene=1");
        C.due("an end keeps all", x.worth(1), 500);
        C.due("next", x.next(1, 0, -1, 1, 0), 2);
        x.put(2, 2, 0);
        C.due("100, 60, 50", x.worth(1), 3100);
        C.due("next", x.next(1, 4, 2, 1, 0), 1);
        C.force(x, "stays 50");
        C.due("of alike ones the lowest", x.next(1, 0, -1, 1, 0), 0);
        C.due("10, 20, 5", x.worth(1), 2125);
        x.put(2, 2, 1);
        C.due("next of what keeps all and an end", x.next(1, 0, -1, 1, 0), 2);
        x.force(-1);
        C.due("an end is alike then", x.next(1, 0, -1, 1, 0), 0);
        x.sort(1, 0, 2);
        C.force(x, "stays 90 if scene=0 and sort=0; stays 10 if scene=0 and sort=1; stays 40 if scene=1; stays 0 if scene=2");
        x.put(2, 2, 0);
        C.due("110 of 300 against 120", x.next(1, 0, -1, 1, 2), 1);
        C.due("100 of 200 against 80", x.next(1, 0, -1, 1, 1), 0);
        C.due("nothing but what keeps nobody", x.next(1, 3, 0, 1, 1), 2);
    }

    /** Whom to show what hangs on who is left: two for scene 2, one for scene 1. */
    private static StayPlay seen() {
        StayPlay x = new StayPlay();
        x.scene(10, 0, 0);
        x.scene(10, 1, 1);
        x.scene(10, 1, 1);
        x.sort(0, 0, 2);
        C.force(x, "stays 50; price 40 if scene=1 and heads=1 or scene=2 and heads=2");
        return x;
    }

    private static void seeing() {
        C.about("promises 17, 19 to 25, AHEAD and FIXED");
        StayPlay x = seen();
        C.due("worth(2)", x.worth(2), 7000);
        C.due("worth(3)", x.worth(3), 5000);
        C.due("seeing()", x.seeing(), 2000);
        C.due("rows()", x.rows(), 2);
        C.due("fixed(0)", x.fixed(0), 0);
        C.due("fixed(1), of alike ones the first", x.fixed(1), 1);
        C.due("fixed(2)", x.fixed(2), -1);
        C.due("fixed(-1)", x.fixed(-1), -1);
        C.due("fixed(MAX)", x.fixed(Integer.MAX_VALUE), -1);
        C.due("next, two left", x.next(2, 1, 0, 2, 0), 2);
        C.due("next, one left", x.next(2, 1, 0, 1, 0), 1);
        C.due("next, nobody left", x.next(2, 1, 0, 0, 0), -1);
        C.due("next of FIXED", x.next(3, 1, 0, 2, 0), 1);
        C.due("next of FIXED, first", x.next(3, 0, -1, 1, 0), 0);
        C.due("next of FIXED, another was played", x.next(3, 4, 2, 1, 0), -1);
        C.due("loss(0)", x.loss(0), 3500);
        C.due("loss(1), nobody", x.loss(1), -1);
        C.due("loss(2)", x.loss(2), -1);
        C.due("loss(-1)", x.loss(-1), -1);
        C.due("evening(0)", x.evening(0), 3000);
        C.due("evening(1)", x.evening(1), 0);
        C.due("evening(2)", x.evening(2), -1);
        C.due("evening(-1)", x.evening(-1), -1);
        int[] ahead = {1000000, 500000, 250000, -1, -1, 750000, 250000, 100, -1};
        int[] fixed = {1000000, 750000, 0, -1, -1, 750000, 250000, 100, -1};
        for (int what = 0; what <= 8; what++) {
            C.due("odds(2, " + what + ")", x.odds(2, what), ahead[what]);
            C.due("odds(3, " + what + ")", x.odds(3, what), fixed[what]);
        }
        C.due("odds(2, -1)", x.odds(2, -1), -1);
        C.due("odds(4, 0)", x.odds(4, 0), -1);
        C.due("odds(-1, 5)", x.odds(-1, 5), -1);
        x.terms(2, 10);
        C.due("the row that is left", x.rows(), 1);
        C.due("fixed(1)", x.fixed(1), -1);
        C.due("all gone, no scene being left", x.odds(2, 6), 250000);
        C.due("no end", x.odds(2, 5), 0);
    }

    private static void wrongNext() {
        C.about("promise 19, wrong inputs");
        StayPlay x = seen();
        for (int chooser = 1; chooser < 4; chooser++) {
            C.due("no such chooser", x.next(chooser == 1 ? -1 : 4, 0, -1, 1, 0), -1);
            C.due("played below 0", x.next(chooser, -1, -1, 1, 0), -1);
            C.due("played beyond what is there", x.next(chooser, 8, 3, 1, 0), -1);
            C.due("no latest", x.next(chooser, 1, -1, 1, 0), -1);
            C.due("a latest that was not played", x.next(chooser, 1, 1, 1, 0), -1);
            C.due("a latest without any", x.next(chooser, 0, 0, 1, 0), -1);
            C.due("a latest far off", x.next(chooser, 1, 32, 1, 0), -1);
            C.due("more people than told", x.next(chooser, 0, -1, 3, 0), -1);
            C.due("people of sort 1, of whom there is none", x.next(chooser, 0, -1, 1, 1), -1);
            C.due("people below 0", x.next(chooser, 0, -1, -1, 0), -1);
            C.due("people below 0", x.next(chooser, 0, -1, 2, -1), -1);
            C.due("over behind an end", x.next(chooser, 3, 1, 1, 0), -1);
            C.due("fine", x.next(chooser, 0, -1, 2, 0), 0);
        }
    }

    private static void losses() {
        C.about("promise 23, below 0");
        StayPlay x = new StayPlay();
        x.scene(10, 0, 0);
        x.sort(1, 0, 2);
        x.sort(1, 1, 0);
        C.force(x, "price 50 if heads=1");
        C.due("worth(2)", x.worth(2), 0);
        C.due("loss(1)", x.loss(1), -5000);
        StayPlay y = new StayPlay();
        y.scene(1, 0, 0);
        y.scene(1, 1, 0);
        y.scene(1, 2, 0);
        y.sort(0, 0, 2);
        y.sort(0, 1, 0);
        C.force(y, "stays 0; stays 33 if heads=1; price 1 if heads=1 and scene=2");
        C.due("loss(0), cut towards 0", y.loss(0), -10);
        y.sort(0, 0, 1);
        C.due("loss(0) of the last one", y.loss(0), 10);
    }

    private static void evenings() {
        C.about("promise 24");
        StayPlay x = new StayPlay();
        x.scene(10, 0, 1);
        x.scene(20, 0, 1);
        x.sort(0, 0, 1);
        x.sort(1, 0, 3);
        x.sort(1, 1, 5);
        x.terms(1, 7);
        C.force(x, "price 99 if scene=0");
        C.due("worth(2), with prices scene 0", x.worth(2), 66800);
        C.due("evening(0), scene 1 without prices", x.evening(0), 2700);
        C.due("evening(1)", x.evening(1), 40500);
        C.due("worth(2) again", x.worth(2), 66800);
    }

    private static void rows() {
        C.about("promise 21");
        StayPlay x = new StayPlay();
        int[] due = {1, 2, 6, 24, 120};
        for (int i = 0; i < 5; i++) {
            x.scene(20, 0, 0);
            C.due("rows() of " + (i + 1), x.rows(), due[i]);
        }
        x.terms(2, 40);
        C.due("rows() of two each", x.rows(), 20);
        x.terms(2, 100);
        x.put(0, 2, 1);
        C.due("rows() with an end", x.rows(), 65);
        x.put(1, 1, 4);
        x.put(2, 1, 2);
        C.due("rows() with two that need each other", x.rows(), 5);
        x.terms(2, 19);
        C.due("rows() of nothing", x.rows(), 1);
        C.due("fixed(0)", x.fixed(0), -1);
        C.due("worth(3)", x.worth(3), 0);
    }

    /** FIXED is chosen by its worth, whatever is asked in between. */
    private static void fixedFollows() {
        C.about("promise 20");
        StayPlay x = new StayPlay();
        x.scene(10, 0, 1);
        x.scene(20, 0, 1);
        C.due("nobody: the first as a row", x.fixed(0), 0);
        x.sort(0, 0, 1);
        C.due("somebody", x.fixed(0), 1);
        x.put(0, 0, 30);
        C.due("longer", x.fixed(0), 0);
        C.force(x, "price 11 if scene=1");
        C.due("dearer", x.fixed(0), 1);
        x.force(-1);
        C.due("no law", x.fixed(0), 0);
        x.terms(2, 25);
        C.due("too long", x.fixed(0), 1);
        x.terms(2, 30);
        x.image(0);
        x.put(1, 0, 60);
        C.due("no time for scene 1", x.fixed(0), 0);
        x.terms(2, 60);
        C.due("time", x.fixed(0), 1);
        x.back(0);
        C.due("back", x.fixed(0), 0);
    }

    public static void main(String[] args) {
        gains();
        exact();
        greatest();
        book();
        most();
        seeing();
        wrongNext();
        losses();
        evenings();
        rows();
        fixedFollows();
        C.end("EveningTest");
    }
}
