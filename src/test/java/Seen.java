import java.util.ArrayList;
import java.util.List;

/**
 * All that can be seen of an object, call by call, in fewer than 300 calls; how many were REFUSED and status() aside.
 * The object is used up behind it. Its image 1 must be one of a new object: back there the tape's text can be read.
 */
final class Seen {
    private final StayPlay play;
    private final List<String> rows = new ArrayList<>();

    private Seen(StayPlay play) {
        this.play = play;
    }

    static List<String> of(StayPlay play) {
        Seen seen = new Seen(play);
        seen.latest();
        // Ahead of numbers(), which changes what it tells and so would hide what was not told anew.
        seen.evenings("");
        seen.numbers("");
        seen.laws();
        seen.counted();
        seen.book();
        seen.image();
        seen.tape();
        return seen.rows;
    }

    private void see(String call, int answer) {
        rows.add(call + " = " + answer);
    }

    private void latest() {
        see("cut()", play.cut());
        see("fault()", play.fault());
        for (int i = 0; i < 6; i++) {
            for (int what = 0; what < 3; what++) {
                see("ran(" + i + ", " + what + ")", play.ran(i, what));
            }
        }
    }

    private void numbers(String when) {
        for (int what = 0; what <= 10; what = what == 4 ? 10 : what + 1) {
            see(when + "count(" + what + ")", play.count(what));
        }
        for (int scene = 0; scene < play.count(0); scene++) {
            for (int what = 0; what < 3; what++) {
                int was = play.put(scene, what, what == 0 ? 1 : 0);
                see(when + "what " + what + " of scene " + scene, was);
                play.put(scene, what, was);
            }
        }
        for (int what = 0; what < 3; what++) {
            for (int sort = 0; sort < 2; sort++) {
                int was = play.sort(sort, what, 0);
                see(when + "what " + what + " of sort " + sort, was);
                play.sort(sort, what, was);
            }
            int was = play.terms(what, 0);
            see(when + "term " + what, was);
            play.terms(what, was);
        }
    }

    private void evenings(String when) {
        for (int chooser = 0; chooser < 4; chooser++) {
            see(when + "worth(" + chooser + ")", play.worth(chooser));
        }
        for (int i = 0; i < 5; i++) {
            see(when + "fixed(" + i + ")", play.fixed(i));
        }
        see(when + "rows()", play.rows());
        for (int sort = 0; sort < 2; sort++) {
            see(when + "loss(" + sort + ")", play.loss(sort));
        }
        for (int many = 0; many <= 5; many++) {
            see(when + "were(" + many + ")", play.were(many));
        }
    }

    private void laws() {
        int was = play.count(10);
        for (int law = 0; law < play.count(1); law++) {
            play.force(law);
            see("chance by law " + law, play.asks(0, 1, 0, -1, 2, 3, 40, 1));
            see("price by law " + law, play.asks(1, 1, 0, -1, 2, 3, 40, 1));
        }
        play.force(was);
    }

    /** Which scenes are in the row of heads, and whether heads were told: what is not can still come to it. */
    private void counted() {
        for (int scene = 0; scene < play.count(0); scene++) {
            see("stayed(" + scene + ", 0)", play.stayed(scene, 0));
        }
    }

    /** Where all that is in the book can be played, it is. */
    private void book() {
        for (int scene = 0; scene < play.count(0); scene++) {
            play.put(scene, 0, 1);
            play.put(scene, 1, 0);
            play.put(scene, 2, 0);
        }
        play.sort(0, 0, 1);
        play.terms(2, 300);
        play.force(-1);
        see("run(0, 0) of the book", play.run(0, 0));
        for (int i = 0; i < 5; i++) {
            see("scene " + i + " of the book", play.ran(i, 0));
        }
    }

    private void image() {
        see("back(0)", play.back(0));
        evenings("image 0, ");
        numbers("image 0, ");
    }

    private void tape() {
        see("back(1)", play.back(1));
        numbers("image 1, ");
        play.scene(1, 0, 0);
        int law = play.law();
        see("the tape as a law", law);
        see("its fault", play.fault());
        play.force(law);
        see("its chance", play.asks(0, 0, 0, -1, 1, 1, 0, 0));
    }
}
