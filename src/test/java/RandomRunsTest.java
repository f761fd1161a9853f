import java.util.Random;

/** Runs of calls by chance, always the same ones, held against the Model. */
public final class RandomRunsTest {
    private static int wrong = 0;
    private static int calls = 0;

    private final Random random;
    private final LawTexts texts;
    private final StayPlay play = new StayPlay();
    private final Model model = new Model();
    private final StringBuilder story = new StringBuilder();
    private final boolean small;

    private RandomRunsTest(long seed) {
        random = new Random(seed);
        texts = new LawTexts(random);
        small = seed % 8 > 1;
    }

    private int pick(int n) {
        return random.nextInt(n);
    }

    /** Mostly 0 .. n-1, now and then a number beside it. */
    private int about(int n) {
        int kind = pick(70);
        if (kind == 0) {
            return n + pick(3);
        }
        if (kind == 1) {
            return -1 - pick(2);
        }
        return kind == 2 && pick(3) == 0 ? (pick(2) == 0 ? Integer.MIN_VALUE : Integer.MAX_VALUE) : pick(n);
    }

    private void same(String call, int got, int want) {
        calls++;
        story.append(call).append(" -> ").append(got).append('\n');
        if (got != want) {
            wrong++;
            if (wrong <= 5) {
                System.out.println(story + "  due is " + want);
            }
        }
    }

    private void feed(String text) {
        StringBuilder padded = new StringBuilder(text);
        while (padded.length() % 20 != 0 || padded.length() == 0) {
            padded.append(' ');
        }
        int before = play.count(4);
        for (int i = 0; i < padded.length(); i += 20) {
            int[] n = new int[5];
            for (int j = 0; j < 20; j++) {
                n[j / 4] = n[j / 4] << 8 | padded.charAt(i + j);
            }
            same("feed " + padded.substring(i, i + 20), play.feed(n[0], n[1], n[2], n[3], n[4]),
                model.feed(n[0], n[1], n[2], n[3], n[4]));
        }
        int n = before + text.length() + (pick(12) == 0 ? pick(3) : 0);
        same("end(" + n + ")", play.end(n), model.end(n));
    }

    private void clearTape() {
        int n = about(1);
        same("end(" + n + ")", play.end(n), model.end(n));
    }

    private void layOut() {
        int scenes = 2 + pick(small ? 3 : 4);
        for (int i = 0; i < scenes; i++) {
            scene();
        }
        for (int sort = 0; sort < 2; sort++) {
            int many = pick(small ? 4 : 6);
            same("sort(" + sort + ",0," + many + ")", play.sort(sort, 0, many), model.sort(sort, 0, many));
        }
        newLaw();
        useLaw(Math.max(0, play.count(1) - 1));
    }

    /** A house in which much can come: many scenes, people of both sorts, laws that let some go. */
    private void layOutRich() {
        int scenes = small ? 3 + pick(2) : 5;
        int end = pick(scenes + 1);
        for (int i = 0; i < scenes; i++) {
            int minutes = 5 + pick(40);
            int needs = pick(4) == 0 ? 1 << pick(5) : 0;
            int isEnd = i == end ? 1 : 0;
            same("scene(" + minutes + "," + needs + "," + isEnd + ")", play.scene(minutes, needs, isEnd),
                model.scene(minutes, needs, isEnd));
        }
        for (int sort = 0; sort < 2; sort++) {
            int many = 1 + pick(small ? 2 : 4);
            int weight = pick(10);
            int fresh = pick(4);
            same("sort(" + sort + ",0," + many + ")", play.sort(sort, 0, many), model.sort(sort, 0, many));
            same("sort(" + sort + ",1," + weight + ")", play.sort(sort, 1, weight), model.sort(sort, 1, weight));
            same("sort(" + sort + ",2," + fresh + ")", play.sort(sort, 2, fresh), model.sort(sort, 2, fresh));
        }
        int ends = pick(100);
        same("terms(1," + ends + ")", play.terms(1, ends), model.terms(1, ends));
        int evening = 60 + pick(150);
        same("terms(2," + evening + ")", play.terms(2, evening), model.terms(2, evening));
        feed(texts.mildLaw());
        same("law()", play.law(), model.law());
        useLaw(0);
        for (int i = pick(5); i > 0; i--) {
            int scene = pick(5);
            same("book(" + scene + ")", play.book(scene), model.book(scene));
        }
    }

    private void useLaw(int law) {
        same("force(" + law + ")", play.force(law), model.force(law));
    }

    private void scene() {
        int minutes = pick(4) == 0 ? about(62) : 5 + pick(40);
        int needs = pick(3) > 0 ? 0 : about(32) & (pick(3) == 0 ? -1 : 7);
        int end = pick(6) == 0 ? about(2) : pick(4) / 3;
        same("scene(" + minutes + "," + needs + "," + end + ")", play.scene(minutes, needs, end),
            model.scene(minutes, needs, end));
    }

    private void people() {
        int sort = about(2);
        int what = about(3);
        int value = about(what == 1 ? 10 : small && what == 0 ? 4 : 6);
        value = value == 0 ? pick(3) : value;
        same("sort(" + sort + "," + what + "," + value + ")", play.sort(sort, what, value),
            model.sort(sort, what, value));
    }

    private void newLaw() {
        int kind = pick(12);
        if (pick(10) > 0) {
            clearTape();
        }
        feed(kind > 7 ? texts.mildLaw() : kind < 5 ? texts.law() : kind == 5 ? texts.slipped() : kind == 6 ? texts.heap() : texts.great());
        same("law()", play.law(), model.law());
        same("fault()", play.fault(), model.fault());
    }

    private void newRow() {
        StringBuilder bytes = new StringBuilder();
        for (int i = pick(10); i >= 0; i--) {
            bytes.append((char) (pick(3) == 0 ? pick(256) : pick(64)));
            bytes.append((char) (pick(6) == 0 ? pick(256) : pick(8)));
            if (i > 0 || pick(3) > 0) {
                bytes.append((char) (pick(6) == 0 ? pick(256) : pick(2)));
            }
        }
        clearTape();
        feed(bytes.toString());
        same("row()", play.row(), model.row());
        same("cut()", play.cut(), model.cut());
    }

    private void change() {
        switch (pick(10)) {
            case 0: scene(); break;
            case 1: {
                int scene = about(5);
                int what = about(3);
                int value = what == 0 ? about(61) : what == 1 ? about(pick(3) == 0 ? 32 : 3) : about(2);
                same("put(" + scene + "," + what + "," + value + ")", play.put(scene, what, value),
                    model.put(scene, what, value));
                break;
            }
            case 2: case 3: people(); break;
            case 4: {
                int what = about(3);
                int value = what == 2 ? 60 + pick(200) : about(what == 0 ? 10 : 100);
                value = pick(8) == 0 ? about(310) : value;
                same("terms(" + what + "," + value + ")", play.terms(what, value), model.terms(what, value));
                break;
            }
            case 5: newLaw(); break;
            case 6: {
                useLaw(pick(10) == 0 ? about(7) : Math.max(0, play.count(1) - 1 - pick(2)));
                break;
            }
            case 7: {
                int k = about(2);
                same("image(" + k + ")", play.image(k), model.image(k));
                break;
            }
            case 8: {
                int k = about(2);
                same("back(" + k + ")", play.back(k), model.back(k));
                break;
            }
            default: {
                if (pick(4) == 0) {
                    newRow();
                } else if (pick(8) == 0) {
                    same("tear()", play.tear(), model.tear());
                } else {
                    int scene = about(5);
                    same("book(" + scene + ")", play.book(scene), model.book(scene));
                }
            }
        }
    }

    private void ask() {
        int chooser = about(4);
        int zero = Math.max(0, about(6));
        int one = Math.max(0, about(6));
        switch (pick(14)) {
            case 0: same("worth(" + chooser + ")", play.worth(chooser), model.worth(chooser)); break;
            case 1: {
                int k = about(13);
                same("figures(" + chooser + "," + k + ")", play.figures(chooser, k), model.figures(chooser, k));
                break;
            }
            case 2: case 3: {
                int played = pick(4) == 0 ? about(32) : 0;
                int latest = pick(4) == 0 ? about(5) : -1;
                for (int i = pick(4); i > 0 && latest == -1 | pick(2) == 0 && play.can(played) > 0; i--) {
                    int open = Math.max(0, play.can(played));
                    for (int tries = pick(4); tries > 0 && Integer.bitCount(open) > 1; tries--) {
                        open &= open - 1;
                    }
                    played |= open & -open;
                    latest = open == 0 ? latest : Integer.numberOfTrailingZeros(open);
                }
                if (played > 0 && latest == -1 && pick(2) == 0) {
                    latest = 31 - Integer.numberOfLeadingZeros(played);
                }
                zero = about(model.people()[0] + 1);
                one = about(model.people()[1] + 1);
                same("next(" + chooser + "," + played + "," + latest + "," + zero + "," + one + ")",
                    play.next(chooser, played, latest, zero, one), model.next(chooser, played, latest, zero, one));
                break;
            }
            case 4: {
                int i = about(5);
                same("fixed(" + i + ")", play.fixed(i), model.fixed(i));
                same("rows()", play.rows(), model.rows());
                break;
            }
            case 5: same("seeing()", play.seeing(), model.seeing()); break;
            case 6: {
                int sort = about(2);
                same("loss(" + sort + ")", play.loss(sort), model.loss(sort));
                same("evening(" + sort + ")", play.evening(sort), model.evening(sort));
                break;
            }
            case 7: case 8: {
                int what = about(8);
                same("odds(" + chooser + "," + what + ")", play.odds(chooser, what), model.odds(chooser, what));
                break;
            }
            case 9: askLaw(zero, one); break;
            case 10: counted(); break;
            case 11: {
                int seed = pick(20) == 0 ? about(1000001) : pick(1000001);
                same("run(" + chooser + "," + seed + ")", play.run(chooser, seed), model.run(chooser, seed));
                break;
            }
            case 12: {
                int n = about(61);
                int seed = pick(1000001);
                int what = about(3);
                same("nights(" + n + "," + chooser + "," + seed + "," + what + ")",
                    play.nights(n, chooser, seed, what), model.nights(n, chooser, seed, what));
                break;
            }
            default: {
                int played = about(32);
                same("can(" + played + ")", play.can(played), model.can(played));
            }
        }
    }

    private void askLaw(int zero, int one) {
        for (int i = 0; i < 4; i++) {
            int what = about(2);
            int sort = about(2);
            int scene = pick(6) == 0 ? about(5) : pick(2);
            int before = pick(6) - 1;
            int minute = about(301);
            int played = about(5);
            same("asks(" + what + "," + sort + "," + scene + "," + before + "," + zero + "," + one + "," + minute + "," + played + ")",
                play.asks(what, sort, scene, before, zero, one, minute, played),
                model.asks(what, sort, scene, before, zero, one, minute, played));
        }
    }

    private void counted() {
        if (pick(2) == 0) {
            int heads = about(11);
            same("heads(" + heads + ")", play.heads(heads), model.heads(heads));
        }
        for (int i = pick(3); i > 0; i--) {
            int scene = about(5);
            int heads = about(pick(4) == 0 ? 11 : 4);
            same("stayed(" + scene + "," + heads + ")", play.stayed(scene, heads), model.stayed(scene, heads));
        }
        int many = about(6);
        same("were(" + many + ")", play.were(many), model.were(many));
    }

    private void small() {
        same("status()", play.status(), model.status());
        int what = about(11);
        same("count(" + what + ")", play.count(what), model.count(what));
        int i = about(4);
        int column = about(3);
        same("ran(" + i + "," + column + ")", play.ran(i, column), model.ran(i, column));
    }

    private void go(int rounds, boolean rich) {
        if (rich) {
            layOutRich();
        } else {
            layOut();
        }
        for (int i = 0; i < rounds; i++) {
            if (pick(rich ? 15 : 3) == 0) {
                change();
            } else {
                ask();
            }
            small();
        }
    }

    public static void main(String[] args) {
        int from = args.length > 1 ? Integer.parseInt(args[1]) : 0;
        int to = args.length > 2 ? Integer.parseInt(args[2]) : 60;
        for (int seed = from; seed < to; seed++) {
            new RandomRunsTest(seed).go(60, seed % 2 == 0);
        }
        System.out.println(wrong + " of " + calls + " answers by chance are not as due");
        if (wrong != 0) {
            System.exit(1);
        }
    }
}
