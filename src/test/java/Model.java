import java.math.BigDecimal;
import java.math.BigInteger;
import java.math.RoundingMode;
import java.util.ArrayList;
import java.util.Arrays;
import java.util.HashMap;
import java.util.List;
import java.util.Map;
import java.util.TreeMap;

/**
 * The document once more, as slowly and plainly as it can be said: rows of scenes are lists, chances are
 * decimal fractions, evenings are followed forwards by who is there. RandomRunsTest holds the program against it.
 */
final class Model {
    private static final int NONE = -1;
    private static final BigDecimal ONE = BigDecimal.ONE;
    private static final BigDecimal ZERO = BigDecimal.ZERO;

    /** All that images keep. */
    private static final class State {
        List<int[]> scenes = new ArrayList<>();
        int[][] sorts = {{0, 1, 0}, {0, 1, 0}};
        int[] terms = {1, 0, 120};
        List<ModelLaw> laws = new ArrayList<>();
        int force = NONE;
        List<Integer> book = new ArrayList<>();
        Integer firstHeads = null;
        List<int[]> counted = new ArrayList<>();

        State copy() {
            State s = new State();
            for (int[] scene : scenes) {
                s.scenes.add(scene.clone());
            }
            s.sorts = new int[][] {sorts[0].clone(), sorts[1].clone()};
            s.terms = terms.clone();
            s.laws = new ArrayList<>(laws);
            s.force = force;
            s.book = new ArrayList<>(book);
            s.firstHeads = firstHeads;
            s.counted = new ArrayList<>(counted);
            return s;
        }
    }

    private State s = new State();
    private final State[] images = new State[2];
    private String tape = "";
    private int fault = NONE;
    private int cut = 0;
    private final Map<Integer, Integer> refused = new TreeMap<>();
    private int status = 0;
    private List<int[]> world = new ArrayList<>();
    private long seed;

    private int no(int code) {
        refused.merge(code, 1, Integer::sum);
        status = code;
        return code;
    }

    private int yes(int answer) {
        status = 0;
        return answer;
    }

    private static boolean in(int value, int low, int high) {
        return low <= value && value <= high;
    }

    private boolean there(int scene) {
        return in(scene, 0, s.scenes.size() - 1);
    }

    private static boolean has(int bits, int i) {
        return in(i, 0, 30) && (bits & 1 << i) != 0;
    }

    private boolean possible(int number, int minutes, int needs, int end) {
        return in(minutes, 1, 60) && in(needs, 0, 31) && in(end, 0, 1) && !has(needs, number);
    }

    int scene(int minutes, int needs, int end) {
        if (!possible(s.scenes.size(), minutes, needs, end)) {
            return no(-1);
        }
        if (s.scenes.size() == 5) {
            return no(-5);
        }
        s.scenes.add(new int[] {minutes, needs, end});
        return yes(s.scenes.size() - 1);
    }

    int put(int scene, int what, int value) {
        if (!in(what, 0, 2) || what == 0 && !in(value, 1, 60) || what == 2 && !in(value, 0, 1)) {
            return no(-1);
        }
        if (what == 1 && (!in(value, 0, 31) || has(value, scene))) {
            return no(-1);
        }
        if (!there(scene)) {
            return no(-2);
        }
        int was = s.scenes.get(scene)[what];
        s.scenes.get(scene)[what] = value;
        return yes(was);
    }

    int sort(int sort, int what, int value) {
        if (!in(sort, 0, 1) || !in(what, 0, 2) || !in(value, 0, new int[] {5, 9, 5}[what])) {
            return no(-1);
        }
        int was = s.sorts[sort][what];
        s.sorts[sort][what] = value;
        return yes(was);
    }

    int terms(int what, int value) {
        if (!in(what, 0, 2) || !in(value, 0, new int[] {9, 99, 300}[what])) {
            return no(-1);
        }
        int was = s.terms[what];
        s.terms[what] = value;
        return yes(was);
    }

    int feed(int a, int b, int c, int d, int e) {
        if (tape.length() > 380) {
            return NONE;
        }
        for (int number : new int[] {a, b, c, d, e}) {
            tape += (char) (number >> 24 & 255);
            tape += (char) (number >> 16 & 255);
            tape += (char) (number >> 8 & 255);
            tape += (char) (number & 255);
        }
        return tape.length();
    }

    int end(int n) {
        if (!in(n, 0, tape.length())) {
            return NONE;
        }
        tape = tape.substring(0, n);
        return n;
    }

    int row() {
        if (tape.isEmpty()) {
            return no(-6);
        }
        String bytes = tape;
        tape = "";
        int came = 0;
        cut = 0;
        while (!bytes.isEmpty()) {
            String three = bytes.substring(0, Math.min(3, bytes.length()));
            bytes = bytes.substring(three.length());
            if (three.length() == 3 && s.scenes.size() < 5
                    && possible(s.scenes.size(), three.charAt(0), three.charAt(1), three.charAt(2))) {
                s.scenes.add(new int[] {three.charAt(0), three.charAt(1), three.charAt(2)});
                came++;
            } else {
                cut++;
            }
        }
        return yes(came);
    }

    int cut() {
        return cut;
    }

    int law() {
        String text = tape;
        tape = "";
        if (s.laws.size() == 6) {
            return no(-5);
        }
        fault = ModelLaw.fault(text);
        if (fault != NONE) {
            return no(-6);
        }
        s.laws.add(new ModelLaw(text));
        return yes(s.laws.size() - 1);
    }

    int fault() {
        return fault;
    }

    int force(int law) {
        if (!in(law, NONE, s.laws.size() - 1)) {
            return no(-2);
        }
        int was = s.force;
        s.force = law;
        return yes(was);
    }

    private int told(int what, int sort, int scene, int before, int[] crowd, int minute, int played) {
        Long told = null;
        if (s.force != NONE) {
            long[] facts = {sort, scene, before, crowd[0] + crowd[1], crowd[sort], minute, played};
            told = s.laws.get(s.force).tells(what == 0 ? "stays" : "price", facts);
        }
        if (told == null) {
            return what == 0 ? 100 : 0;
        }
        return (int) Math.max(0, Math.min(what == 0 ? 100 : 99, told));
    }

    int asks(int what, int sort, int scene, int before, int zero, int one, int minute, int played) {
        boolean fine = in(what, 0, 1) && in(sort, 0, 1) && there(scene) && (before == NONE || there(before))
            && in(zero, 0, 5) && in(one, 0, 5) && in(minute, 0, 300) && in(played, 0, 4);
        return fine ? told(what, sort, scene, before, new int[] {zero, one}, minute, played) : NONE;
    }

    // ---- evenings

    private static int bits(List<Integer> played) {
        int bits = 0;
        for (int scene : played) {
            bits |= 1 << scene;
        }
        return bits;
    }

    private static List<Integer> with(List<Integer> played, int scene) {
        List<Integer> longer = new ArrayList<>(played);
        longer.add(scene);
        return longer;
    }

    private int minutes(int bits) {
        int sum = 0;
        for (int i = 0; i < s.scenes.size(); i++) {
            sum += has(bits, i) ? s.scenes.get(i)[0] : 0;
        }
        return sum;
    }

    private List<Integer> playable(int bits) {
        List<Integer> list = new ArrayList<>();
        for (int i = 0; i < s.scenes.size(); i++) {
            int[] scene = s.scenes.get(i);
            if (!has(bits, i) && (scene[1] & bits) == scene[1] && minutes(bits) + scene[0] <= s.terms[2]) {
                list.add(i);
            }
        }
        return list;
    }

    int can(int played) {
        if (!in(played, 0, (1 << s.scenes.size()) - 1)) {
            return NONE;
        }
        for (int i = 0; i < s.scenes.size(); i++) {
            if (has(played, i) && isEnd(i)) {
                return 0;
            }
        }
        return bits(playable(played));
    }

    int book(int scene) {
        if (!there(scene)) {
            return no(-2);
        }
        if (s.book.contains(scene)) {
            return no(-3);
        }
        s.book.add(scene);
        return yes(s.book.size());
    }

    int tear() {
        int had = s.book.size();
        s.book.clear();
        return had;
    }

    private boolean isEnd(int scene) {
        return s.scenes.get(scene)[2] == 1;
    }

    private static int latest(List<Integer> played) {
        return played.isEmpty() ? NONE : played.get(played.size() - 1);
    }

    private int chance(int sort, int scene, List<Integer> played, int[] crowd) {
        return told(0, sort, scene, latest(played), crowd, minutes(bits(played)), played.size());
    }

    /** What a scene brings; the weights and whether prices count are told. */
    private BigDecimal brings(int scene, List<Integer> played, int[] crowd, int[] weights, boolean prices) {
        long sum = 0;
        for (int sort = 0; sort < 2; sort++) {
            for (int person = 0; person < crowd[sort]; person++) {
                sum += (long) weights[sort] * s.terms[0] * s.scenes.get(scene)[0];
                if (prices) {
                    sum += told(1, sort, scene, latest(played), crowd, minutes(bits(played)), played.size());
                }
                sum += isEnd(scene) ? (long) weights[sort] * s.terms[1] : 0;
            }
        }
        return BigDecimal.valueOf(sum);
    }

    private int[] weights() {
        return new int[] {s.sorts[0][1], s.sorts[1][1]};
    }

    private static BigDecimal binomial(int n, int k, int percent) {
        BigInteger ways = BigInteger.ONE;
        for (int i = 0; i < k; i++) {
            ways = ways.multiply(BigInteger.valueOf(n - i)).divide(BigInteger.valueOf(i + 1));
        }
        BigDecimal stay = BigDecimal.valueOf(percent, 2).pow(k);
        return new BigDecimal(ways).multiply(stay).multiply(BigDecimal.valueOf(100 - percent, 2).pow(n - k));
    }

    /** AHEAD: the best scene and its worth; kept by what can matter, the set, the latest, and who is there. */
    private final class Best {
        final Map<String, BigDecimal> worths = new HashMap<>();
        final Map<String, Integer> scenes = new HashMap<>();
        final int[] weights;
        final boolean prices;

        Best(int[] weights, boolean prices) {
            this.weights = weights;
            this.prices = prices;
        }

        String key(List<Integer> played, int[] crowd) {
            return bits(played) + " " + latest(played) + " " + crowd[0] + " " + crowd[1];
        }

        int scene(List<Integer> played, int[] crowd) {
            worth(played, crowd);
            return scenes.getOrDefault(key(played, crowd), NONE);
        }

        BigDecimal worth(List<Integer> played, int[] crowd) {
            if (crowd[0] + crowd[1] == 0 || playable(bits(played)).isEmpty()) {
                return ZERO;
            }
            String key = key(played, crowd);
            if (worths.containsKey(key)) {
                return worths.get(key);
            }
            BigDecimal best = null;
            int which = NONE;
            for (int scene : playable(bits(played))) {
                BigDecimal worth = brings(scene, played, crowd, weights, prices);
                if (!isEnd(scene)) {
                    worth = worth.add(behind(scene, played, crowd));
                }
                if (best == null || worth.compareTo(best) > 0) {
                    best = worth;
                    which = scene;
                }
            }
            worths.put(key, best);
            scenes.put(key, which);
            return best;
        }

        private BigDecimal behind(int scene, List<Integer> played, int[] crowd) {
            BigDecimal sum = ZERO;
            int zero = chance(0, scene, played, crowd);
            int one = chance(1, scene, played, crowd);
            for (int a = 0; a <= crowd[0]; a++) {
                for (int b = 0; b <= crowd[1]; b++) {
                    BigDecimal odds = binomial(crowd[0], a, zero).multiply(binomial(crowd[1], b, one));
                    if (odds.signum() != 0) {
                        sum = sum.add(odds.multiply(worth(with(played, scene), new int[] {a, b})));
                    }
                }
            }
            return sum;
        }
    }

    int[] people() {
        return new int[] {s.sorts[0][0], s.sorts[1][0]};
    }

    private int follow(List<Integer> row, List<Integer> played) {
        int k = played.size();
        if (k >= row.size() || bits(row.subList(0, k)) != bits(played)) {
            return NONE;
        }
        return playable(bits(played)).contains(row.get(k)) ? row.get(k) : NONE;
    }

    private int keepsMost(List<Integer> played, int[] crowd) {
        int best = NONE;
        int most = NONE;
        for (int scene : playable(bits(played))) {
            int mean = isEnd(scene) ? 100 * (crowd[0] + crowd[1])
                : crowd[0] * chance(0, scene, played, crowd) + crowd[1] * chance(1, scene, played, crowd);
            if (mean > most) {
                most = mean;
                best = scene;
            }
        }
        return best;
    }

    /** One way to choose, with what it needs to remember. */
    private final class Way {
        final int chooser;
        final List<Integer> row;
        final Best best = new Best(weights(), true);

        Way(int chooser) {
            this.chooser = chooser;
            this.row = chooser == 0 ? s.book : chooser == 3 ? fixedRow() : null;
        }

        Way(List<Integer> row) {
            this.chooser = 0;
            this.row = row;
        }

        int next(List<Integer> played, int[] crowd) {
            if (row != null) {
                return follow(row, played);
            }
            return chooser == 1 ? keepsMost(played, crowd) : best.scene(played, crowd);
        }
    }

    /** Sums over all that can come: worth, chance of each scene, an end, all gone, viewers. */
    private final class Forward {
        BigDecimal worth = ZERO;
        final BigDecimal[] odds = new BigDecimal[8];

        Forward(Way way, int[] crowd) {
            Arrays.fill(odds, ZERO);
            Map<String, Object[]> now = new TreeMap<>();
            now.put("", new Object[] {new ArrayList<Integer>(), crowd, ONE});
            for (int i = 0; i < 6; i++) {
                Map<String, Object[]> then = new TreeMap<>();
                for (Object[] place : now.values()) {
                    step(way, place, then);
                }
                now = then;
            }
        }

        @SuppressWarnings("unchecked")
        private void step(Way way, Object[] place, Map<String, Object[]> then) {
            List<Integer> played = (List<Integer>) place[0];
            int[] crowd = (int[]) place[1];
            BigDecimal likely = (BigDecimal) place[2];
            if (crowd[0] + crowd[1] == 0) {
                odds[6] = played.isEmpty() ? odds[6] : odds[6].add(likely);
                return;
            }
            int scene = way.next(played, crowd);
            if (scene == NONE) {
                return;
            }
            worth = worth.add(likely.multiply(brings(scene, played, crowd, weights(), true)));
            odds[scene] = odds[scene].add(likely);
            if (isEnd(scene)) {
                odds[5] = odds[5].add(likely);
                odds[7] = odds[7].add(likely.multiply(BigDecimal.valueOf(crowd[0] + crowd[1])));
                return;
            }
            int zero = chance(0, scene, played, crowd);
            int one = chance(1, scene, played, crowd);
            for (int a = 0; a <= crowd[0]; a++) {
                for (int b = 0; b <= crowd[1]; b++) {
                    BigDecimal part = binomial(crowd[0], a, zero).multiply(binomial(crowd[1], b, one));
                    if (part.signum() != 0) {
                        List<Integer> more = with(played, scene);
                        Object[] old = then.get(more + " " + a + " " + b);
                        BigDecimal was = old == null ? ZERO : (BigDecimal) old[2];
                        then.put(more + " " + a + " " + b,
                            new Object[] {more, new int[] {a, b}, was.add(likely.multiply(part))});
                    }
                }
            }
        }
    }

    private void allRows(List<Integer> row, List<List<Integer>> rows) {
        List<Integer> playable = playable(bits(row));
        if (playable.isEmpty() || !row.isEmpty() && isEnd(latest(row))) {
            rows.add(row);
            return;
        }
        for (int scene : playable) {
            allRows(with(row, scene), rows);
        }
    }

    private List<List<Integer>> allRows() {
        List<List<Integer>> rows = new ArrayList<>();
        allRows(new ArrayList<>(), rows);
        return rows;
    }

    private List<Integer> fixedRow() {
        List<Integer> best = null;
        BigDecimal most = null;
        for (List<Integer> row : allRows()) {
            BigDecimal worth = new Forward(new Way(row), people()).worth;
            if (best == null || worth.compareTo(most) > 0) {
                best = row;
                most = worth;
            }
        }
        return best;
    }

    private BigDecimal exactly(int chooser) {
        if (chooser == 2) {
            BigDecimal backwards = new Best(weights(), true).worth(new ArrayList<>(), people());
            BigDecimal forwards = new Forward(new Way(2), people()).worth;
            if (backwards.compareTo(forwards) != 0) {
                throw new IllegalStateException("the model does not agree with itself");
            }
            return backwards;
        }
        return new Forward(new Way(chooser), people()).worth;
    }

    private static int cutAt(BigDecimal value, int places) {
        return value.movePointRight(places).setScale(0, RoundingMode.DOWN).intValueExact();
    }

    int worth(int chooser) {
        return in(chooser, 0, 3) ? cutAt(exactly(chooser), 2) : NONE;
    }

    int figures(int chooser, int k) {
        if (!in(chooser, 0, 3) || !in(k, 0, 12)) {
            return NONE;
        }
        BigInteger upper = exactly(chooser).movePointRight(100).toBigIntegerExact();
        return upper.divide(BigInteger.TEN.pow(9 * k)).mod(BigInteger.TEN.pow(9)).intValueExact();
    }

    int next(int chooser, int played, int latest, int zero, int one) {
        if (!in(chooser, 0, 3) || !in(played, 0, (1 << s.scenes.size()) - 1)) {
            return NONE;
        }
        if (!in(zero, 0, s.sorts[0][0]) || !in(one, 0, s.sorts[1][0]) || zero + one == 0) {
            return NONE;
        }
        if (played == 0 ? latest != NONE : !has(played, latest)) {
            return NONE;
        }
        List<Integer> row = new ArrayList<>();
        for (int i = 0; i < 5; i++) {
            if (has(played, i)) {
                if (isEnd(i)) {
                    return NONE;
                }
                if (i != latest) {
                    row.add(i);
                }
            }
        }
        if (played != 0) {
            row.add(latest);
        }
        return new Way(chooser).next(row, new int[] {zero, one});
    }

    int fixed(int i) {
        List<Integer> row = fixedRow();
        return in(i, 0, row.size() - 1) ? row.get(i) : NONE;
    }

    int rows() {
        return allRows().size();
    }

    int seeing() {
        return cutAt(exactly(2).subtract(exactly(3)), 2);
    }

    int loss(int sort) {
        if (!in(sort, 0, 1) || s.sorts[sort][0] == 0) {
            return NONE;
        }
        int[] fewer = people();
        fewer[sort]--;
        Best best = new Best(weights(), true);
        List<Integer> none = new ArrayList<>();
        return cutAt(best.worth(none, people()).subtract(best.worth(none, fewer)), 2);
    }

    int evening(int sort) {
        if (!in(sort, 0, 1)) {
            return NONE;
        }
        int[] weights = weights();
        weights[1 - sort] = 0;
        return cutAt(new Best(weights, false).worth(new ArrayList<>(), people()), 2);
    }

    int odds(int chooser, int what) {
        if (!in(chooser, 0, 3) || !in(what, 0, 7) || what < 5 && !there(what)) {
            return NONE;
        }
        return cutAt(new Forward(new Way(chooser), people()).odds[what], what == 7 ? 2 : 6);
    }

    // ---- heads that were counted

    int heads(int heads) {
        if (!in(heads, 0, 10)) {
            return no(-1);
        }
        s.firstHeads = heads;
        s.counted = new ArrayList<>();
        return yes(0);
    }

    int stayed(int scene, int heads) {
        if (!in(heads, 0, 10)) {
            return no(-1);
        }
        if (!there(scene)) {
            return no(-2);
        }
        if (s.firstHeads == null) {
            return no(-3);
        }
        int ahead = s.counted.isEmpty() ? s.firstHeads : s.counted.get(s.counted.size() - 1)[1];
        for (int[] one : s.counted) {
            if (one[0] == scene) {
                return no(-3);
            }
        }
        if (heads > ahead) {
            return no(-3);
        }
        s.counted.add(new int[] {scene, heads});
        return yes(s.counted.size());
    }

    /** How likely it is that just these heads are counted, with so many of both at first. */
    private BigDecimal likely(int zero, int one) {
        Map<Integer, BigDecimal> zeros = new TreeMap<>();
        zeros.put(zero, ONE);
        int heads = zero + one;
        List<Integer> played = new ArrayList<>();
        for (int[] step : s.counted) {
            Map<Integer, BigDecimal> then = new TreeMap<>();
            for (Map.Entry<Integer, BigDecimal> entry : zeros.entrySet()) {
                int[] crowd = {entry.getKey(), heads - entry.getKey()};
                for (int a = 0; a <= crowd[0]; a++) {
                    int b = step[1] - a;
                    if (in(b, 0, crowd[1])) {
                        BigDecimal odds = binomial(crowd[0], a, chance(0, step[0], played, crowd))
                            .multiply(binomial(crowd[1], b, chance(1, step[0], played, crowd)));
                        then.merge(a, odds.multiply(entry.getValue()), BigDecimal::add);
                    }
                }
            }
            zeros = then;
            heads = step[1];
            played = with(played, step[0]);
        }
        BigDecimal sum = ZERO;
        for (BigDecimal part : zeros.values()) {
            sum = sum.add(part);
        }
        return sum;
    }

    int were(int many) {
        if (!in(many, 0, 5) || s.firstHeads == null) {
            return NONE;
        }
        BigDecimal all = ZERO;
        BigDecimal mine = ZERO;
        for (int a = 0; a <= 5; a++) {
            if (in(s.firstHeads - a, 0, 5)) {
                BigDecimal likely = likely(a, s.firstHeads - a);
                all = all.add(likely);
                mine = a == many ? likely : mine;
            }
        }
        if (all.signum() == 0) {
            return NONE;
        }
        return mine.movePointRight(6).divideToIntegralValue(all).intValueExact();
    }

    // ---- worlds

    private int draw(int n) {
        seed = (seed * 1103 + 12345) % 1000003;
        return (int) (seed % n);
    }

    /** Scene and people of each step; the last row has those who saw an end. */
    private List<int[]> evening(Way way, int[] people) {
        List<int[]> steps = new ArrayList<>();
        List<Integer> played = new ArrayList<>();
        int[] crowd = people.clone();
        while (crowd[0] + crowd[1] > 0) {
            int scene = way.next(played, crowd);
            if (scene == NONE) {
                break;
            }
            steps.add(new int[] {scene, crowd[0], crowd[1]});
            if (isEnd(scene)) {
                steps.add(crowd);
                return steps;
            }
            int[] left = {0, 0};
            for (int sort = 0; sort < 2; sort++) {
                int chance = chance(sort, scene, played, crowd);
                for (int i = 0; i < crowd[sort]; i++) {
                    left[sort] += draw(100) < chance ? 1 : 0;
                }
            }
            crowd = left;
            played = with(played, scene);
        }
        steps.add(new int[] {0, 0});
        return steps;
    }

    int run(int chooser, int seed) {
        if (!in(chooser, 0, 3) || !in(seed, 0, 1000000)) {
            return no(-1);
        }
        this.seed = seed;
        world = evening(new Way(chooser), people());
        world.remove(world.size() - 1);
        return yes(world.size());
    }

    int ran(int i, int what) {
        return in(i, 0, world.size() - 1) && in(what, 0, 2) ? world.get(i)[what] : NONE;
    }

    int nights(int n, int chooser, int seed, int what) {
        if (!in(n, 1, 60) || !in(chooser, 0, 3) || !in(seed, 0, 1000000) || !in(what, 0, 2)) {
            return NONE;
        }
        this.seed = seed;
        Way way = new Way(chooser);
        int[] sums = new int[3];
        int[] come = people();
        for (int night = 0; night < n; night++) {
            sums[0] += come[0] + come[1];
            List<int[]> steps = evening(way, come);
            int[] saw = steps.remove(steps.size() - 1);
            sums[1] += saw[0] + saw[1];
            for (int[] step : steps) {
                sums[2] += s.scenes.get(step[0])[0] * (step[1] + step[2]);
            }
            if (night < n - 1) {
                int zero = saw[0] + draw(s.sorts[0][2] + 1);
                int one = saw[1] + draw(s.sorts[1][2] + 1);
                come = new int[] {Math.min(5, zero), Math.min(5, one)};
            }
        }
        return sums[what];
    }

    int image(int k) {
        if (!in(k, 0, 1)) {
            return no(-1);
        }
        images[k] = s.copy();
        return yes(0);
    }

    int back(int k) {
        if (!in(k, 0, 1)) {
            return no(-1);
        }
        if (images[k] == null) {
            return no(-2);
        }
        s = images[k].copy();
        return yes(0);
    }

    int count(int what) {
        switch (what) {
            case 0: return s.scenes.size();
            case 1: return s.laws.size();
            case 2: return s.book.size();
            case 3: return s.counted.size();
            case 4: return tape.length();
            case 5: return refused.getOrDefault(-1, 0);
            case 6: return refused.getOrDefault(-2, 0);
            case 7: return refused.getOrDefault(-3, 0);
            case 8: return refused.getOrDefault(-5, 0);
            case 9: return refused.getOrDefault(-6, 0);
            case 10: return s.force;
            default: return NONE;
        }
    }

    int status() {
        return status;
    }
}
