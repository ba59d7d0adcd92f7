import java.util.ArrayList;
import java.util.Arrays;
import java.util.List;
import java.util.Random;
import java.util.TreeMap;

/** Long runs of calls, always the same ones, against a model that follows the document word by word. */
public final class PeopleTowerModelTest {
    private static final int NONE = -1, UNKNOWN = -2, OUTSIDE = -3, NOT = -4, FULL = -5;
    private static final int RUNS = 300, CALLS = 120;
    private static final int[] WILD = {Integer.MIN_VALUE, Integer.MAX_VALUE, -1, 0, 1, 7, 8, 200, 201, 1001};

    private static int wrong = 0;
    private static final TreeMap<String, Integer> SEEN = new TreeMap<>();

    public static void main(String[] args) {
        for (int run = 0; run < RUNS && wrong < 10; run++) {
            new Run(run).go();
        }
        checkSeen();
        System.out.println(RUNS + " runs of " + CALLS + " calls, " + wrong + " wrong");
        if (wrong != 0) {
            System.exit(1);
        }
    }

    /** Runs that never meet a case would prove nothing of it. */
    private static void checkSeen() {
        String[] cases = {
            "storeys NOT", "storeys OUTSIDE", "width NOT", "width OUTSIDE", "width UNKNOWN", "person FULL",
            "person OUTSIDE", "out UNKNOWN", "play OUTSIDE", "fits 0", "fits +", "level NONE", "level +",
            "close NONE", "close 0", "close +", "take NOT", "take OUTSIDE", "take 0", "take +", "at NOT",
            "at UNKNOWN", "at +", "load NOT", "load UNKNOWN", "load +", "swap NOT", "swap UNKNOWN", "swap +",
            "tick NOT", "tick OUTSIDE", "tick NONE", "tick +", "weak NOT", "weak NONE", "weak 0", "weak +",
            "effort NOT", "effort UNKNOWN", "effort OUTSIDE", "effort 0", "effort +", "worths OUTSIDE",
            "attempt NOT", "attempt 0", "attempt +", "count OUTSIDE", "fall at the crown", "fall behind the crown",
            "close with some moved",
        };
        for (String one : cases) {
            if (SEEN.getOrDefault(one, 0) < 5) {
                wrong++;
                System.out.println("too few runs meet '" + one + "': " + SEEN.getOrDefault(one, 0));
            }
        }
    }

    private static void see(String what) {
        SEEN.merge(what, 1, Integer::sum);
    }

    private static final class Run {
        final int number;
        final Random random;
        final PeopleTower x = new PeopleTower();
        final Model m = new Model();
        final List<String> calls = new ArrayList<>();
        final int style;

        Run(int number) {
            this.number = number;
            this.random = new Random(number * 7919L + 13);
            this.style = number % 5;
        }

        void go() {
            for (int i = 0; i < CALLS && wrong < 10; i++) {
                call(i < 6 ? 2 : random.nextInt(26));
                if (i % 10 == 9) {
                    for (int what = 0; what < 6; what++) {
                        due("count", "count(" + what + ")", x.count(what), m.count(what));
                    }
                    for (int place = 0; place < 7; place++) {
                        due("at", "at(" + place + ")", x.at(place), m.at(place));
                        due("load", "load(" + place + ")", x.load(place), m.load(place));
                    }
                }
            }
        }

        void due(String name, String call, int got, int want) {
            calls.add(call + " = " + got);
            String[] refusals = {"NONE", "UNKNOWN", "OUTSIDE", "NOT", "FULL"};
            see(name + " " + (want < 0 ? refusals[-1 - want] : want == 0 ? "0" : "+"));
            if (got != want) {
                wrong++;
                System.out.println("run " + number + ": " + call + " answered " + got + ", due is " + want);
                System.out.println("  behind " + calls);
            }
        }

        int pick(int least, int most) {
            if (random.nextInt(24) == 0) {
                return WILD[random.nextInt(WILD.length)];
            }
            if (random.nextInt(24) == 0) {
                return random.nextBoolean() ? least - 1 : most + 1;
            }
            return least + random.nextInt(most - least + 1);
        }

        /** Mostly people who can build something together; some from all that is allowed. */
        void person() {
            int height = style == 0 ? pick(100, 200) : 150 + pick(0, style == 4 ? 0 : 12);
            int weight = style == 4 ? 20 + pick(0, 3) : pick(20, 120);
            int bears = style == 0 || style == 1 ? pick(0, 400) : style == 2 ? pick(50, 200) : pick(200, 400);
            int fear = style == 3 ? pick(1, 3) : random.nextInt(3) == 0 ? pick(0, 3) : 3;
            int stamina = random.nextInt(4) == 0 ? pick(0, 20000) : pick(0, 900);
            due("person", "person(" + height + ", " + weight + ", " + bears + ", " + fear + ", " + stamina + ")",
                    x.person(height, weight, bears, fear, stamina), m.person(height, weight, bears, fear, stamina));
        }

        void call(int kind) {
            int a;
            int b;
            switch (kind) {
                case 0:
                    a = pick(1, 4);
                    due("storeys", "storeys(" + a + ")", x.storeys(a), m.storeys(a));
                    break;
                case 1:
                    a = pick(0, 3);
                    b = pick(1, 3);
                    due("width", "width(" + a + ", " + b + ")", x.width(a, b), m.width(a, b));
                    break;
                case 2:
                    person();
                    break;
                case 3:
                case 4:
                    a = pick(0, 7);
                    boolean is = random.nextInt(3) == 0;
                    due("out", "out(" + a + ", " + is + ")", x.out(a, is), m.out(a, is));
                    break;
                case 5:
                    a = random.nextBoolean() ? pick(0, 50) : pick(5, 12);
                    due("play", "play(" + a + ")", x.play(a), m.play(a));
                    break;
                case 6:
                    due("fits", "fits()", x.fits(), m.fits());
                    break;
                case 7:
                    due("level", "level()", x.level(), m.level());
                    break;
                case 8:
                case 9:
                    due("close", "close()", x.close(), m.close());
                    break;
                case 10:
                case 11:
                case 12:
                    a = pick(0, 1);
                    due("take", "take(" + a + ")", x.take(a), m.take(a));
                    break;
                case 13:
                    a = pick(0, 6);
                    due("at", "at(" + a + ")", x.at(a), m.at(a));
                    break;
                case 14:
                    a = pick(0, 6);
                    due("load", "load(" + a + ")", x.load(a), m.load(a));
                    break;
                case 15:
                case 16:
                case 17:
                    a = pick(0, 4);
                    b = pick(0, 4);
                    due("swap", "swap(" + a + ", " + b + ")", x.swap(a, b), m.swap(a, b));
                    break;
                case 18:
                case 19:
                    a = pick(0, 2);
                    due("tick", "tick(" + a + ")", x.tick(a), m.tick(a));
                    break;
                case 20:
                    due("weak", "weak()", x.weak(), m.weak());
                    break;
                case 21:
                case 22:
                    a = pick(0, 4);
                    b = random.nextInt(8) == 0 ? pick(0, 200) : pick(0, 45);
                    due("effort", "effort(" + a + ", " + b + ")", x.effort(a, b), m.effort(a, b));
                    break;
                case 23:
                    a = pick(0, 1000);
                    b = pick(0, 1000);
                    due("worths", "worths(" + a + ", " + b + ")", x.worths(a, b), m.worths(a, b));
                    break;
                case 24:
                    due("attempt", "attempt()", x.attempt(), m.attempt());
                    break;
                default:
                    a = pick(0, 5);
                    due("count", "count(" + a + ")", x.count(a), m.count(a));
            }
        }
    }

    private static final class Model {
        final int[] widths = {2, 1, 1, 1};
        final List<int[]> people = new ArrayList<>();
        final List<Boolean> out = new ArrayList<>();
        List<int[]> fitting = null;
        int h = 2, play = 10, crown = 10, down = 15, points = 0;
        int[] hand = null;

        int places(int storeys) {
            return Arrays.stream(widths, 0, storeys).sum();
        }

        int places() {
            return places(h);
        }

        int storeyOf(int place) {
            int s = 0;
            while (places(s + 1) <= place) {
                s++;
            }
            return s;
        }

        /** The two places on which a place rests. */
        int[] supports(int place) {
            int s = storeyOf(place);
            int j = place - places(s);
            int below = widths[s - 1];
            return new int[] {places(s - 1) + j % below, places(s - 1) + (j + 1) % below};
        }

        int loadBy(int[] who, boolean[] stands, int place) {
            int eighths = 0;
            for (int above = places(storeyOf(place) + 1); above < places(); above++) {
                if (!stands[above] || storeyOf(above) != storeyOf(place) + 1) {
                    continue;
                }
                for (int support : supports(above)) {
                    if (support == place) {
                        int both = 8 * people.get(who[above])[1] + loadBy(who, stands, above);
                        if (both % 2 != 0) {
                            throw new IllegalStateException("not exact");
                        }
                        eighths += both / 2;
                    }
                }
            }
            return eighths;
        }

        boolean[] all() {
            boolean[] all = new boolean[places()];
            Arrays.fill(all, true);
            return all;
        }

        int difference(int[] who, int storey) {
            int low = 1000;
            int high = 0;
            for (int place = places(storey); place < places(storey + 1); place++) {
                low = Math.min(low, people.get(who[place])[0]);
                high = Math.max(high, people.get(who[place])[0]);
            }
            return high - low;
        }

        int uneven(int[] who) {
            int sum = 0;
            for (int s = 0; s < h; s++) {
                sum += difference(who, s);
            }
            return sum;
        }

        boolean isFitting(int[] who) {
            for (int place = 0; place < places(); place++) {
                if (out.get(who[place]) || storeyOf(place) > people.get(who[place])[3]) {
                    return false;
                }
            }
            for (int s = 0; s < h; s++) {
                if (difference(who, s) > play) {
                    return false;
                }
            }
            for (int place = 0; place < places(); place++) {
                if (loadBy(who, all(), place) > 8 * people.get(who[place])[2]) {
                    return false;
                }
            }
            return true;
        }

        List<int[]> placings() {
            if (fitting == null) {
                fitting = new ArrayList<>();
                gather(new int[places()], 0, 0);
            }
            return fitting;
        }

        void gather(int[] who, int place, int usedBits) {
            if (place == who.length) {
                if (isFitting(who)) {
                    fitting.add(who.clone());
                }
                return;
            }
            for (int p = 0; p < people.size(); p++) {
                if ((usedBits >> p & 1) == 0) {
                    who[place] = p;
                    gather(who, place + 1, usedBits | 1 << p);
                }
            }
        }

        int moved(int[] who) {
            int sum = 0;
            for (int place = 0; place < places(); place++) {
                sum += hand == null || hand[place] != who[place] ? 1 : 0;
            }
            return sum;
        }

        int[] best(boolean byMoved) {
            int[] best = null;
            for (int[] who : placings()) {
                if (best == null || (byMoved && moved(who) < moved(best))
                        || ((!byMoved || moved(who) == moved(best)) && uneven(who) < uneven(best))) {
                    best = who;
                }
            }
            return best;
        }

        int storeys(int n) {
            if (n < 1 || n > 4) {
                return OUTSIDE;
            }
            if (places(n) > 7) {
                return NOT;
            }
            h = n;
            hand = null;
            fitting = null;
            return places();
        }

        int width(int storey, int w) {
            if (storey < 0 || storey > 3) {
                return UNKNOWN;
            }
            if (w < 1 || w > 3) {
                return OUTSIDE;
            }
            int was = widths[storey];
            widths[storey] = w;
            if (places() > 7) {
                widths[storey] = was;
                return NOT;
            }
            hand = null;
            fitting = null;
            return was;
        }

        int person(int height, int weight, int bears, int fear, int stamina) {
            if (height < 100 || height > 200 || weight < 20 || weight > 120 || bears < 0 || bears > 400
                    || fear < 0 || fear > 3 || stamina < 0 || stamina > 20000) {
                return OUTSIDE;
            }
            if (people.size() == 8) {
                return FULL;
            }
            people.add(new int[] {height, weight, bears, fear, stamina});
            out.add(false);
            fitting = null;
            return people.size() - 1;
        }

        int out(int person, boolean is) {
            if (person < 0 || person >= people.size()) {
                return UNKNOWN;
            }
            fitting = null;
            return out.set(person, is) ? 1 : 0;
        }

        int play(int v) {
            if (v < 0 || v > 50) {
                return OUTSIDE;
            }
            int was = play;
            play = v;
            fitting = null;
            return was;
        }

        int fits() {
            return placings().size();
        }

        int level() {
            int[] best = best(false);
            return best == null ? NONE : uneven(best);
        }

        int close() {
            int[] best = best(true);
            if (best != null && hand != null && moved(best) > 0 && moved(best) < places()) {
                see("close with some moved");
            }
            return best == null ? NONE : moved(best);
        }

        int take(int way) {
            if (way != 0 && way != 1) {
                return OUTSIDE;
            }
            int[] best = best(way == 1);
            if (best == null) {
                return NOT;
            }
            hand = best.clone();
            return uneven(hand);
        }

        boolean noPlace(int place) {
            return place < 0 || place >= places();
        }

        int at(int place) {
            return noPlace(place) ? UNKNOWN : hand == null ? NOT : hand[place];
        }

        int load(int place) {
            return noPlace(place) ? UNKNOWN : hand == null ? NOT : loadBy(hand, all(), place);
        }

        int swap(int one, int two) {
            if (noPlace(one) || noPlace(two)) {
                return UNKNOWN;
            }
            if (hand == null) {
                return NOT;
            }
            int[] other = hand.clone();
            other[one] = hand[two];
            other[two] = hand[one];
            if (!isFitting(other)) {
                return NOT;
            }
            hand = other;
            return 1;
        }

        int standsFrom(int place) {
            int tick = 0;
            for (int p = 0; p <= place; p++) {
                tick += 2 + storeyOf(p);
            }
            return tick;
        }

        int crowned() {
            return standsFrom(places() - 1);
        }

        int offAt(int place) {
            int tick = crowned();
            for (int p = places() - 1; p >= place; p--) {
                tick += 2 + storeyOf(p);
            }
            return tick;
        }

        int effortOf(int place, int lastTick) {
            int sum = 0;
            for (int tick = 1; tick <= lastTick; tick++) {
                boolean[] stood = new boolean[places()];
                for (int p = 0; p < places(); p++) {
                    stood[p] = standsFrom(p) <= tick - 1 && tick - 1 < offAt(p);
                }
                sum += stood[place] ? loadBy(hand, stood, place) : 0;
            }
            return sum;
        }

        int weakAt(int tick) {
            for (int place = 0; place < places(); place++) {
                if (effortOf(place, tick) > 8 * people.get(hand[place])[4]) {
                    return place;
                }
            }
            return NONE;
        }

        int fall() {
            if (weakAt(offAt(0)) == NONE) {
                return NONE;
            }
            int tick = 1;
            while (weakAt(tick) == NONE) {
                tick++;
            }
            return tick;
        }

        int tick(int what) {
            if (what < 0 || what > 2) {
                return OUTSIDE;
            }
            if (hand == null) {
                return NOT;
            }
            return what == 0 ? crowned() : what == 1 ? offAt(0) : fall();
        }

        int weak() {
            if (hand == null) {
                return NOT;
            }
            int fall = fall();
            return fall == NONE ? NONE : weakAt(fall);
        }

        int effort(int place, int tick) {
            if (noPlace(place)) {
                return UNKNOWN;
            }
            if (tick < 0 || tick > 200) {
                return OUTSIDE;
            }
            return hand == null ? NOT : effortOf(place, tick);
        }

        int worths(int c, int d) {
            if (c < 0 || c > 1000 || d < 0 || d > 1000) {
                return OUTSIDE;
            }
            crown = c;
            down = d;
            return 1;
        }

        int attempt() {
            if (hand == null) {
                return NOT;
            }
            int fall = fall();
            if (fall != NONE && fall >= crowned()) {
                see(fall == crowned() ? "fall at the crown" : "fall behind the crown");
            }
            int made = fall == NONE ? down : fall > crowned() ? crown : 0;
            points += made;
            return made;
        }

        int count(int what) {
            int[] counts = {h, places(), people.size(), (int) out.stream().filter(o -> o).count(), points,
                hand == null ? 0 : 1};
            return what < 0 || what > 5 ? OUTSIDE : counts[what];
        }
    }
}
