import java.util.ArrayList;
import java.util.List;

/**
 * Each refusal that the document names: its answer, and that nothing has changed by it. For that
 * the call is made on one of two twins, and then all that can be seen of both is compared.
 */
public final class PeopleTowerRefusalTest {
    private static final int UNKNOWN = -2, OUTSIDE = -3, NOT = -4, FULL = -5;
    private static final int LEAST = Integer.MIN_VALUE, MOST = Integer.MAX_VALUE;
    private static final int[] LOOKED_AT = {0, 1, 5, 7, 8, 9, 10, 13, 14, 20, 200};

    private static int checks = 0;
    private static int wrong = 0;

    private interface Maker {
        PeopleTower make();
    }

    private interface Call {
        int on(PeopleTower x);
    }

    public static void main(String[] args) {
        twinsDifferByEachChange();
        storeysOutside();
        storeysNot();
        widthUnknown();
        widthOutside();
        widthNot();
        personOutside();
        personFull();
        outUnknown();
        playOutside();
        takeOutside();
        takeNot();
        atAndLoad();
        swapUnknown();
        swapNot();
        tickRefused();
        weakAndAttemptNot();
        effortRefused();
        worthsOutside();
        countOutside();
        System.out.println(checks + " refusals, " + wrong + " wrong");
        if (wrong != 0) {
            System.exit(1);
        }
    }

    // ---- the towers on which calls are refused

    private static PeopleTower fresh() {
        return new PeopleTower();
    }

    /** Nothing is as it was at first: one attempt behind it, which fell when it was crowned. */
    private static PeopleTower used() {
        PeopleTower x = new PeopleTower();
        x.person(170, 80, 100, 3, 5);
        x.person(168, 70, 100, 3, 5);
        x.person(120, 30, 0, 3, 0);
        x.person(150, 40, 40, 2, 100);
        x.person(164, 75, 90, 1, 700);
        x.out(3, true);
        x.play(7);
        x.worths(30, 80);
        x.width(2, 3);
        x.width(3, 2);
        x.take(0);
        x.swap(0, 1);
        x.attempt();
        return x;
    }

    /** As used(), but none of the placings fits any more, not even the one at hand. */
    private static PeopleTower unfit() {
        PeopleTower x = used();
        x.out(2, true);
        x.out(4, true);
        return x;
    }

    /** Eight people, and seven places in storeys of the given widths, with a placing at hand. */
    private static PeopleTower full(int... widths) {
        PeopleTower x = new PeopleTower();
        for (int i = 0; i < 8; i++) {
            x.person(150 + i, 20 + i, 400, 3, 20 * i);
        }
        for (int storey = 0; storey < widths.length; storey++) {
            x.width(storey, 1);
        }
        x.storeys(widths.length);
        for (int storey = 0; storey < widths.length; storey++) {
            x.width(storey, widths[storey]);
        }
        x.take(0);
        return x;
    }

    // ---- what can be seen of a tower

    private static List<Integer> look(PeopleTower x) {
        List<Integer> seen = new ArrayList<>();
        for (int what = 0; what < 6; what++) {
            seen.add(x.count(what));
        }
        seen.add(x.fits());
        seen.add(x.level());
        seen.add(x.close());
        lookAtPlaces(x, seen);
        lookAtClimb(x, seen);
        lookAtPeople(x, seen);
        lookAtTowers(x, seen);
        return seen;
    }

    private static void lookAtPlaces(PeopleTower x, List<Integer> seen) {
        for (int place = 0; place < 7; place++) {
            seen.add(x.at(place));
            seen.add(x.load(place));
        }
    }

    private static void lookAtClimb(PeopleTower x, List<Integer> seen) {
        for (int what = 0; what < 3; what++) {
            seen.add(x.tick(what));
        }
        seen.add(x.weak());
        for (int tick : LOOKED_AT) {
            for (int place = 0; place < 7; place++) {
                seen.add(x.effort(place, tick));
            }
        }
        seen.add(x.attempt());
        seen.add(x.count(4));
    }

    private static void lookAtPeople(PeopleTower x, List<Integer> seen) {
        int play = x.play(0);
        seen.add(play);
        x.play(play);
        for (int person = 0; person < 8; person++) {
            int was = x.out(person, false);
            seen.add(was);
            if (was == 1) {
                x.out(person, true);
            }
        }
        for (int way = 1; way >= 0; way--) {
            seen.add(x.take(way));
            lookAtPlaces(x, seen);
        }
    }

    /** Last, as it ends the placing: the widths, the heights of towers, the worth of coming down. */
    private static void lookAtTowers(PeopleTower x, List<Integer> seen) {
        for (int storey = 0; storey < 4; storey++) {
            seen.add(x.width(storey, 1));
        }
        for (int h = 4; h > 0; h--) {
            seen.add(x.storeys(h));
            seen.add(x.fits());
        }
        seen.add(x.take(0));
        seen.add(x.attempt());
        seen.add(x.count(4));
        seen.add(x.person(150, 50, 50, 0, 0));
    }

    // ---- the checks

    private static void refused(String text, Maker maker, Call call, int want) {
        PeopleTower told = maker.make();
        int got = call.on(told);
        List<Integer> seen = look(told);
        List<Integer> due = look(maker.make());
        checks++;
        if (got != want) {
            wrong++;
            System.out.println(text + " answered " + got + ", due is " + want);
        }
        if (!seen.equals(due)) {
            wrong++;
            System.out.println(text + " has changed something:\n  " + seen + "\n  " + due);
        }
    }

    /** A look that misses a change would prove nothing. */
    private static void twinsDifferByEachChange() {
        differs("storeys(3)", x -> x.storeys(3));
        differs("storeys(2)", x -> x.storeys(2));
        for (int storey = 0; storey < 4; storey++) {
            int s = storey;
            differs("width(" + s + ", 1)", x -> x.width(s, 1));
        }
        differs("person", x -> x.person(100, 20, 0, 0, 0));
        differs("out(3, false)", x -> x.out(3, false));
        differs("out(0, true)", x -> x.out(0, true));
        differs("play(8)", x -> x.play(8));
        differs("take(0)", x -> x.take(0));
        differs("swap(0, 1)", x -> x.swap(0, 1));
        differs("worths(31, 80)", x -> x.worths(31, 80));
        differs("worths(30, 81)", x -> x.worths(30, 81));
        differs("attempt()", x -> x.attempt());
    }

    private static void differs(String text, Call call) {
        PeopleTower x = used();
        int got = call.on(x);
        if (got < 0 || look(x).equals(look(used()))) {
            wrong++;
            System.out.println("the look does not see " + text + ", which answered " + got);
        }
    }

    // ---- promise 2

    private static void storeysOutside() {
        int[] bad = {0, 5, -1, LEAST, MOST};
        for (int h : bad) {
            refused("storeys(" + h + ")", PeopleTowerRefusalTest::fresh, x -> x.storeys(h), OUTSIDE);
            refused("storeys(" + h + ")", PeopleTowerRefusalTest::used, x -> x.storeys(h), OUTSIDE);
            refused("storeys(" + h + ") with 7 places", () -> full(3, 3, 1), x -> x.storeys(h), OUTSIDE);
        }
    }

    private static void storeysNot() {
        refused("storeys(4) for 2 + 1 + 3 + 2 places", PeopleTowerRefusalTest::used, x -> x.storeys(4), NOT);
        refused("storeys(4) for 3 + 3 + 1 + 1 places", () -> full(3, 3, 1), x -> x.storeys(4), NOT);
        refused("storeys(4) for 1 + 3 + 3 + 1 places", () -> full(1, 3, 3), x -> x.storeys(4), NOT);
        refused("storeys(3) for 3 + 3 + 3 places", PeopleTowerRefusalTest::wideAbove, x -> x.storeys(3), NOT);
        refused("storeys(4) for 3 + 3 + 3 + 3 places", PeopleTowerRefusalTest::wideAbove, x -> x.storeys(4), NOT);
    }

    private static PeopleTower wideAbove() {
        PeopleTower x = full(3, 3);
        x.width(2, 3);
        x.width(3, 3);
        x.take(0);
        return x;
    }

    // ---- promise 3

    private static void widthUnknown() {
        int[] bad = {-1, 4, LEAST, MOST};
        for (int storey : bad) {
            for (int w = 0; w <= 4; w++) {
                int v = w;
                String text = "width(" + storey + ", " + w + ")";
                refused(text, PeopleTowerRefusalTest::fresh, x -> x.width(storey, v), UNKNOWN);
                refused(text, PeopleTowerRefusalTest::used, x -> x.width(storey, v), UNKNOWN);
                refused(text + " with 7 places", () -> full(2, 2, 2, 1), x -> x.width(storey, v), UNKNOWN);
            }
        }
    }

    private static void widthOutside() {
        int[] bad = {0, 4, -1, LEAST, MOST};
        for (int w : bad) {
            for (int storey = 0; storey < 4; storey++) {
                int s = storey;
                String text = "width(" + s + ", " + w + ")";
                refused(text, PeopleTowerRefusalTest::fresh, x -> x.width(s, w), OUTSIDE);
                refused(text, PeopleTowerRefusalTest::used, x -> x.width(s, w), OUTSIDE);
                refused(text + " with 7 places", () -> full(2, 2, 2, 1), x -> x.width(s, w), OUTSIDE);
            }
        }
    }

    private static void widthNot() {
        for (int storey = 0; storey < 3; storey++) {
            int s = storey;
            refused("width(" + s + ", 3) for 8 places", () -> full(2, 2, 2, 1), x -> x.width(s, 3), NOT);
        }
        refused("width(3, 2) for 8 places", () -> full(2, 2, 2, 1), x -> x.width(3, 2), NOT);
        refused("width(3, 3) for 9 places", () -> full(2, 2, 2, 1), x -> x.width(3, 3), NOT);
        refused("width(2, 2) for 8 places", () -> full(3, 3, 1), x -> x.width(2, 2), NOT);
        refused("width(1, 2) for 8 places", () -> full(3, 1, 3), x -> x.width(1, 2), NOT);
        refused("width(0, 2) for 8 places", () -> full(1, 3, 3), x -> x.width(0, 2), NOT);
    }

    // ---- promises 4, 5, 6

    private static void personOutside() {
        int[] least = {100, 20, 0, 0, 0};
        int[] most = {200, 120, 400, 3, 20000};
        for (int i = 0; i < 5; i++) {
            int[] bad = {least[i] - 1, most[i] + 1, LEAST, MOST};
            for (int number : bad) {
                int[] p = {150, 50, 100, 1, 100};
                p[i] = number;
                Call call = x -> x.person(p[0], p[1], p[2], p[3], p[4]);
                String text = "person with " + number + " as number " + i;
                refused(text, PeopleTowerRefusalTest::fresh, call, OUTSIDE);
                refused(text, PeopleTowerRefusalTest::used, call, OUTSIDE);
                refused(text + ", the ninth", () -> full(3, 3, 1), call, OUTSIDE);
            }
        }
    }

    private static void personFull() {
        refused("person, the ninth", () -> full(3, 3, 1), x -> x.person(150, 50, 100, 1, 100), FULL);
        refused("person, the ninth", () -> full(1), x -> x.person(100, 20, 0, 0, 0), FULL);
        refused("person, the ninth", PeopleTowerRefusalTest::eightOut, x -> x.person(200, 120, 400, 3, 20000), FULL);
    }

    private static PeopleTower eightOut() {
        PeopleTower x = full(2, 1);
        for (int person = 0; person < 8; person++) {
            x.out(person, true);
        }
        return x;
    }

    private static void outUnknown() {
        boolean[] both = {true, false};
        for (boolean is : both) {
            int[] badAtFirst = {0, -1, LEAST, MOST};
            for (int person : badAtFirst) {
                refused("out(" + person + ", " + is + "), no people", PeopleTowerRefusalTest::fresh,
                        x -> x.out(person, is), UNKNOWN);
            }
            int[] badOfFive = {5, -1, 7, 8, LEAST, MOST};
            for (int person : badOfFive) {
                refused("out(" + person + ", " + is + ") of 5", PeopleTowerRefusalTest::used,
                        x -> x.out(person, is), UNKNOWN);
            }
            refused("out(8, " + is + ") of 8", () -> full(3, 3, 1), x -> x.out(8, is), UNKNOWN);
        }
    }

    private static void playOutside() {
        int[] bad = {-1, 51, LEAST, MOST};
        for (int v : bad) {
            refused("play(" + v + ")", PeopleTowerRefusalTest::fresh, x -> x.play(v), OUTSIDE);
            refused("play(" + v + ")", PeopleTowerRefusalTest::used, x -> x.play(v), OUTSIDE);
        }
    }

    // ---- promises 10 to 13

    private static void takeOutside() {
        int[] bad = {-1, 2, LEAST, MOST};
        for (int way : bad) {
            refused("take(" + way + ")", PeopleTowerRefusalTest::used, x -> x.take(way), OUTSIDE);
            refused("take(" + way + "), none fits", PeopleTowerRefusalTest::fresh, x -> x.take(way), OUTSIDE);
            refused("take(" + way + "), none fits", PeopleTowerRefusalTest::unfit, x -> x.take(way), OUTSIDE);
        }
    }

    private static void takeNot() {
        for (int way = 0; way < 2; way++) {
            int w = way;
            refused("take(" + w + "), none fits", PeopleTowerRefusalTest::fresh, x -> x.take(w), NOT);
            refused("take(" + w + "), none fits any more", PeopleTowerRefusalTest::unfit, x -> x.take(w), NOT);
        }
    }

    private static void atAndLoad() {
        int[] bad = {-1, 3, 6, 7, LEAST, MOST};
        for (int place : bad) {
            refused("at(" + place + ") of 3", PeopleTowerRefusalTest::used, x -> x.at(place), UNKNOWN);
            refused("at(" + place + "), none at hand", PeopleTowerRefusalTest::fresh, x -> x.at(place), UNKNOWN);
            refused("load(" + place + ") of 3", PeopleTowerRefusalTest::used, x -> x.load(place), UNKNOWN);
            refused("load(" + place + "), none at hand", PeopleTowerRefusalTest::fresh, x -> x.load(place), UNKNOWN);
        }
        for (int place = 0; place < 3; place++) {
            int p = place;
            refused("at(" + p + "), none at hand", PeopleTowerRefusalTest::fresh, x -> x.at(p), NOT);
            refused("load(" + p + "), none at hand", PeopleTowerRefusalTest::fresh, x -> x.load(p), NOT);
        }
        refused("at(7) of 7", () -> full(3, 3, 1), x -> x.at(7), UNKNOWN);
        refused("load(7) of 7", () -> full(3, 3, 1), x -> x.load(7), UNKNOWN);
        refused("at(1) of 1", () -> full(1), x -> x.at(1), UNKNOWN);
        refused("load(1) of 1", () -> full(1), x -> x.load(1), UNKNOWN);
    }

    private static void swapUnknown() {
        int[] bad = {-1, 3, 7, LEAST, MOST};
        for (int place : bad) {
            for (int other = 0; other < 3; other++) {
                int o = other;
                refused("swap(" + o + ", " + place + ")", PeopleTowerRefusalTest::used,
                        x -> x.swap(o, place), UNKNOWN);
                refused("swap(" + place + ", " + o + ")", PeopleTowerRefusalTest::used,
                        x -> x.swap(place, o), UNKNOWN);
                refused("swap(" + o + ", " + place + "), none at hand", PeopleTowerRefusalTest::fresh,
                        x -> x.swap(o, place), UNKNOWN);
                refused("swap(" + place + ", " + o + "), none at hand", PeopleTowerRefusalTest::fresh,
                        x -> x.swap(place, o), UNKNOWN);
            }
            refused("swap(" + place + ", " + place + ")", PeopleTowerRefusalTest::used,
                    x -> x.swap(place, place), UNKNOWN);
        }
        refused("swap(6, 7) of 7", () -> full(3, 3, 1), x -> x.swap(6, 7), UNKNOWN);
        refused("swap(7, 6) of 7", () -> full(3, 3, 1), x -> x.swap(7, 6), UNKNOWN);
    }

    private static void swapNot() {
        for (int one = 0; one < 3; one++) {
            for (int two = 0; two < 3; two++) {
                int a = one;
                int b = two;
                String text = "swap(" + a + ", " + b + ")";
                refused(text + ", none at hand", PeopleTowerRefusalTest::fresh, x -> x.swap(a, b), NOT);
                refused(text + ", someone is out", PeopleTowerRefusalTest::unfit, x -> x.swap(a, b), NOT);
            }
        }
        int[] tall = {150, 50, 400, 3, 0};
        refused("swap against a fear", () -> pair(new int[] {150, 50, 400, 0, 0}, tall), x -> x.swap(0, 1), NOT);
        refused("swap against a bearing", () -> pair(tall, new int[] {150, 49, 49, 3, 0}), x -> x.swap(0, 1), NOT);
        refused("swap(0, 2) against a height", PeopleTowerRefusalTest::oddOnTop, x -> x.swap(0, 2), NOT);
        refused("swap(2, 1) against a height", PeopleTowerRefusalTest::oddOnTop, x -> x.swap(2, 1), NOT);
        refused("swap(0, 1) with too little play", PeopleTowerRefusalTest::lessPlay, x -> x.swap(0, 1), NOT);
        refused("swap(2, 2) with too little play", PeopleTowerRefusalTest::lessPlay, x -> x.swap(2, 2), NOT);
    }

    /** The first of two below, the second on it. */
    private static PeopleTower pair(int[] below, int[] above) {
        PeopleTower x = new PeopleTower();
        x.width(0, 1);
        x.person(below[0], below[1], below[2], below[3], below[4]);
        x.person(above[0], above[1], above[2], above[3], above[4]);
        x.take(0);
        return x;
    }

    private static PeopleTower oddOnTop() {
        PeopleTower x = new PeopleTower();
        x.person(150, 50, 400, 3, 0);
        x.person(155, 50, 400, 3, 0);
        x.person(166, 50, 400, 3, 0);
        x.take(0);
        return x;
    }

    private static PeopleTower lessPlay() {
        PeopleTower x = oddOnTop();
        x.play(4);
        return x;
    }

    // ---- promises 14 to 19

    private static void tickRefused() {
        int[] bad = {-1, 3, LEAST, MOST};
        for (int what : bad) {
            refused("tick(" + what + ")", PeopleTowerRefusalTest::used, x -> x.tick(what), OUTSIDE);
            refused("tick(" + what + "), none at hand", PeopleTowerRefusalTest::fresh, x -> x.tick(what), OUTSIDE);
        }
        for (int what = 0; what < 3; what++) {
            int w = what;
            refused("tick(" + w + "), none at hand", PeopleTowerRefusalTest::fresh, x -> x.tick(w), NOT);
        }
    }

    private static void weakAndAttemptNot() {
        refused("weak(), none at hand", PeopleTowerRefusalTest::fresh, x -> x.weak(), NOT);
        refused("attempt(), none at hand", PeopleTowerRefusalTest::fresh, x -> x.attempt(), NOT);
        refused("weak(), none at hand any more", PeopleTowerRefusalTest::ended, x -> x.weak(), NOT);
        refused("attempt(), none at hand any more", PeopleTowerRefusalTest::ended, x -> x.attempt(), NOT);
    }

    private static PeopleTower ended() {
        PeopleTower x = used();
        x.storeys(2);
        return x;
    }

    private static void effortRefused() {
        int[] badTicks = {-1, 201, LEAST, MOST};
        int[] badPlaces = {-1, 3, 7, LEAST, MOST};
        for (int tick : badTicks) {
            refused("effort(0, " + tick + ")", PeopleTowerRefusalTest::used, x -> x.effort(0, tick), OUTSIDE);
            refused("effort(2, " + tick + ")", PeopleTowerRefusalTest::used, x -> x.effort(2, tick), OUTSIDE);
            refused("effort(0, " + tick + "), none at hand", PeopleTowerRefusalTest::fresh,
                    x -> x.effort(0, tick), OUTSIDE);
        }
        int[] anyTicks = {0, 200, -1, 201};
        for (int place : badPlaces) {
            for (int tick : anyTicks) {
                String text = "effort(" + place + ", " + tick + ")";
                refused(text, PeopleTowerRefusalTest::used, x -> x.effort(place, tick), UNKNOWN);
                refused(text + ", none at hand", PeopleTowerRefusalTest::fresh,
                        x -> x.effort(place, tick), UNKNOWN);
            }
        }
        refused("effort(0, 0), none at hand", PeopleTowerRefusalTest::fresh, x -> x.effort(0, 0), NOT);
        refused("effort(2, 200), none at hand", PeopleTowerRefusalTest::fresh, x -> x.effort(2, 200), NOT);
    }

    private static void worthsOutside() {
        int[] bad = {-1, 1001, LEAST, MOST};
        for (int worth : bad) {
            refused("worths(" + worth + ", 7)", PeopleTowerRefusalTest::used, x -> x.worths(worth, 7), OUTSIDE);
            refused("worths(7, " + worth + ")", PeopleTowerRefusalTest::used, x -> x.worths(7, worth), OUTSIDE);
            refused("worths(" + worth + ", -1)", PeopleTowerRefusalTest::fresh, x -> x.worths(worth, -1), OUTSIDE);
        }
    }

    private static void countOutside() {
        int[] bad = {-1, 6, LEAST, MOST};
        for (int what : bad) {
            refused("count(" + what + ")", PeopleTowerRefusalTest::fresh, x -> x.count(what), OUTSIDE);
            refused("count(" + what + ")", PeopleTowerRefusalTest::used, x -> x.count(what), OUTSIDE);
        }
    }
}
