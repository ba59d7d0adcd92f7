/** Each promise of the document by calls with the answers worked out by hand. */
public final class PeopleTowerTest {
    private static final int NONE = -1, UNKNOWN = -2, OUTSIDE = -3, NOT = -4, FULL = -5;
    private static final int LEAST = Integer.MIN_VALUE, MOST = Integer.MAX_VALUE;

    private static int checks = 0;
    private static int wrong = 0;

    private static void due(int promise, String call, int got, int want) {
        checks++;
        if (got != want) {
            wrong++;
            System.out.println("promise " + promise + ": " + call + " answered " + got + ", due is " + want);
        }
    }

    public static void main(String[] args) {
        constants();
        newObject();
        storeys();
        storeysEndsThePlacing();
        width();
        widthEndsThePlacing();
        person();
        out();
        play();
        fitsByFear();
        fitsByBearing();
        fitsByHeight();
        level();
        levelFirstOfSeveral();
        close();
        closeTies();
        take();
        takeCloseWithNoneAtHand();
        at();
        load();
        loadWhereItWraps();
        swap();
        tick();
        fallEdges();
        weak();
        effort();
        worths();
        attempt();
        attemptAtTheCrown();
        count();
        refusalsChangeNothing();
        System.out.println(checks + " checks, " + wrong + " wrong");
        if (wrong != 0) {
            System.exit(1);
        }
    }

    /** Two carriers (0, 1) of 170 and 168, a light one (2) on top. */
    private static PeopleTower three() {
        PeopleTower x = new PeopleTower();
        x.person(170, 80, 100, 3, 500);
        x.person(168, 70, 100, 3, 500);
        x.person(120, 30, 0, 3, 0);
        return x;
    }

    private static PeopleTower alike(int people) {
        PeopleTower x = new PeopleTower();
        for (int i = 0; i < people; i++) {
            x.person(150, 40, 400, 3, 20000);
        }
        return x;
    }

    private static void dueRow(int promise, PeopleTower x, int... who) {
        for (int place = 0; place < who.length; place++) {
            due(promise, "at(" + place + ")", x.at(place), who[place]);
        }
    }

    private static void constants() {
        due(1, "NONE", PeopleTower.NONE, NONE);
        due(1, "UNKNOWN", PeopleTower.UNKNOWN, UNKNOWN);
        due(1, "OUTSIDE", PeopleTower.OUTSIDE, OUTSIDE);
        due(1, "NOT", PeopleTower.NOT, NOT);
        due(1, "FULL", PeopleTower.FULL, FULL);
    }

    private static void newObject() {
        PeopleTower x = new PeopleTower();
        due(1, "count(0)", x.count(0), 2);
        due(1, "count(1)", x.count(1), 3);
        for (int what = 2; what <= 5; what++) {
            due(1, "count(" + what + ")", x.count(what), 0);
        }
        int[] widths = {2, 1, 1, 1};
        for (int storey = 0; storey < 4; storey++) {
            due(1, "width(" + storey + ", 1)", x.width(storey, 1), widths[storey]);
        }
        due(1, "play(0)", x.play(0), 10);
    }

    private static void storeys() {
        PeopleTower x = new PeopleTower();
        int[] places = {2, 3, 4, 5};
        for (int h = 1; h <= 4; h++) {
            due(2, "storeys(" + h + ")", x.storeys(h), places[h - 1]);
            due(2, "count(0)", x.count(0), h);
            due(2, "count(1)", x.count(1), places[h - 1]);
        }
        int[] bad = {0, 5, -1, LEAST, MOST};
        for (int h : bad) {
            due(2, "storeys(" + h + ")", x.storeys(h), OUTSIDE);
        }
        due(2, "count(0) after refusals", x.count(0), 4);
        x.storeys(2);
        x.width(0, 3);
        x.width(1, 3);
        x.width(2, 1);
        due(2, "storeys(3) with 3, 3, 1", x.storeys(3), 7);
        due(2, "storeys(4) with 3, 3, 1, 1", x.storeys(4), NOT);
        due(2, "count(1)", x.count(1), 7);
        due(2, "storeys(5), OUTSIDE before NOT", x.storeys(5), OUTSIDE);
    }

    private static void storeysEndsThePlacing() {
        PeopleTower x = three();
        x.take(0);
        x.storeys(5);
        due(2, "count(5) behind a refusal", x.count(5), 1);
        x.width(2, 3);
        x.width(3, 3);
        due(2, "storeys(4) with 9 places", x.storeys(4), NOT);
        x.take(0);
        due(2, "storeys(4) with 9 places", x.storeys(4), NOT);
        due(2, "count(5) behind a refusal", x.count(5), 1);
        due(2, "storeys(2) as it was", x.storeys(2), 3);
        due(2, "count(5) behind storeys", x.count(5), 0);
        due(2, "at(0) behind storeys", x.at(0), NOT);
    }

    private static void width() {
        PeopleTower x = new PeopleTower();
        due(3, "width(3, 3) above", x.width(3, 3), 1);
        due(3, "width(3, 2)", x.width(3, 2), 3);
        due(3, "count(1)", x.count(1), 3);
        due(3, "width(0, 3)", x.width(0, 3), 2);
        due(3, "count(1)", x.count(1), 4);
        due(3, "width(1, 3)", x.width(1, 3), 1);
        due(3, "count(1)", x.count(1), 6);
        due(3, "storeys(3)", x.storeys(3), 7);
        due(3, "width(2, 2) for 8 places", x.width(2, 2), NOT);
        due(3, "width(2, 1) is as it was", x.width(2, 1), 1);
        due(3, "width(3, 3), the next above a full tower", x.width(3, 3), 2);
        due(3, "width(1, 2)", x.width(1, 2), 3);
        due(3, "width(2, 2)", x.width(2, 2), 1);
        int[] badStoreys = {-1, 4, LEAST, MOST};
        for (int storey : badStoreys) {
            due(3, "width(" + storey + ", 1)", x.width(storey, 1), UNKNOWN);
            due(3, "width(" + storey + ", 0)", x.width(storey, 0), UNKNOWN);
        }
        int[] badWidths = {0, 4, -1, LEAST, MOST};
        for (int w : badWidths) {
            due(3, "width(0, " + w + ")", x.width(0, w), OUTSIDE);
            due(3, "width(3, " + w + ")", x.width(3, w), OUTSIDE);
        }
        due(3, "count(1)", x.count(1), 7);
    }

    private static void widthEndsThePlacing() {
        PeopleTower x = three();
        x.take(0);
        x.width(4, 1);
        x.width(0, 4);
        due(3, "count(5) behind refusals", x.count(5), 1);
        due(3, "width(0, 2) as it was", x.width(0, 2), 2);
        due(3, "count(5)", x.count(5), 0);
        x.take(0);
        due(3, "width(3, 1) above, as it was", x.width(3, 1), 1);
        due(3, "count(5)", x.count(5), 0);
    }

    private static void person() {
        PeopleTower x = new PeopleTower();
        int[][] bad = {
            {99, 20, 0, 0, 0}, {201, 20, 0, 0, 0}, {100, 19, 0, 0, 0}, {100, 121, 0, 0, 0},
            {100, 20, -1, 0, 0}, {100, 20, 401, 0, 0}, {100, 20, 0, -1, 0}, {100, 20, 0, 4, 0},
            {100, 20, 0, 0, -1}, {100, 20, 0, 0, 20001}, {LEAST, 20, 0, 0, 0}, {100, MOST, 0, 0, 0},
            {100, 20, LEAST, 0, 0}, {100, 20, 0, MOST, 0}, {100, 20, 0, 0, LEAST},
        };
        for (int[] b : bad) {
            due(4, "person outside", x.person(b[0], b[1], b[2], b[3], b[4]), OUTSIDE);
        }
        due(4, "count(2)", x.count(2), 0);
        for (int i = 0; i < 8; i++) {
            int got = i % 2 == 0 ? x.person(100, 20, 0, 0, 0) : x.person(200, 120, 400, 3, 20000);
            due(4, "person", got, i);
            due(4, "count(2)", x.count(2), i + 1);
        }
        due(4, "person, the ninth", x.person(150, 50, 50, 1, 50), FULL);
        due(4, "person, OUTSIDE before FULL", x.person(99, 50, 50, 1, 50), OUTSIDE);
        due(4, "count(2)", x.count(2), 8);
    }

    private static void out() {
        PeopleTower x = three();
        int[] bad = {-1, 3, 8, LEAST, MOST};
        for (int person : bad) {
            due(5, "out(" + person + ", true)", x.out(person, true), UNKNOWN);
            due(5, "out(" + person + ", false)", x.out(person, false), UNKNOWN);
        }
        due(5, "count(3)", x.count(3), 0);
        due(5, "out(1, false)", x.out(1, false), 0);
        x.take(0);
        due(5, "out(1, true)", x.out(1, true), 0);
        due(5, "count(3)", x.count(3), 1);
        due(5, "out(1, true)", x.out(1, true), 1);
        due(5, "fits()", x.fits(), 0);
        dueRow(5, x, 0, 1, 2);
        due(5, "out(1, false)", x.out(1, false), 1);
        due(5, "out(1, false)", x.out(1, false), 0);
        due(5, "count(3)", x.count(3), 0);
        due(5, "fits()", x.fits(), 2);
    }

    private static void play() {
        PeopleTower x = three();
        due(6, "play(50)", x.play(50), 10);
        due(6, "play(0)", x.play(0), 50);
        int[] bad = {-1, 51, LEAST, MOST};
        for (int v : bad) {
            due(6, "play(" + v + ")", x.play(v), OUTSIDE);
        }
        due(6, "fits()", x.fits(), 0);
        due(6, "play(1)", x.play(1), 0);
        due(6, "fits()", x.fits(), 0);
        due(6, "play(2)", x.play(2), 1);
        due(6, "fits()", x.fits(), 2);
        x.take(0);
        x.play(0);
        due(6, "count(5): the placing stays", x.count(5), 1);
    }

    private static void fitsByFear() {
        PeopleTower x = new PeopleTower();
        due(7, "fits() without people", x.fits(), 0);
        x.storeys(4);
        x.width(0, 1);
        for (int fear = 0; fear < 4; fear++) {
            x.person(150, 50, 400, fear, 0);
        }
        due(7, "fits(), one way up", x.fits(), 1);
        x.take(0);
        dueRow(7, x, 0, 1, 2, 3);
        x.person(150, 50, 400, 2, 0);
        // 3 stays on top; the third storey takes 2 or 4, the second 1 or the other, the foot the rest
        due(7, "fits(), one more that goes to storey 2", x.fits(), 8);
        due(7, "all alike: 8 in 7 places", allPlacings(), 40320);
    }

    private static int allPlacings() {
        PeopleTower x = alike(8);
        x.width(0, 3);
        x.width(1, 2);
        x.storeys(4);
        return x.fits();
    }

    private static void fitsByBearing() {
        PeopleTower x = new PeopleTower();
        x.width(0, 1);
        x.person(150, 50, 41, 0, 0);
        x.person(150, 41, 0, 1, 0);
        due(7, "fits(), a bearing just enough", x.fits(), 1);
        x = new PeopleTower();
        x.width(0, 1);
        x.person(150, 50, 40, 0, 0);
        x.person(150, 41, 0, 1, 0);
        due(7, "fits(), a bearing one too little", x.fits(), 0);
        // 41 halved is 20 1/2: 20 is too little, though it is the half rounded down
        x = new PeopleTower();
        x.person(150, 50, 20, 0, 0);
        x.person(150, 50, 21, 0, 0);
        x.person(150, 41, 0, 1, 0);
        due(7, "fits(), half a unit too much", x.fits(), 0);
        x = new PeopleTower();
        x.person(150, 50, 21, 0, 0);
        x.person(150, 50, 21, 0, 0);
        x.person(150, 41, 0, 1, 0);
        due(7, "fits(), half a unit to spare", x.fits(), 2);
    }

    private static void fitsByHeight() {
        PeopleTower x = new PeopleTower();
        x.width(0, 3);
        x.storeys(1);
        x.person(150, 50, 0, 0, 0);
        x.person(160, 50, 0, 0, 0);
        x.person(155, 50, 0, 0, 0);
        due(7, "fits(), 10 between the ends", x.fits(), 6);
        x.person(161, 50, 0, 0, 0);
        due(7, "fits(), 161 not with 150", x.fits(), 12);
        x.out(2, true);
        due(7, "fits(), the one between is out", x.fits(), 0);
        x.play(11);
        due(7, "fits() with more play", x.fits(), 6);
        x.storeys(3);
        x.width(0, 1);
        due(7, "fits(): heights of other storeys do not count, but the fear does", x.fits(), 0);
    }

    private static void level() {
        PeopleTower x = new PeopleTower();
        due(8, "level() without people", x.level(), NONE);
        x.person(150, 50, 400, 3, 0);
        x.person(157, 50, 400, 3, 0);
        x.person(153, 50, 400, 3, 0);
        due(8, "level()", x.level(), 3);
        x.person(200, 50, 400, 3, 0);
        x.person(199, 50, 400, 3, 0);
        due(8, "level() with a better pair", x.level(), 1);
        x.width(1, 2);
        due(8, "level() of two storeys together", x.level(), 4);
        x.out(4, true);
        due(8, "level(), nobody beside the 200", x.level(), NONE);
        x.play(50);
        due(8, "level() with more play", x.level(), 46);
        due(8, "count(5): level takes nothing", x.count(5), 0);
    }

    private static void levelFirstOfSeveral() {
        PeopleTower x = new PeopleTower();
        x.person(157, 50, 400, 3, 0);
        x.person(150, 50, 400, 3, 0);
        x.person(180, 50, 400, 3, 0);
        x.person(153, 50, 400, 3, 0);
        due(8, "take(0)", x.take(0), 3);
        dueRow(8, x, 1, 3, 0);
    }

    private static void close() {
        PeopleTower x = three();
        due(9, "close() with none at hand", x.close(), 3);
        x.play(0);
        due(9, "close(), none fits", x.close(), NONE);
        x.play(10);
        x.take(0);
        due(9, "close() to one that fits", x.close(), 0);
        x.person(165, 50, 100, 3, 100);
        x.out(1, true);
        due(9, "close() with one out", x.close(), 1);
        x.person(120, 30, 0, 3, 0);
        x.out(2, true);
        due(9, "close() with two out", x.close(), 2);
        x.out(0, true);
        due(9, "close() with three out", x.close(), NONE);
        dueRow(9, x, 0, 1, 2);
    }

    private static void closeTies() {
        PeopleTower x = new PeopleTower();
        x.storeys(1);
        x.person(150, 50, 0, 0, 0);
        x.person(150, 50, 0, 0, 0);
        x.person(158, 50, 0, 0, 0);
        x.person(145, 50, 0, 0, 0);
        x.person(145, 50, 0, 0, 0);
        x.take(0);
        dueRow(9, x, 0, 1);
        x.out(0, true);
        due(9, "close(): fewest moved before least uneven", x.close(), 1);
        due(9, "take(1): least uneven of these", x.take(1), 5);
        dueRow(9, x, 3, 1);
        x.out(0, false);
        x.out(3, true);
        due(9, "take(1): the level one of those that keep 1", x.take(1), 0);
        dueRow(9, x, 0, 1);
        x.out(0, true);
        x.out(1, true);
        x.out(3, false);
        due(9, "close(): all moved", x.close(), 2);
        due(9, "take(1): the first of the least uneven", x.take(1), 0);
        dueRow(9, x, 3, 4);
    }

    private static void take() {
        PeopleTower x = three();
        int[] bad = {-1, 2, LEAST, MOST};
        for (int way : bad) {
            due(10, "take(" + way + ")", x.take(way), OUTSIDE);
        }
        due(10, "count(5)", x.count(5), 0);
        due(10, "take(0)", x.take(0), 2);
        due(10, "count(5)", x.count(5), 1);
        x.swap(0, 1);
        due(10, "take(1) keeps the swapped", x.take(1), 2);
        dueRow(10, x, 1, 0, 2);
        due(10, "take(0) is the first again", x.take(0), 2);
        dueRow(10, x, 0, 1, 2);
        x.play(0);
        due(10, "take(0), none fits", x.take(0), NOT);
        due(10, "take(1), none fits", x.take(1), NOT);
        due(10, "take(2), OUTSIDE before NOT", x.take(2), OUTSIDE);
        dueRow(10, x, 0, 1, 2);
    }

    private static void takeCloseWithNoneAtHand() {
        PeopleTower x = new PeopleTower();
        due(10, "take(1) without people", x.take(1), NOT);
        x.storeys(1);
        x.person(150, 50, 0, 0, 0);
        x.person(155, 50, 0, 0, 0);
        x.person(156, 50, 0, 0, 0);
        due(10, "take(1) with none at hand", x.take(1), 1);
        dueRow(10, x, 1, 2);
        x.out(1, true);
        x.width(0, 2);
        due(10, "close() forgets what was at hand", x.close(), 2);
    }

    private static void at() {
        PeopleTower x = three();
        due(11, "at(0), none at hand", x.at(0), NOT);
        due(11, "at(3), UNKNOWN before NOT", x.at(3), UNKNOWN);
        x.take(0);
        dueRow(11, x, 0, 1, 2);
        int[] bad = {-1, 3, 7, LEAST, MOST};
        for (int place : bad) {
            due(11, "at(" + place + ")", x.at(place), UNKNOWN);
        }
    }

    private static void load() {
        PeopleTower x = new PeopleTower();
        x.storeys(4);
        x.person(150, 100, 400, 0, 0);
        x.person(150, 100, 400, 0, 0);
        x.person(150, 61, 400, 1, 0);
        x.person(150, 41, 400, 2, 0);
        x.person(150, 21, 400, 3, 0);
        due(12, "load(0), none at hand", x.load(0), NOT);
        due(12, "load(5), UNKNOWN before NOT", x.load(5), UNKNOWN);
        x.take(0);
        int[] loads = {492, 492, 496, 168, 0};
        for (int place = 0; place < loads.length; place++) {
            due(12, "load(" + place + ")", x.load(place), loads[place]);
        }
        int[] bad = {-1, 5, 7, LEAST, MOST};
        for (int place : bad) {
            due(12, "load(" + place + ")", x.load(place), UNKNOWN);
        }
    }

    /** Widths 2, 3: the third spot rests on spots 0 and 1 again; widths 3, 2, 1: halves of halves. */
    private static void loadWhereItWraps() {
        PeopleTower x = new PeopleTower();
        x.width(1, 3);
        x.person(150, 99, 400, 0, 0);
        x.person(150, 99, 400, 0, 0);
        x.person(150, 20, 0, 3, 0);
        x.person(150, 30, 0, 3, 0);
        x.person(150, 40, 0, 3, 0);
        x.take(0);
        due(12, "load(0) under three", x.load(0), 4 * (20 + 30 + 40));
        due(12, "load(1) under three", x.load(1), 4 * (20 + 30 + 40));
        x = new PeopleTower();
        x.width(0, 3);
        x.width(1, 2);
        x.storeys(3);
        for (int i = 0; i < 3; i++) {
            x.person(150, 99, 400, 0, 0);
        }
        x.person(150, 50, 400, 1, 0);
        x.person(150, 60, 400, 1, 0);
        x.person(150, 21, 400, 3, 0);
        x.take(0);
        int[] loads = {4 * 50 + 2 * 21, 4 * 50 + 4 * 60 + 4 * 21, 4 * 60 + 2 * 21, 4 * 21, 4 * 21, 0};
        for (int place = 0; place < loads.length; place++) {
            due(12, "load(" + place + ")", x.load(place), loads[place]);
        }
        // three over three: each spot of the upper storey rests on its own and the next, round
        x = new PeopleTower();
        x.width(0, 3);
        x.width(1, 3);
        for (int i = 0; i < 3; i++) {
            x.person(150, 99, 400, 0, 0);
        }
        x.person(150, 20, 0, 1, 0);
        x.person(150, 30, 0, 1, 0);
        x.person(150, 50, 0, 1, 0);
        x.take(0);
        due(12, "load(0) round", x.load(0), 4 * (20 + 50));
        due(12, "load(1) round", x.load(1), 4 * (20 + 30));
        due(12, "load(2) round", x.load(2), 4 * (30 + 50));
    }

    private static void swap() {
        PeopleTower x = three();
        due(13, "swap(0, 1), none at hand", x.swap(0, 1), NOT);
        due(13, "swap(0, 3), UNKNOWN before NOT", x.swap(0, 3), UNKNOWN);
        x.take(0);
        int[] bad = {-1, 3, LEAST, MOST};
        for (int place : bad) {
            due(13, "swap(0, " + place + ")", x.swap(0, place), UNKNOWN);
            due(13, "swap(" + place + ", 0)", x.swap(place, 0), UNKNOWN);
        }
        due(13, "swap(0, 1)", x.swap(0, 1), 1);
        dueRow(13, x, 1, 0, 2);
        due(13, "swap(1, 1)", x.swap(1, 1), 1);
        due(13, "swap(2, 0) would not fit", x.swap(2, 0), NOT);
        dueRow(13, x, 1, 0, 2);
        x.out(2, true);
        due(13, "swap(0, 1) with someone out", x.swap(0, 1), NOT);
        due(13, "swap(0, 0) with someone out", x.swap(0, 0), NOT);
        x.out(2, false);
        x.play(1);
        due(13, "swap(0, 1) with too little play", x.swap(0, 1), NOT);
        dueRow(13, x, 1, 0, 2);
        x.play(2);
        due(13, "swap(0, 1) with just enough play", x.swap(0, 1), 1);
        dueRow(13, x, 0, 1, 2);
        PeopleTower y = new PeopleTower();
        y.person(150, 50, 400, 0, 0);
        y.person(150, 50, 400, 0, 0);
        y.person(150, 50, 400, 1, 0);
        y.take(0);
        due(13, "swap(1, 2) against a fear", y.swap(1, 2), NOT);
        y = new PeopleTower();
        y.width(0, 1);
        y.person(150, 50, 40, 1, 0);
        y.person(150, 40, 49, 1, 0);
        y.take(0);
        due(13, "swap(0, 1) against a bearing", y.swap(0, 1), NOT);
        dueRow(13, y, 0, 1);
    }

    private static void tick() {
        PeopleTower x = three();
        due(14, "tick(0), none at hand", x.tick(0), NOT);
        due(14, "tick(3), OUTSIDE before NOT", x.tick(3), OUTSIDE);
        x.take(0);
        int[] bad = {-1, 3, LEAST, MOST};
        for (int what : bad) {
            due(14, "tick(" + what + ")", x.tick(what), OUTSIDE);
        }
        due(14, "tick(0)", x.tick(0), 7);
        due(14, "tick(1)", x.tick(1), 14);
        due(14, "tick(2)", x.tick(2), NONE);
        x = alike(7);
        x.width(0, 1);
        x.width(2, 2);
        x.width(3, 3);
        x.storeys(4);
        x.take(0);
        due(14, "tick(0), the longest climb", x.tick(0), 2 + 3 + 8 + 15);
        due(14, "tick(1), the longest climb", x.tick(1), 56);
    }

    /** One on one: 8 * 20 eighths in each of the ticks 6, 7, 8. */
    private static PeopleTower pair(int stamina) {
        PeopleTower x = new PeopleTower();
        x.width(0, 1);
        x.person(150, 50, 400, 0, stamina);
        x.person(150, 20, 0, 1, 0);
        x.take(0);
        return x;
    }

    private static void fallEdges() {
        due(14, "tick(2), stamina 60 of 60", pair(60).tick(2), NONE);
        due(14, "tick(2), stamina 59 of 60", pair(59).tick(2), 8);
        due(14, "tick(2), stamina 40 of 60", pair(40).tick(2), 8);
        due(14, "tick(2), stamina 39 of 60", pair(39).tick(2), 7);
        due(14, "tick(2), stamina 19 of 60", pair(19).tick(2), 6);
        due(14, "tick(2), stamina 0", pair(0).tick(2), 6);
    }

    private static void weak() {
        PeopleTower x = three();
        due(15, "weak(), none at hand", x.weak(), NOT);
        x.take(0);
        due(15, "weak(), no fall", x.weak(), NONE);
        due(15, "weak(), of one", pair(0).weak(), 0);
        x = new PeopleTower();
        x.person(150, 50, 400, 0, 30);
        x.person(150, 50, 400, 0, 10);
        x.person(150, 40, 0, 1, 0);
        x.take(0);
        due(15, "tick(2)", x.tick(2), 8);
        due(15, "weak(), the one who gives way first", x.weak(), 1);
        x.swap(0, 1);
        due(15, "weak() goes with the person", x.weak(), 0);
        x = new PeopleTower();
        x.person(150, 50, 400, 0, 0);
        x.person(150, 50, 400, 0, 0);
        x.person(150, 40, 0, 1, 0);
        x.take(0);
        due(15, "weak(), the least of two", x.weak(), 0);
        x = new PeopleTower();
        x.storeys(1);
        x.width(0, 1);
        x.person(150, 50, 400, 0, 0);
        x.take(0);
        due(15, "weak(), nobody above", x.weak(), NONE);
        x.width(0, 1);
        x.storeys(2);
        x.person(150, 40, 0, 1, 0);
        x.take(0);
        due(15, "weak(), someone above", x.weak(), 0);
        x.storeys(1);
        x.take(0);
        due(15, "weak(), nobody above again", x.weak(), NONE);
    }

    private static void effort() {
        PeopleTower x = pair(0);
        int[] efforts = {0, 0, 0, 0, 0, 0, 160, 320, 480, 480, 480, 480};
        for (int tick = 0; tick < efforts.length; tick++) {
            due(16, "effort(0, " + tick + ")", x.effort(0, tick), efforts[tick]);
        }
        due(16, "effort(0, 200)", x.effort(0, 200), 480);
        due(16, "effort(1, 200)", x.effort(1, 200), 0);
        int[] badTicks = {-1, 201, LEAST, MOST};
        for (int tick : badTicks) {
            due(16, "effort(0, " + tick + ")", x.effort(0, tick), OUTSIDE);
        }
        int[] badPlaces = {-1, 2, LEAST, MOST};
        for (int place : badPlaces) {
            due(16, "effort(" + place + ", 0)", x.effort(place, 0), UNKNOWN);
            due(16, "effort(" + place + ", 201), UNKNOWN before OUTSIDE", x.effort(place, 201), UNKNOWN);
        }
        x = new PeopleTower();
        due(16, "effort(0, 0), none at hand", x.effort(0, 0), NOT);
        due(16, "effort(0, 201), OUTSIDE before NOT", x.effort(0, 201), OUTSIDE);
        due(16, "effort(3, 0), UNKNOWN before NOT", x.effort(3, 0), UNKNOWN);
        // three one on another, 2 + 3 + 4 ticks up: the middle one alone on the foot for 4 and for 3
        x.storeys(3);
        x.width(0, 1);
        x.person(150, 50, 400, 0, 20000);
        x.person(150, 30, 400, 1, 20000);
        x.person(150, 20, 400, 2, 20000);
        x.take(0);
        due(16, "effort(0, 9)", x.effort(0, 9), 4 * 240);
        due(16, "effort(0, 13)", x.effort(0, 13), 4 * 240 + 4 * 400);
        due(16, "effort(0, 16)", x.effort(0, 16), 4 * 240 + 4 * 400 + 3 * 240);
        due(16, "effort(0, 18)", x.effort(0, 18), 4 * 240 + 4 * 400 + 3 * 240);
        due(16, "effort(1, 9)", x.effort(1, 9), 0);
        due(16, "effort(1, 18)", x.effort(1, 18), 4 * 160);
    }

    private static void worths() {
        PeopleTower x = three();
        x.take(0);
        int[] bad = {-1, 1001, LEAST, MOST};
        for (int worth : bad) {
            due(17, "worths(" + worth + ", 0)", x.worths(worth, 0), OUTSIDE);
            due(17, "worths(0, " + worth + ")", x.worths(0, worth), OUTSIDE);
        }
        due(17, "attempt() by the first worths", x.attempt(), 15);
        due(17, "worths(1000, 0)", x.worths(1000, 0), 1);
        due(17, "attempt()", x.attempt(), 0);
        due(17, "worths(0, 1000)", x.worths(0, 1000), 1);
        due(17, "attempt()", x.attempt(), 1000);
        due(17, "count(4)", x.count(4), 1015);
        PeopleTower y = pair(0);
        y.worths(7, 9);
        due(17, "attempt(), the worth of the crown", y.attempt(), 7);
        due(17, "worths without a placing", new PeopleTower().worths(1, 2), 1);
    }

    private static void attempt() {
        PeopleTower x = three();
        due(18, "attempt(), none at hand", x.attempt(), NOT);
        due(18, "count(4)", x.count(4), 0);
        x.take(0);
        due(18, "attempt(), taken down", x.attempt(), 15);
        due(18, "attempt() again", x.attempt(), 15);
        due(18, "count(4)", x.count(4), 30);
        x.out(0, true);
        due(18, "attempt() with someone out", x.attempt(), 15);
        x.storeys(2);
        due(18, "attempt() behind storeys", x.attempt(), NOT);
        due(18, "count(4): points stay", x.count(4), 45);
        PeopleTower y = pair(0);
        due(18, "attempt(), crowned alone", y.attempt(), 10);
        due(18, "count(4)", y.count(4), 10);
    }

    /** Two on one, crowned at 8: the first of them is borne from tick 6 on, 8 * 20 a tick. */
    private static void attemptAtTheCrown() {
        int[] staminas = {19, 39, 59, 60, 99, 100, 139, 179, 180};
        int[] falls = {6, 7, 8, 9, 9, 10, 10, 11, 12};
        int[] points = {0, 0, 0, 10, 10, 10, 10, 10, 10};
        for (int i = 0; i < staminas.length; i++) {
            PeopleTower x = new PeopleTower();
            x.width(0, 1);
            x.width(1, 2);
            x.person(150, 50, 400, 0, staminas[i]);
            x.person(150, 20, 0, 1, 0);
            x.person(150, 20, 0, 1, 0);
            x.take(0);
            due(18, "tick(0)", x.tick(0), 8);
            due(18, "tick(2), stamina " + staminas[i], x.tick(2), falls[i]);
            due(18, "attempt(), stamina " + staminas[i], x.attempt(), points[i]);
        }
    }

    private static void count() {
        PeopleTower x = three();
        x.out(0, true);
        x.out(2, true);
        due(19, "count(2)", x.count(2), 3);
        due(19, "count(3)", x.count(3), 2);
        x.out(0, false);
        x.out(2, false);
        x.storeys(2);
        x.take(0);
        x.attempt();
        int[] counts = {2, 3, 3, 0, 15, 1};
        for (int what = 0; what < counts.length; what++) {
            due(19, "count(" + what + ")", x.count(what), counts[what]);
        }
        int[] bad = {-1, 6, LEAST, MOST};
        for (int what : bad) {
            due(19, "count(" + what + ")", x.count(what), OUTSIDE);
        }
    }

    private static void refusalsChangeNothing() {
        PeopleTower x = three();
        x.take(0);
        x.attempt();
        x.storeys(0);
        x.width(1, 4);
        x.width(-1, 2);
        x.person(150, 50, 50, 9, 50);
        x.out(3, true);
        x.play(51);
        x.take(7);
        x.swap(0, 2);
        x.swap(0, 9);
        x.worths(1, 1001);
        x.worths(1001, 1);
        int[] counts = {2, 3, 3, 0, 15, 1};
        for (int what = 0; what < counts.length; what++) {
            due(19, "count(" + what + ") behind refusals", x.count(what), counts[what]);
        }
        dueRow(11, x, 0, 1, 2);
        due(18, "attempt() behind refusals", x.attempt(), 15);
        due(6, "play(0) behind refusals", x.play(0), 10);
        due(3, "width(1, 1) behind refusals", x.width(1, 1), 1);
    }
}
