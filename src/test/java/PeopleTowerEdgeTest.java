/**
 * Each sentence of the document that names a boundary, in the document's order: the last number
 * that is taken, the first that is not, on both sides. That refusals change nothing is tested by
 * PeopleTowerRefusalTest.
 */
public final class PeopleTowerEdgeTest {
    private static final int NONE = -1, UNKNOWN = -2, OUTSIDE = -3, NOT = -4, FULL = -5;

    private static int checks = 0;
    private static int wrong = 0;

    private static void due(String call, int got, int want) {
        checks++;
        if (got != want) {
            wrong++;
            System.out.println(call + " answered " + got + ", due is " + want);
        }
    }

    public static void main(String[] args) {
        towers();
        people();
        placings();
        atHand();
        climbing();
        points();
        longUse();
        System.out.println(checks + " checks, " + wrong + " wrong");
        if (wrong != 0) {
            System.exit(1);
        }
    }

    private static void towers() {
        storeysFromOneToFour();
        storeysOfEveryTower();
        widthsFromOneToThree();
        widthsOfEveryTower();
        widthsAboveAreKept();
        placesAreNumberedFromTheFoot();
        spotsAreTakenModuloTheWidthBelow();
        onTheOneTwice();
        halvesOfHalves();
    }

    private static void people() {
        eightPeopleAtMost();
        numbersOfAPerson();
        numbersOfAPersonAreWhatTheyWere();
        outAtFirst();
        outOfTheLastPerson();
    }

    private static void placings() {
        asManyPeopleAsPlaces();
        noOneIsOut();
        noOneIsAboveItsFear();
        borneJustEnough();
        borneAQuarterTooMuch();
        bearingsFromNoneToMost();
        playJustEnough();
        playOfEachStorey();
        playFromNoneToFifty();
        orderByPlaceZeroThenOne();
        levelIsLeastUneven();
        levelNone();
        closeFewestThenLevelThenFirst();
        closeAllOrNone();
    }

    private static void atHand() {
        noneAtFirst();
        endsWhenToldWhatItWas();
        staysBehindOtherCalls();
        queriesTakeNothing();
        takeWays();
        swapEdges();
    }

    private static void climbing() {
        ticksOfEveryTower();
        effortByTheTick();
        effortOfTicksFromNoneToLast();
        effortAsIfNoOneGaveWay();
        moreThanEightTimesStamina();
        staminasFromNoneToMost();
        fallWhileClimbingAndComingOff();
        weakIsTheLeastOfThatTick();
        tickNone();
    }

    private static void points() {
        worthsFromNoneToMost();
        pointsByTheFall();
        pointsAddUp();
        countsFromFirstToLast();
    }

    // ---- makers

    /** Storeys of these widths, told from above so that no more than 7 places ever stand. */
    private static PeopleTower tower(int... widths) {
        PeopleTower x = new PeopleTower();
        x.storeys(1);
        for (int storey = 0; storey < widths.length; storey++) {
            x.width(storey, widths[storey]);
        }
        x.storeys(widths.length);
        return x;
    }

    private static PeopleTower alike(int people, int... widths) {
        PeopleTower x = tower(widths);
        for (int i = 0; i < people; i++) {
            x.person(150, 40, 400, 3, 20000);
        }
        return x;
    }

    /** One below with this bearing and stamina, one of this weight on it. */
    private static PeopleTower pair(int bears, int stamina, int weight) {
        PeopleTower x = tower(1, 1);
        x.person(150, 50, bears, 0, stamina);
        x.person(150, weight, 0, 1, 0);
        return x;
    }

    private static int sum(int[] widths, int h) {
        int sum = 0;
        for (int storey = 0; storey < h; storey++) {
            sum += widths[storey];
        }
        return sum;
    }

    private static int[] widthsOf(int code) {
        return new int[] {1 + code % 3, 1 + code / 3 % 3, 1 + code / 9 % 3, 1 + code / 27 % 3};
    }

    private static String told(int[] row) {
        StringBuilder text = new StringBuilder();
        for (int number : row) {
            text.append(text.length() == 0 ? "" : ", ").append(number);
        }
        return text.toString();
    }

    private static void dueRow(String text, PeopleTower x, int... who) {
        for (int place = 0; place < who.length; place++) {
            due(text + ": at(" + place + ")", x.at(place), who[place]);
        }
    }

    private static void dueLoads(String text, PeopleTower x, int... loads) {
        for (int place = 0; place < loads.length; place++) {
            due(text + ": load(" + place + ")", x.load(place), loads[place]);
        }
    }

    // ---- "STOREYS 0 (the foot) .. h - 1 (h 1 .. 4; 2 at first), STOREY s with a WIDTH (1 .. 3; 2, 1, 1, 1 at first)"

    private static void storeysFromOneToFour() {
        PeopleTower x = new PeopleTower();
        due("count(0) at first", x.count(0), 2);
        due("count(1) at first", x.count(1), 3);
        due("storeys(0)", x.storeys(0), OUTSIDE);
        due("storeys(1)", x.storeys(1), 2);
        due("count(0)", x.count(0), 1);
        due("storeys(5)", x.storeys(5), OUTSIDE);
        due("storeys(4)", x.storeys(4), 5);
        due("count(0)", x.count(0), 4);
    }

    /** "7 PLACES at most", in every tower that can be told. */
    private static void storeysOfEveryTower() {
        for (int code = 0; code < 81; code++) {
            int[] widths = widthsOf(code);
            PeopleTower x = tower(widths[0]);
            for (int storey = 1; storey < 4; storey++) {
                x.width(storey, widths[storey]);
            }
            int places = widths[0];
            for (int h = 1; h <= 4; h++) {
                boolean fits = sum(widths, h) <= 7;
                places = fits ? sum(widths, h) : places;
                String text = "storeys(" + h + ") of " + told(widths);
                due(text, x.storeys(h), fits ? places : NOT);
                due(text + ": count(1)", x.count(1), places);
            }
        }
    }

    private static void widthsFromOneToThree() {
        int[] atFirst = {2, 1, 1, 1};
        for (int storey = 0; storey < 4; storey++) {
            PeopleTower x = new PeopleTower();
            x.storeys(1);
            String text = "width of storey " + storey;
            due(text + ", 1", x.width(storey, 1), atFirst[storey]);
            due(text + ", 0", x.width(storey, 0), OUTSIDE);
            due(text + ", 3", x.width(storey, 3), 1);
            due(text + ", 4", x.width(storey, 4), OUTSIDE);
            due(text + ", 2", x.width(storey, 2), 3);
        }
        PeopleTower x = new PeopleTower();
        due("width(-1, 1)", x.width(-1, 1), UNKNOWN);
        due("width(4, 1)", x.width(4, 1), UNKNOWN);
    }

    private static void widthsOfEveryTower() {
        for (int code = 0; code < 81; code++) {
            for (int h = 1; h <= 4; h++) {
                int[] widths = widthsOf(code);
                if (sum(widths, h) <= 7) {
                    widthsOf(widths, h);
                }
            }
        }
    }

    private static void widthsOf(int[] widths, int h) {
        for (int storey = 0; storey < 4; storey++) {
            for (int w = 1; w <= 3; w++) {
                PeopleTower x = new PeopleTower();
                x.storeys(1);
                for (int s = 0; s < 4; s++) {
                    x.width(s, widths[s]);
                }
                x.storeys(h);
                int was = widths[storey];
                int places = sum(widths, h) + (storey < h ? w - was : 0);
                String text = h + " storeys of " + told(widths) + ": width(" + storey + ", " + w + ")";
                due(text, x.width(storey, w), places > 7 ? NOT : was);
                due(text + ": count(1)", x.count(1), places > 7 ? sum(widths, h) : places);
                due(text + ": count(0)", x.count(0), h);
                due(text + " again", x.width(storey, 1), places > 7 ? was : w);
            }
        }
    }

    /** "also one above": such a width counts when the tower reaches it. */
    private static void widthsAboveAreKept() {
        PeopleTower x = new PeopleTower();
        x.width(2, 3);
        x.width(3, 2);
        due("count(1): what is above does not count", x.count(1), 3);
        due("storeys(3)", x.storeys(3), 6);
        due("storeys(4), 8 places", x.storeys(4), NOT);
        due("width(3, 1)", x.width(3, 1), 2);
        due("storeys(4), 7 places", x.storeys(4), 7);
        due("storeys(1)", x.storeys(1), 2);
        due("storeys(3), the width is kept", x.storeys(3), 6);
    }

    /** "PLACES are numbered from 0, STOREY by STOREY from the foot up": the last one, and the first that is none. */
    private static void placesAreNumberedFromTheFoot() {
        for (int code = 0; code < 81; code++) {
            int[] widths = widthsOf(code);
            for (int h = 1; h <= 4 && sum(widths, h) <= 7; h++) {
                PeopleTower x = alike(8, widths[0]);
                for (int storey = 1; storey < h; storey++) {
                    x.width(storey, widths[storey]);
                }
                x.storeys(h);
                int places = sum(widths, h);
                String text = h + " storeys of " + told(widths);
                due(text + ": at(last), none at hand", x.at(places - 1), NOT);
                due(text + ": at(last + 1), none at hand", x.at(places), UNKNOWN);
                due(text + ": load(last + 1), none at hand", x.load(places), UNKNOWN);
                x.take(0);
                due(text + ": at(-1)", x.at(-1), UNKNOWN);
                due(text + ": at(0)", x.at(0), 0);
                due(text + ": at(last)", x.at(places - 1), places - 1);
                due(text + ": at(last + 1)", x.at(places), UNKNOWN);
                due(text + ": load(-1)", x.load(-1), UNKNOWN);
                due(text + ": load(last)", x.load(places - 1), 0);
                due(text + ": load(last + 1)", x.load(places), UNKNOWN);
                due(text + ": effort(last, 200)", x.effort(places - 1, 200), 0);
                due(text + ": effort(last + 1, 0)", x.effort(places, 0), UNKNOWN);
                due(text + ": swap(0, last)", x.swap(0, places - 1), 1);
                due(text + ": swap(0, last + 1)", x.swap(0, places), UNKNOWN);
                due(text + ": swap(last + 1, 0)", x.swap(places, 0), UNKNOWN);
            }
        }
        PeopleTower x = tower(2, 2);
        x.person(150, 50, 400, 1, 0);
        x.person(151, 50, 400, 1, 0);
        x.person(160, 50, 400, 0, 0);
        x.person(161, 50, 400, 0, 0);
        x.play(1);
        x.take(0);
        dueRow("the foot first", x, 2, 3, 0, 1);
    }

    /** "rests, half and half, on those of STOREY s with the spots j and j + 1, each modulo its WIDTH" */
    private static void spotsAreTakenModuloTheWidthBelow() {
        int[] weights = {21, 35, 50};
        int[][] restOnTwo = {{0, 1}, {1, 0}, {0, 1}};
        int[][] restOnThree = {{0, 1}, {1, 2}, {2, 0}};
        for (int below = 1; below <= 3; below++) {
            for (int above = 1; above <= 3; above++) {
                PeopleTower x = tower(below, above);
                for (int i = 0; i < below; i++) {
                    x.person(150, 120, 400, 0, 0);
                }
                int[] loads = new int[below + above];
                for (int spot = 0; spot < above; spot++) {
                    x.person(150, weights[spot], 0, 1, 0);
                    for (int half = 0; half < 2; half++) {
                        int on = below == 1 ? 0 : below == 2 ? restOnTwo[spot][half] : restOnThree[spot][half];
                        loads[on] += 4 * weights[spot];
                    }
                }
                due("take(0) of " + above + " on " + below, x.take(0), 0);
                dueLoads(above + " on " + below, x, loads);
            }
        }
    }

    /** "(on the one twice, if they are the same)" */
    private static void onTheOneTwice() {
        PeopleTower x = tower(1, 1, 1, 1);
        x.person(150, 120, 400, 0, 0);
        x.person(150, 119, 400, 1, 0);
        x.person(150, 118, 400, 2, 0);
        x.person(150, 117, 400, 3, 0);
        x.take(0);
        dueLoads("one on another", x, 8 * (119 + 118 + 117), 8 * (118 + 117), 8 * 117, 0);
    }

    /** "told in eighths": halves of halves stay exact, odd weights too. */
    private static void halvesOfHalves() {
        PeopleTower x = tower(3, 2, 1, 1);
        int[][] of = {{99, 0}, {98, 0}, {97, 0}, {51, 1}, {53, 1}, {33, 2}, {21, 3}};
        for (int[] p : of) {
            x.person(150, p[0], 400, p[1], 0);
        }
        x.take(0);
        dueLoads("3, 2, 1, 1", x, 4 * 51 + 2 * 54, 4 * 51 + 4 * 53 + 4 * 54, 4 * 53 + 2 * 54,
                4 * 54, 4 * 54, 8 * 21, 0);
        x = tower(1, 3, 2, 1);
        int[][] round = {{99, 0}, {51, 1}, {53, 1}, {57, 1}, {33, 2}, {35, 2}, {21, 3}};
        for (int[] p : round) {
            x.person(150, p[0], 400, p[1], 0);
        }
        x.take(0);
        dueLoads("1, 3, 2, 1", x, 8 * (51 + 53 + 57 + 33 + 35 + 21), 4 * 33 + 2 * 21, 4 * 33 + 4 * 35 + 4 * 21,
                4 * 35 + 2 * 21, 4 * 21, 4 * 21, 0);
        x = tower(2, 2, 2, 1);
        int[][] even = {{99, 0}, {99, 0}, {51, 1}, {53, 1}, {33, 2}, {35, 2}, {21, 3}};
        for (int[] p : even) {
            x.person(150, p[0], 400, p[1], 0);
        }
        x.take(0);
        int upper = 33 + 35 + 21;
        dueLoads("2, 2, 2, 1", x, 4 * (51 + 53 + upper), 4 * (51 + 53 + upper), 4 * upper, 4 * upper,
                4 * 21, 4 * 21, 0);
    }

    // ---- "PEOPLE are numbered from 0, 8 at most"

    private static void eightPeopleAtMost() {
        PeopleTower x = new PeopleTower();
        for (int i = 0; i < 8; i++) {
            due("person", x.person(150, 50, 100, 1, 100), i);
            due("count(2)", x.count(2), i + 1);
        }
        due("person, the ninth", x.person(150, 50, 100, 1, 100), FULL);
        due("person, the tenth", x.person(150, 50, 100, 1, 100), FULL);
        due("count(2)", x.count(2), 8);
        x.out(7, true);
        due("person, though one is out", x.person(150, 50, 100, 1, 100), FULL);
        due("person, OUTSIDE goes before FULL", x.person(201, 50, 100, 1, 100), OUTSIDE);
    }

    /**
     * "a HEIGHT (100 .. 200), a WEIGHT (20 .. 120), what it can BEAR (0 .. 400),
     * a FEAR (.. 0 .. 3) and a STAMINA (0 .. 20000)"
     */
    private static void numbersOfAPerson() {
        int[] least = {100, 20, 0, 0, 0};
        int[] most = {200, 120, 400, 3, 20000};
        for (int i = 0; i < 5; i++) {
            PeopleTower x = new PeopleTower();
            due("number " + i + " at its least", personWith(x, i, least[i]), 0);
            due("number " + i + " below its least", personWith(x, i, least[i] - 1), OUTSIDE);
            due("number " + i + " at its most", personWith(x, i, most[i]), 1);
            due("number " + i + " above its most", personWith(x, i, most[i] + 1), OUTSIDE);
            due("count(2)", x.count(2), 2);
        }
        PeopleTower x = new PeopleTower();
        due("all at the least", x.person(100, 20, 0, 0, 0), 0);
        due("all at the most", x.person(200, 120, 400, 3, 20000), 1);
    }

    private static int personWith(PeopleTower x, int which, int number) {
        int[] p = {150, 50, 100, 1, 100};
        p[which] = number;
        return x.person(p[0], p[1], p[2], p[3], p[4]);
    }

    private static void numbersOfAPersonAreWhatTheyWere() {
        PeopleTower x = tower(1, 1);
        x.person(200, 120, 120, 0, 20000);
        x.person(100, 120, 0, 1, 0);
        due("fits(): 120 borne by 120", x.fits(), 1);
        x.take(0);
        due("load(0) by the heaviest", x.load(0), 8 * 120);
        x = tower(1, 1);
        x.person(100, 20, 20, 0, 0);
        x.person(200, 20, 0, 1, 0);
        due("fits(): 20 borne by 20", x.fits(), 1);
        x.take(0);
        due("load(0) by the lightest", x.load(0), 8 * 20);
    }

    /** "One may be OUT (none is at first)" */
    private static void outAtFirst() {
        PeopleTower x = alike(8, 2, 1);
        due("count(3)", x.count(3), 0);
        for (int person = 0; person < 8; person++) {
            due("out(" + person + ", true)", x.out(person, true), 0);
            due("count(3)", x.count(3), person + 1);
            due("out(" + person + ", true) again", x.out(person, true), 1);
        }
        due("fits() with all out", x.fits(), 0);
        for (int person = 0; person < 8; person++) {
            due("out(" + person + ", false)", x.out(person, false), 1);
            due("out(" + person + ", false) again", x.out(person, false), 0);
            due("count(3)", x.count(3), 7 - person);
        }
        due("fits() with none out", x.fits(), 8 * 7 * 6);
    }

    private static void outOfTheLastPerson() {
        PeopleTower x = new PeopleTower();
        due("out(0, true) without people", x.out(0, true), UNKNOWN);
        for (int size = 1; size <= 8; size++) {
            x.person(150, 50, 100, 1, 100);
            due("out(-1, true) of " + size, x.out(-1, true), UNKNOWN);
            due("out(last, false) of " + size, x.out(size - 1, false), 0);
            due("out(last + 1, true) of " + size, x.out(size, true), UNKNOWN);
            due("out(last + 1, false) of " + size, x.out(size, false), UNKNOWN);
        }
        due("count(3)", x.count(3), 0);
    }

    // ---- "A PLACING gives each PLACE one of PEOPLE, no one twice"

    private static void asManyPeopleAsPlaces() {
        int[] ways = {0, 0, 0, 6, 24, 60, 120, 210, 336};
        for (int size = 0; size <= 8; size++) {
            due("fits() of " + size + " in 3 places", alike(size, 2, 1).fits(), ways[size]);
        }
        due("fits() of 6 in 7 places", alike(6, 3, 3, 1).fits(), 0);
        due("fits() of 7 in 7 places", alike(7, 3, 3, 1).fits(), 5040);
        due("fits() of 8 in 7 places", alike(8, 3, 3, 1).fits(), 40320);
        due("fits() of none in 1 place", alike(0, 1).fits(), 0);
        due("fits() of 1 in 1 place", alike(1, 1).fits(), 1);
    }

    /** "It FITS, if no one of them is OUT" */
    private static void noOneIsOut() {
        PeopleTower x = alike(4, 2, 1);
        x.out(3, true);
        due("fits(), 3 of 4 for 3 places", x.fits(), 6);
        x.out(0, true);
        due("fits(), 2 of 4 for 3 places", x.fits(), 0);
        due("level(), 2 of 4 for 3 places", x.level(), NONE);
        x.out(3, false);
        due("take(0), 3 of 4 for 3 places", x.take(0), 0);
        dueRow("without 0", x, 1, 2, 3);
    }

    /** "or above its FEAR": the highest storey it goes to, and the next. */
    private static void noOneIsAboveItsFear() {
        for (int fear = 0; fear <= 3; fear++) {
            for (int h = 1; h <= 4; h++) {
                PeopleTower x = tower(1);
                x.storeys(h);
                for (int below = 0; below < h - 1; below++) {
                    x.person(150, 50, 400, below, 0);
                }
                x.person(150, 50, 0, fear, 0);
                due("fits(), fear " + fear + " on storey " + (h - 1), x.fits(), h - 1 <= fear ? 1 : 0);
            }
        }
        PeopleTower x = tower(2, 2);
        x.person(150, 50, 400, 1, 0);
        x.person(150, 50, 400, 0, 0);
        x.person(150, 50, 400, 0, 0);
        x.person(150, 50, 400, 0, 0);
        due("fits(), one of two goes up", x.fits(), 0);
    }

    /** "no LOAD is above what is BORNE": as much is none too much. */
    private static void borneJustEnough() {
        due("bears 50 of 50", pair(50, 0, 50).fits(), 1);
        due("bears 49 of 50", pair(49, 0, 50).fits(), 0);
        due("bears 51 of 50", pair(51, 0, 50).fits(), 1);
        for (int storey = 0; storey < 3; storey++) {
            for (int less = 0; less <= 1; less++) {
                PeopleTower x = tower(1, 1, 1, 1);
                int[] loads = {90, 60, 30, 0};
                for (int s = 0; s < 4; s++) {
                    x.person(150, 30, loads[s] - (s == storey ? less : 0), s, 0);
                }
                due("storey " + storey + " bears " + less + " less", x.fits(), 1 - less);
            }
        }
    }

    /** A load of 20 1/4 on an outer place of the foot: 20 is too little, 21 is not. */
    private static void borneAQuarterTooMuch() {
        for (int bears = 20; bears <= 21; bears++) {
            PeopleTower x = tower(3, 2, 1);
            x.person(150, 50, bears, 0, 0);
            x.person(150, 50, 400, 0, 0);
            x.person(150, 50, 400, 0, 0);
            x.person(150, 20, 400, 1, 0);
            x.person(150, 20, 400, 1, 0);
            x.person(150, 41, 400, 2, 0);
            due("bears " + bears + " of 20 1/4", x.fits(), bears == 20 ? 0 : 8);
            x.take(0);
            due("load(0)", x.load(0), bears == 20 ? NOT : 162);
        }
        due("bears 20 of 20 1/2", halfOf41(20).fits(), 0);
        due("bears 21 of 20 1/2", halfOf41(21).fits(), 2);
    }

    private static PeopleTower halfOf41(int bears) {
        PeopleTower x = tower(2, 1);
        x.person(150, 50, bears, 0, 0);
        x.person(150, 50, 400, 0, 0);
        x.person(150, 41, 0, 1, 0);
        return x;
    }

    /** Bearing 0 stands where nothing rests on it; bearing 400 bears 400 and no more. */
    private static void bearingsFromNoneToMost() {
        due("bears 0 of 20", pair(0, 0, 20).fits(), 0);
        PeopleTower x = tower(3);
        for (int i = 0; i < 3; i++) {
            x.person(150, 120, 0, 0, 0);
        }
        due("bears 0 of 0", x.fits(), 6);
        for (int more = 0; more <= 1; more++) {
            x = tower(1, 1, 3);
            x.person(150, 50, 400, 0, 0);
            x.person(150, 80, 400, 1, 0);
            x.person(150, 100, 0, 2, 0);
            x.person(150, 110, 0, 2, 0);
            x.person(150, 110 + more, 0, 2, 0);
            due("bears 400 of " + (400 + more), x.fits(), more == 0 ? 6 : 0);
        }
    }

    /** "in each STOREY the greatest HEIGHT is no more than PLAY (0 .. 50; 10 at first) above the least" */
    private static void playJustEnough() {
        due("160 beside 150, play at first", beside(150, 160).fits(), 2);
        due("161 beside 150, play at first", beside(150, 161).fits(), 0);
        due("150 beside 161, play at first", beside(161, 150).fits(), 0);
        PeopleTower x = tower(3);
        x.person(155, 50, 0, 0, 0);
        x.person(150, 50, 0, 0, 0);
        x.person(160, 50, 0, 0, 0);
        due("150, 155, 160", x.fits(), 6);
        due("level()", x.level(), 10);
        x.play(9);
        due("150, 155, 160 with play 9", x.fits(), 0);
        x.play(10);
        due("150, 155, 160 with play 10", x.fits(), 6);
    }

    private static PeopleTower beside(int... heights) {
        PeopleTower x = tower(heights.length);
        for (int height : heights) {
            x.person(height, 50, 0, 0, 0);
        }
        return x;
    }

    private static void playOfEachStorey() {
        for (int storey = 0; storey < 3; storey++) {
            for (int more = 0; more <= 1; more++) {
                PeopleTower x = tower(2, 2, 2);
                for (int s = 2; s >= 0; s--) {
                    x.person(110 + 40 * s, 30, 400, 3, 0);
                    x.person(110 + 40 * s + (s == storey ? 10 + more : 0), 30, 400, 3, 0);
                }
                // each of the three pairs may stand in each storey: 3! ways of pairs, 2 ways of each
                due("a pair in " + storey + " is uneven by " + (10 + more), x.fits(), more == 0 ? 48 : 0);
                due("level()", x.level(), more == 0 ? 10 : NONE);
            }
        }
        due("heights of two storeys do not meet", onTop(100, 200).fits(), 2);
    }

    private static PeopleTower onTop(int... heights) {
        PeopleTower x = tower(1, 1);
        for (int height : heights) {
            x.person(height, 50, 400, 1, 0);
        }
        return x;
    }

    private static void playFromNoneToFifty() {
        PeopleTower x = new PeopleTower();
        due("play(0)", x.play(0), 10);
        due("play(-1)", x.play(-1), OUTSIDE);
        due("play(50)", x.play(50), 0);
        due("play(51)", x.play(51), OUTSIDE);
        due("play(50) again", x.play(50), 50);
        int[][] cases = {{0, 0, 2}, {0, 1, 0}, {1, 1, 2}, {1, 2, 0}, {50, 50, 2}, {50, 51, 0}, {50, 100, 0}};
        for (int[] one : cases) {
            x = beside(100, 100 + one[1]);
            x.play(one[0]);
            due("play " + one[0] + ", " + one[1] + " between them", x.fits(), one[2]);
        }
    }

    /** "PLACINGS stand in ORDER by who is in PLACE 0, then 1, and so on" */
    private static void orderByPlaceZeroThenOne() {
        PeopleTower x = alike(8, 3, 3, 1);
        x.take(0);
        dueRow("the first of all", x, 0, 1, 2, 3, 4, 5, 6);
        x = tower(1, 1, 1);
        x.person(150, 50, 400, 1, 0);
        x.person(150, 50, 400, 2, 0);
        x.person(150, 50, 400, 2, 0);
        x.take(0);
        dueRow("place 1 decides behind place 0", x, 0, 1, 2);
        x.out(0, true);
        x.person(150, 50, 400, 0, 0);
        x.take(0);
        dueRow("who goes to the foot alone", x, 3, 1, 2);
    }

    /** "that of those that FIT which is least UNEVEN; of several the first": all storeys together. */
    private static void levelIsLeastUneven() {
        PeopleTower x = tower(2, 2);
        x.person(150, 30, 400, 1, 0);
        x.person(155, 30, 400, 1, 0);
        x.person(152, 30, 400, 1, 0);
        x.person(158, 30, 400, 1, 0);
        due("level() of 2 + 3", x.level(), 5);
        due("take(0)", x.take(0), 5);
        dueRow("the first of several", x, 0, 2, 1, 3);
        x = tower(2, 2);
        x.person(150, 30, 400, 1, 0);
        x.person(151, 30, 400, 1, 0);
        x.person(155, 30, 400, 1, 0);
        x.person(156, 30, 400, 1, 0);
        x.person(151, 30, 400, 0, 0);
        due("take(0), two pairs", x.take(0), 1);
        dueRow("0 apart at the foot", x, 1, 4, 2, 3);
        x.out(4, true);
        due("take(0), without the double", x.take(0), 2);
        dueRow("1 and 1", x, 0, 1, 2, 3);
    }

    /** "NONE: none FITS" */
    private static void levelNone() {
        due("level() without people", new PeopleTower().level(), NONE);
        due("close() without people", new PeopleTower().close(), NONE);
        due("level(), one too few", alike(2, 2, 1).level(), NONE);
        due("level(), just enough", alike(3, 2, 1).level(), 0);
        due("close(), one too few", alike(2, 2, 1).close(), NONE);
        due("close(), just enough", alike(3, 2, 1).close(), 3);
        due("level() of most", mostUneven().level(), 50 + 50 + 50);
        due("take(0) of most", mostUneven().take(0), 50 + 50 + 50);
        due("take(1) of most", mostUneven().take(1), 50 + 50 + 50);
    }

    /** As uneven as seven places can be; fear leaves each one storey alone. */
    private static PeopleTower mostUneven() {
        PeopleTower x = tower(2, 2, 2, 1);
        x.play(50);
        for (int storey = 0; storey < 3; storey++) {
            x.person(100, 30, 400, storey, 0);
            x.person(150, 30, 400, storey, 0);
        }
        x.person(200, 20, 0, 3, 0);
        return x;
    }

    /** "in which the fewest PLACES have someone else; of several the least UNEVEN; of several the first" */
    private static void closeFewestThenLevelThenFirst() {
        PeopleTower x = tower(2);
        x.person(150, 50, 0, 0, 0);
        x.person(150, 50, 0, 0, 0);
        x.person(160, 50, 0, 0, 0);
        x.person(160, 50, 0, 0, 0);
        x.take(0);
        x.out(0, true);
        due("close(): one, though two alike are more level", x.close(), 1);
        due("take(1)", x.take(1), 10);
        dueRow("the first of 2 and 3", x, 2, 1);
        x.person(155, 50, 0, 0, 0);
        x.out(2, true);
        due("take(1): the more level of 3 and 4", x.take(1), 5);
        dueRow("4 beside 1", x, 4, 1);
        x.out(4, true);
        x.out(1, true);
        x.out(2, false);
        due("close(): both", x.close(), 2);
        due("take(1)", x.take(1), 0);
        dueRow("2 and 3", x, 2, 3);
    }

    private static void closeAllOrNone() {
        PeopleTower x = new PeopleTower();
        for (int i = 0; i < 3; i++) {
            x.person(150, 40, 400, 3, 20000);
        }
        due("close(), the object is new", x.close(), 3);
        x = alike(8, 3, 3, 1);
        due("close(), none at hand", x.close(), 7);
        x.take(0);
        due("close(), it fits", x.close(), 0);
        x.out(6, true);
        due("close(), one is out", x.close(), 1);
        due("take(1)", x.take(1), 0);
        dueRow("7 in the place of 6", x, 0, 1, 2, 3, 4, 5, 7);
        x.out(5, true);
        due("close(), none is left", x.close(), NONE);
        due("take(1), none is left", x.take(1), NOT);
        x.out(6, false);
        due("close(), 6 is back", x.close(), 1);
        due("take(1)", x.take(1), 0);
        dueRow("6 in the place of 5", x, 0, 1, 2, 3, 4, 6, 7);
        x.storeys(3);
        due("close(), told storeys", x.close(), 7);
        x.storeys(1);
        due("close(), one storey", x.close(), 3);
    }

    // ---- "THE PLACING at hand: none at first; .. it ends when h or a WIDTH is told (also when that is what it was)"

    private static void noneAtFirst() {
        PeopleTower x = new PeopleTower();
        due("count(5) at first", x.count(5), 0);
        due("at(0)", x.at(0), NOT);
        due("load(0)", x.load(0), NOT);
        due("swap(0, 1)", x.swap(0, 1), NOT);
        due("tick(0)", x.tick(0), NOT);
        due("tick(1)", x.tick(1), NOT);
        due("tick(2)", x.tick(2), NOT);
        due("weak()", x.weak(), NOT);
        due("effort(0, 0)", x.effort(0, 0), NOT);
        due("attempt()", x.attempt(), NOT);
        due("worths(10, 15) needs none", x.worths(10, 15), 1);
        due("count(4) needs none", x.count(4), 0);
    }

    private static void endsWhenToldWhatItWas() {
        int[] widths = {2, 1, 1, 1};
        for (int storey = 0; storey < 4; storey++) {
            PeopleTower x = alike(4, 2, 1);
            x.take(0);
            due("count(5)", x.count(5), 1);
            due("width(" + storey + ") as it was", x.width(storey, widths[storey]), widths[storey]);
            due("count(5)", x.count(5), 0);
            due("at(0)", x.at(0), NOT);
            due("close()", x.close(), 3);
        }
        for (int h = 1; h <= 4; h++) {
            PeopleTower x = alike(8, 2, 1);
            x.storeys(h);
            x.take(1);
            due("count(5)", x.count(5), 1);
            due("storeys(" + h + ") as it was", x.storeys(h), h + 1);
            due("count(5)", x.count(5), 0);
            due("attempt()", x.attempt(), NOT);
        }
    }

    /** "(THE PLACING at hand stays.)" */
    private static void staysBehindOtherCalls() {
        PeopleTower x = alike(4, 2, 1);
        x.take(0);
        x.out(0, true);
        x.out(1, true);
        x.out(2, true);
        x.out(3, true);
        x.play(0);
        x.person(170, 50, 100, 1, 10);
        x.worths(1, 2);
        x.attempt();
        x.take(0);
        x.take(1);
        x.swap(0, 1);
        due("count(5)", x.count(5), 1);
        dueRow("all are out", x, 0, 1, 2);
        due("load(0), all are out", x.load(0), 160);
        due("tick(2), all are out", x.tick(2), NONE);
        due("attempt(), all are out", x.attempt(), 2);
    }

    private static void queriesTakeNothing() {
        PeopleTower x = alike(4, 2, 1);
        x.fits();
        x.level();
        x.close();
        due("count(5) behind queries", x.count(5), 0);
        x.take(0);
        x.swap(0, 2);
        x.fits();
        x.level();
        x.close();
        x.tick(2);
        x.weak();
        x.effort(0, 200);
        dueRow("behind queries", x, 2, 1, 0);
        due("count(4) behind queries", x.count(4), 0);
    }

    private static void takeWays() {
        PeopleTower x = alike(4, 2, 1);
        due("take(-1)", x.take(-1), OUTSIDE);
        due("take(2)", x.take(2), OUTSIDE);
        due("count(5)", x.count(5), 0);
        due("take(1), none at hand", x.take(1), 0);
        dueRow("the first", x, 0, 1, 2);
        x.swap(0, 2);
        due("take(1)", x.take(1), 0);
        dueRow("nobody moved", x, 2, 1, 0);
        due("take(0)", x.take(0), 0);
        dueRow("the first again", x, 0, 1, 2);
    }

    private static void swapEdges() {
        PeopleTower x = alike(7, 3, 3, 1);
        x.take(0);
        due("swap(0, 6)", x.swap(0, 6), 1);
        dueRow("ends exchanged", x, 6, 1, 2, 3, 4, 5, 0);
        due("swap(6, 0)", x.swap(6, 0), 1);
        dueRow("and back", x, 0, 1, 2, 3, 4, 5, 6);
        due("swap(6, 6)", x.swap(6, 6), 1);
        dueRow("with itself", x, 0, 1, 2, 3, 4, 5, 6);
        x.out(7, true);
        due("out(6, true)", x.out(6, true), 0);
        due("swap(0, 1), 6 is out", x.swap(0, 1), NOT);
        x.out(6, false);
        due("swap(0, 1), 6 is back", x.swap(0, 1), 1);
        x = pair(50, 0, 20);
        x.take(0);
        due("swap against a fear", x.swap(0, 1), NOT);
        x = tower(1, 1);
        x.person(150, 50, 40, 1, 0);
        x.person(150, 40, 50, 1, 0);
        x.take(0);
        due("swap, borne just enough", x.swap(0, 1), 1);
        dueRow("exchanged", x, 1, 0);
        x = tower(1, 1);
        x.person(150, 50, 40, 1, 0);
        x.person(150, 40, 49, 1, 0);
        x.take(0);
        due("swap, borne one too little", x.swap(0, 1), NOT);
        dueRow("as it was", x, 0, 1);
        x = beside(150, 160);
        x.take(0);
        due("swap, 10 between them", x.swap(0, 1), 1);
        x.play(9);
        due("swap, 10 between them, play 9", x.swap(0, 1), NOT);
        due("swap with itself, 10 between them, play 9", x.swap(0, 0), NOT);
        dueRow("exchanged once", x, 1, 0);
    }

    // ---- "TICKS begin at 0 .. the one in STOREY s takes 2 + s TICKS"

    private static void ticksOfEveryTower() {
        for (int code = 0; code < 81; code++) {
            int[] widths = widthsOf(code);
            for (int h = 1; h <= 4 && sum(widths, h) <= 7; h++) {
                PeopleTower x = alike(8, widths[0]);
                int ticks = 2 * widths[0];
                for (int storey = 1; storey < h; storey++) {
                    x.width(storey, widths[storey]);
                    ticks += (2 + storey) * widths[storey];
                }
                x.storeys(h);
                x.take(0);
                String text = h + " storeys of " + told(widths);
                due(text + ": tick(0)", x.tick(0), ticks);
                due(text + ": tick(1)", x.tick(1), 2 * ticks);
                due(text + ": tick(2)", x.tick(2), NONE);
                due(text + ": tick(-1)", x.tick(-1), OUTSIDE);
                due(text + ": tick(3)", x.tick(3), OUTSIDE);
            }
        }
    }

    /** Two on one: they stand at 5 and 8, come off at 11 and 14; the foot at 2 and 16. */
    private static void effortByTheTick() {
        PeopleTower x = tower(1, 2);
        x.person(150, 50, 400, 0, 20000);
        x.person(150, 20, 0, 1, 0);
        x.person(150, 31, 0, 1, 0);
        x.take(0);
        due("tick(0)", x.tick(0), 8);
        due("tick(1)", x.tick(1), 16);
        int effort = 0;
        for (int tick = 0; tick <= 20; tick++) {
            effort += tick > 5 && tick <= 14 ? 8 * 20 : 0;
            effort += tick > 8 && tick <= 11 ? 8 * 31 : 0;
            due("effort(0, " + tick + ")", x.effort(0, tick), effort);
            due("effort(1, " + tick + ")", x.effort(1, tick), 0);
            due("effort(2, " + tick + ")", x.effort(2, tick), 0);
        }
    }

    /** "EFFORT of a PLACE behind a TICK (0 .. 200)" */
    private static void effortOfTicksFromNoneToLast() {
        PeopleTower x = pair(400, 20000, 20);
        x.take(0);
        due("effort(0, -1)", x.effort(0, -1), OUTSIDE);
        due("effort(0, 0)", x.effort(0, 0), 0);
        due("effort(0, 1)", x.effort(0, 1), 0);
        due("effort(0, 10), DOWN", x.effort(0, 10), 480);
        due("effort(0, 11), behind DOWN", x.effort(0, 11), 480);
        due("effort(0, 199)", x.effort(0, 199), 480);
        due("effort(0, 200)", x.effort(0, 200), 480);
        due("effort(0, 201)", x.effort(0, 201), OUTSIDE);
    }

    private static void effortAsIfNoOneGaveWay() {
        PeopleTower x = pair(400, 0, 20);
        x.take(0);
        due("tick(2)", x.tick(2), 6);
        due("effort(0, 6)", x.effort(0, 6), 160);
        due("effort(0, 7), behind THE FALL", x.effort(0, 7), 320);
        due("effort(0, 8), behind THE FALL", x.effort(0, 8), 480);
        due("tick(2), asked again", x.tick(2), 6);
    }

    /** "Who has more EFFORT than eight times STAMINA gives way": 8 * 20 in each of the ticks 6, 7, 8. */
    private static void moreThanEightTimesStamina() {
        int[] staminas = {0, 19, 20, 39, 40, 59, 60};
        int[] falls = {6, 6, 7, 7, 8, 8, NONE};
        for (int i = 0; i < staminas.length; i++) {
            PeopleTower x = pair(400, staminas[i], 20);
            x.take(0);
            due("tick(2), stamina " + staminas[i], x.tick(2), falls[i]);
            due("weak(), stamina " + staminas[i], x.weak(), falls[i] == NONE ? NONE : 0);
        }
        // half of 21 is 84 eighths a tick: ten and a half, 252 of them in all
        int[] ofHalves = {10, 11, 20, 21, 31, 32};
        int[] fallsOfHalves = {8, 9, 9, 10, 10, NONE};
        for (int i = 0; i < ofHalves.length; i++) {
            PeopleTower x = tower(2, 1);
            x.person(150, 50, 400, 0, ofHalves[i]);
            x.person(150, 50, 400, 0, 20000);
            x.person(150, 21, 0, 1, 0);
            x.take(0);
            due("tick(2) of halves, stamina " + ofHalves[i], x.tick(2), fallsOfHalves[i]);
        }
    }

    /** Stamina 0 is no fall where nothing rests; 20000 is none under the most that can be borne. */
    private static void staminasFromNoneToMost() {
        PeopleTower x = tower(3);
        for (int i = 0; i < 3; i++) {
            x.person(150, 120, 0, 0, 0);
        }
        x.take(0);
        due("tick(2), stamina 0 bears nothing", x.tick(2), NONE);
        due("weak(), stamina 0 bears nothing", x.weak(), NONE);
        due("attempt()", x.attempt(), 15);
        x = tower(1, 1, 2, 3);
        x.person(150, 50, 400, 0, 20000);
        x.person(150, 70, 400, 1, 20000);
        for (int i = 0; i < 2; i++) {
            x.person(150, 75, 400, 2, 20000);
        }
        for (int i = 0; i < 3; i++) {
            x.person(150, 60, 400, 3, 20000);
        }
        x.take(0);
        due("load(0), the most", x.load(0), 8 * 400);
        // with 1 .. 5 above them the next ones take 4, 4, 5, 5, 5; with 6 .. 1 the last takes 5, 5, 5, 4, 4, 3
        int goingUp = 4 * 70 + 4 * 145 + 5 * 220 + 5 * 280 + 5 * 340;
        int comingOff = 5 * 400 + 5 * 340 + 5 * 280 + 4 * 220 + 4 * 145 + 3 * 70;
        due("effort(0, 200), the most", x.effort(0, 200), 8 * (goingUp + comingOff));
        due("tick(2), stamina 20000", x.tick(2), NONE);
    }

    /** "THE FALL is the first TICK (told by its end) behind which someone does" */
    private static void fallWhileClimbingAndComingOff() {
        // three one on another: 8 * 30 a tick in 6 .. 9, 8 * 50 in 10 .. 13, 8 * 30 in 14 .. 16
        int[] staminas = {0, 29, 30, 119, 120, 169, 170, 319, 320, 349, 350, 409, 410};
        int[] falls = {6, 6, 7, 9, 10, 10, 11, 13, 14, 14, 15, 16, NONE};
        for (int i = 0; i < staminas.length; i++) {
            PeopleTower x = tower(1, 1, 1);
            x.person(150, 50, 400, 0, staminas[i]);
            x.person(150, 30, 400, 1, 20000);
            x.person(150, 20, 400, 2, 20000);
            x.take(0);
            due("tick(0)", x.tick(0), 9);
            due("tick(2), stamina " + staminas[i], x.tick(2), falls[i]);
            int points = falls[i] == NONE ? 15 : falls[i] > 9 ? 10 : 0;
            due("attempt(), stamina " + staminas[i], x.attempt(), points);
        }
    }

    /** "WEAK: the least PLACE of these": of those who give way behind that very tick. */
    private static void weakIsTheLeastOfThatTick() {
        int[][] staminas = {{9, 9}, {9, 10}, {10, 9}, {20, 10}, {10, 20}, {30, 29}, {29, 30}, {30, 30}};
        int[] falls = {8, 8, 8, 9, 9, 10, 10, NONE};
        int[] weak = {0, 0, 1, 1, 0, 1, 0, NONE};
        for (int i = 0; i < falls.length; i++) {
            PeopleTower x = tower(2, 1);
            x.person(150, 50, 400, 0, staminas[i][0]);
            x.person(150, 50, 400, 0, staminas[i][1]);
            x.person(150, 20, 0, 1, 0);
            x.take(0);
            due("tick(2) of " + told(staminas[i]), x.tick(2), falls[i]);
            due("weak() of " + told(staminas[i]), x.weak(), weak[i]);
        }
        // the one in the middle, whose load is less, but comes on the same tick: 10
        PeopleTower x = tower(1, 1, 1);
        x.person(150, 50, 400, 0, 120);
        x.person(150, 30, 400, 1, 0);
        x.person(150, 20, 400, 2, 0);
        x.take(0);
        due("tick(2)", x.tick(2), 10);
        due("weak(), both give way", x.weak(), 0);
        x = tower(1, 1, 1);
        x.person(150, 50, 400, 0, 170);
        x.person(150, 30, 400, 1, 0);
        x.person(150, 20, 400, 2, 0);
        x.take(0);
        due("tick(2)", x.tick(2), 10);
        due("weak(), the foot does later", x.weak(), 1);
    }

    private static void tickNone() {
        PeopleTower x = alike(1, 1);
        x.take(0);
        due("tick(0) of one", x.tick(0), 2);
        due("tick(1) of one", x.tick(1), 4);
        due("tick(2) of one", x.tick(2), NONE);
        due("weak() of one", x.weak(), NONE);
        due("effort(0, 200) of one", x.effort(0, 200), 0);
        x = crowned();
        due("weak(), asked first", x.weak(), 0);
        x.storeys(1);
        due("weak(), none at hand", x.weak(), NOT);
        x.take(0);
        due("weak(), asked again without a fall", x.weak(), NONE);
        due("tick(2), asked again without a fall", x.tick(2), NONE);
    }

    // ---- "CROWN and DOWN have worths (0 .. 1000 each; 10 and 15 at first)"

    private static PeopleTower crowned() {
        PeopleTower x = pair(400, 0, 20);
        x.take(0);
        return x;
    }

    private static PeopleTower down() {
        PeopleTower x = pair(400, 20000, 20);
        x.take(0);
        return x;
    }

    private static void worthsFromNoneToMost() {
        due("attempt(), CROWN at first", crowned().attempt(), 10);
        due("attempt(), DOWN at first", down().attempt(), 15);
        int[][] good = {{0, 0}, {0, 1000}, {1000, 0}, {1000, 1000}, {1, 999}};
        for (int[] worths : good) {
            PeopleTower x = crowned();
            due("worths(" + told(worths) + ")", x.worths(worths[0], worths[1]), 1);
            due("attempt(), CROWN", x.attempt(), worths[0]);
            x = down();
            due("worths(" + told(worths) + ")", x.worths(worths[0], worths[1]), 1);
            due("attempt(), DOWN", x.attempt(), worths[1]);
        }
        int[][] bad = {{-1, 0}, {0, -1}, {1001, 0}, {0, 1001}, {-1, 1001}, {1001, -1}, {1000, 1001}, {1001, 1000}};
        for (int[] worths : bad) {
            PeopleTower x = crowned();
            due("worths(" + told(worths) + ")", x.worths(worths[0], worths[1]), OUTSIDE);
            due("attempt(), CROWN", x.attempt(), 10);
            x = down();
            due("worths(" + told(worths) + ")", x.worths(worths[0], worths[1]), OUTSIDE);
            due("attempt(), DOWN", x.attempt(), 15);
        }
    }

    /**
     * "those of DOWN, if there is no FALL; those of CROWN, if there is one behind CROWNED; 0 else":
     * two on one, CROWNED is 8.
     */
    private static void pointsByTheFall() {
        // 20 a tick in 6 .. 8, 60 in 9 .. 11, 20 in 12 .. 14
        int[] staminas = {0, 20, 39, 40, 59, 60, 239, 240, 279, 280, 299, 300};
        int[] falls = {6, 7, 7, 8, 8, 9, 11, 12, 13, 14, 14, NONE};
        int[] points = {0, 0, 0, 0, 0, 3, 3, 3, 3, 3, 3, 7};
        for (int i = 0; i < staminas.length; i++) {
            PeopleTower x = tower(1, 2);
            x.person(150, 50, 400, 0, staminas[i]);
            x.person(150, 20, 0, 1, 0);
            x.person(150, 40, 0, 1, 0);
            x.worths(3, 7);
            x.take(0);
            due("tick(2), stamina " + staminas[i], x.tick(2), falls[i]);
            due("attempt(), stamina " + staminas[i], x.attempt(), points[i]);
            due("count(4), stamina " + staminas[i], x.count(4), points[i]);
        }
    }

    /** "A TRY: its POINTS (they add up)" */
    private static void pointsAddUp() {
        PeopleTower x = down();
        due("count(4), no try yet", x.count(4), 0);
        x.attempt();
        x.worths(10, 0);
        due("attempt() of worth 0", x.attempt(), 0);
        due("count(4)", x.count(4), 15);
        x.worths(10, 1000);
        due("attempt() of worth 1000", x.attempt(), 1000);
        due("count(4)", x.count(4), 1015);
        x.storeys(1);
        due("attempt(), none at hand", x.attempt(), NOT);
        due("count(4), none at hand", x.count(4), 1015);
        x.take(0);
        due("attempt() of another tower", x.attempt(), 1000);
        due("count(4) of both", x.count(4), 2015);
    }

    private static void countsFromFirstToLast() {
        PeopleTower x = new PeopleTower();
        int[] atFirst = {2, 3, 0, 0, 0, 0};
        due("count(-1)", x.count(-1), OUTSIDE);
        for (int what = 0; what < 6; what++) {
            due("count(" + what + ") at first", x.count(what), atFirst[what]);
        }
        due("count(6)", x.count(6), OUTSIDE);
        x = alike(8, 1, 2, 3, 1);
        x.take(0);
        x.attempt();
        for (int person = 0; person < 8; person++) {
            x.out(person, true);
        }
        int[] full = {4, 7, 8, 8, 15, 1};
        for (int what = 0; what < 6; what++) {
            due("count(" + what + ") when full", x.count(what), full[what]);
        }
        due("count(6) when full", x.count(6), OUTSIDE);
    }

    // ---- "An object is used for at most 512 calls"

    private static void longUse() {
        PeopleTower x = down();
        x.worths(0, 1000);
        // eight calls went before, one comes behind
        for (int call = 9; call < 512; call++) {
            due("attempt(), call " + call, x.attempt(), 1000);
        }
        due("count(4), call 512", x.count(4), 503000);
        x = alike(8, 3, 3, 1);
        for (int i = 0; i < 160; i++) {
            x.take(i % 2);
            x.swap(i % 7, i % 5);
            x.out(i % 8, i % 3 == 0);
        }
        for (int person = 0; person < 8; person++) {
            x.out(person, false);
        }
        due("fits() late", x.fits(), 40320);
    }
}
