import java.util.Arrays;

/** A tower of people: who fits where, how it is climbed and taken down, and the points it makes. */
public final class PeopleTower {
    public static final int NONE = -1, UNKNOWN = -2, OUTSIDE = -3, NOT = -4, FULL = -5;

    private static final int MOST_STOREYS = 4;
    private static final int MOST_WIDTH = 3;
    private static final int MOST_PLACES = 7;
    private static final int MOST_PEOPLE = 8;
    private static final int MOST_PLAY = 50;
    private static final int MOST_WORTH = 1000;
    private static final int LAST_TICK = 200;

    // Eighths keep every load whole: a weight is halved at most three times on its way to the foot.
    private static final int EIGHTHS = 8;
    private static final int HALF = 4;

    // Above any unevenness (four storeys of at most MOST_PLAY), so that one move outweighs it.
    private static final int MOVE = 1000;

    private final Tower tower = new Tower();
    private final People people = new People();
    private final Rules rules = new Rules(tower, people);
    private final Search search = new Search(tower, people, rules);
    private final Climb climb = new Climb(tower, people, rules);
    private final int[] hand = new int[MOST_PLACES];
    private boolean atHand = false;
    private int crownWorth = 10;
    private int downWorth = 15;
    private int points = 0;

    public PeopleTower() {
        Arrays.fill(hand, NONE);
    }

    public int storeys(int h) {
        if (!within(h, 1, MOST_STOREYS)) {
            return OUTSIDE;
        }
        if (tower.placesUpTo(h) > MOST_PLACES) {
            return NOT;
        }
        tower.build(h);
        endPlacing();
        return tower.places;
    }

    public int width(int storey, int w) {
        if (storey < 0 || storey >= MOST_STOREYS) {
            return UNKNOWN;
        }
        if (!within(w, 1, MOST_WIDTH)) {
            return OUTSIDE;
        }
        int was = tower.widths[storey];
        if (storey < tower.storeys && tower.places - was + w > MOST_PLACES) {
            return NOT;
        }
        tower.widths[storey] = w;
        tower.build(tower.storeys);
        endPlacing();
        return was;
    }

    public int person(int height, int weight, int bears, int fear, int stamina) {
        if (!within(height, 100, 200) || !within(weight, 20, 120) || !within(bears, 0, 400)
                || !within(fear, 0, MOST_STOREYS - 1) || !within(stamina, 0, 20000)) {
            return OUTSIDE;
        }
        return people.add(height, weight, bears, fear, stamina);
    }

    public int out(int person, boolean is) {
        if (person < 0 || person >= people.size) {
            return UNKNOWN;
        }
        int was = people.isOut[person] ? 1 : 0;
        people.isOut[person] = is;
        return was;
    }

    public int play(int v) {
        if (!within(v, 0, MOST_PLAY)) {
            return OUTSIDE;
        }
        int was = rules.play;
        rules.play = v;
        return was;
    }

    public int fits() {
        return search.countFitting();
    }

    public int level() {
        return search.seekLevel() ? search.uneven() : NONE;
    }

    public int close() {
        return search.seekClose(hand) ? search.moves() : NONE;
    }

    public int take(int way) {
        if (!within(way, 0, 1)) {
            return OUTSIDE;
        }
        boolean found = way == 0 ? search.seekLevel() : search.seekClose(hand);
        if (!found) {
            return NOT;
        }
        System.arraycopy(search.best, 0, hand, 0, tower.places);
        atHand = true;
        return search.uneven();
    }

    public int at(int place) {
        if (!isPlace(place)) {
            return UNKNOWN;
        }
        return atHand ? hand[place] : NOT;
    }

    public int load(int place) {
        if (!isPlace(place)) {
            return UNKNOWN;
        }
        return atHand ? rules.loadOn(hand, place, tower.places) : NOT;
    }

    public int swap(int one, int two) {
        if (!isPlace(one) || !isPlace(two)) {
            return UNKNOWN;
        }
        if (!atHand) {
            return NOT;
        }
        exchange(one, two);
        if (!rules.admit(hand)) {
            exchange(one, two);
            return NOT;
        }
        return 1;
    }

    public int tick(int what) {
        if (!within(what, 0, 2)) {
            return OUTSIDE;
        }
        if (!atHand) {
            return NOT;
        }
        if (what == 2) {
            climb.run(hand, LAST_TICK);
            return climb.fall;
        }
        int crowned = climb.crowned();
        return what == 0 ? crowned : 2 * crowned;
    }

    public int weak() {
        if (!atHand) {
            return NOT;
        }
        climb.run(hand, LAST_TICK);
        return climb.weakest;
    }

    public int effort(int place, int tick) {
        if (!isPlace(place)) {
            return UNKNOWN;
        }
        if (!within(tick, 0, LAST_TICK)) {
            return OUTSIDE;
        }
        if (!atHand) {
            return NOT;
        }
        climb.run(hand, tick);
        return climb.efforts[place];
    }

    public int worths(int crown, int down) {
        if (!within(crown, 0, MOST_WORTH) || !within(down, 0, MOST_WORTH)) {
            return OUTSIDE;
        }
        crownWorth = crown;
        downWorth = down;
        return 1;
    }

    public int attempt() {
        if (!atHand) {
            return NOT;
        }
        int made = pointsOfTry();
        points += made;
        return made;
    }

    public int count(int what) {
        switch (what) {
            case 0:
                return tower.storeys;
            case 1:
                return tower.places;
            case 2:
                return people.size;
            case 3:
                return people.countOut();
            case 4:
                return points;
            case 5:
                return atHand ? 1 : 0;
            default:
                return OUTSIDE;
        }
    }

    private static boolean within(int number, int least, int most) {
        return number >= least && number <= most;
    }

    private boolean isPlace(int place) {
        return place >= 0 && place < tower.places;
    }

    // With nobody at hand, every place of a later placing counts as having someone else.
    private void endPlacing() {
        Arrays.fill(hand, NONE);
        atHand = false;
    }

    private void exchange(int one, int two) {
        int person = hand[one];
        hand[one] = hand[two];
        hand[two] = person;
    }

    private int pointsOfTry() {
        climb.run(hand, LAST_TICK);
        if (climb.fall == NONE) {
            return downWorth;
        }
        return climb.fall > climb.crowned() ? crownWorth : 0;
    }

    /** The storeys, and what of a weight in one place comes down on each place below it. */
    private static final class Tower {
        final int[] widths = {2, 1, 1, 1};
        final int[] firstPlace = new int[MOST_STOREYS];
        final int[] storeyOf = new int[MOST_PLACES];
        final int[][] shares = new int[MOST_PLACES][MOST_PLACES];
        int storeys = 0;
        int places = 0;

        Tower() {
            build(2);
        }

        int placesUpTo(int h) {
            int sum = 0;
            for (int storey = 0; storey < h && storey < MOST_STOREYS; storey++) {
                sum += widths[storey];
            }
            return sum;
        }

        void build(int h) {
            storeys = Math.min(h, MOST_STOREYS);
            places = 0;
            for (int storey = 0; storey < storeys; storey++) {
                firstPlace[storey] = places;
                for (int spot = 0; spot < widths[storey] && places < MOST_PLACES; spot++) {
                    storeyOf[places] = storey;
                    shareOut(places, storey, spot);
                    places++;
                }
            }
        }

        private void shareOut(int place, int storey, int spot) {
            int[] row = shares[place];
            Arrays.fill(row, 0);
            if (storey < 1 || widths[storey - 1] < 1) {
                return;
            }
            int width = widths[storey - 1];
            restHalfOn(row, firstPlace[storey - 1] + spot % width);
            restHalfOn(row, firstPlace[storey - 1] + (spot + 1) % width);
        }

        // What a place hands down of its own weight it hands down of the half that it carries.
        private void restHalfOn(int[] row, int support) {
            row[support] += HALF;
            for (int below = 0; below < support; below++) {
                row[below] += shares[support][below] / 2;
            }
        }
    }

    /** What each person is like. */
    private static final class People {
        final int[] heights = new int[MOST_PEOPLE];
        final int[] weights = new int[MOST_PEOPLE];
        final int[] bearings = new int[MOST_PEOPLE];
        final int[] fears = new int[MOST_PEOPLE];
        final int[] staminas = new int[MOST_PEOPLE];
        final boolean[] isOut = new boolean[MOST_PEOPLE];
        int size = 0;

        int add(int height, int weight, int bears, int fear, int stamina) {
            if (size >= MOST_PEOPLE) {
                return FULL;
            }
            heights[size] = height;
            weights[size] = weight;
            bearings[size] = bears;
            fears[size] = fear;
            staminas[size] = stamina;
            isOut[size] = false;
            return size++;
        }

        int countOut() {
            int sum = 0;
            for (int person = 0; person < size; person++) {
                sum += isOut[person] ? 1 : 0;
            }
            return sum;
        }
    }

    /** What makes a placing fit. */
    private static final class Rules {
        private final Tower tower;
        private final People people;
        int play = 10;

        Rules(Tower tower, People people) {
            this.tower = tower;
            this.people = people;
        }

        boolean goesTo(int person, int storey) {
            return !people.isOut[person] && storey <= people.fears[person];
        }

        int mostLoad(int person) {
            return EIGHTHS * people.bearings[person];
        }

        /** The load in eighths by those in the places before 'standing' alone. */
        int loadOn(int[] who, int place, int standing) {
            int sum = 0;
            for (int above = place + 1; above < standing; above++) {
                sum += tower.shares[above][place] * people.weights[who[above]];
            }
            return sum;
        }

        boolean admit(int[] who) {
            for (int place = 0; place < tower.places; place++) {
                int person = who[place];
                if (!goesTo(person, tower.storeyOf[place])
                        || loadOn(who, place, tower.places) > mostLoad(person)) {
                    return false;
                }
            }
            for (int storey = 0; storey < tower.storeys; storey++) {
                if (spread(who, storey) > play) {
                    return false;
                }
            }
            return true;
        }

        private int spread(int[] who, int storey) {
            int first = tower.firstPlace[storey];
            int low = people.heights[who[first]];
            int high = low;
            for (int spot = 1; spot < tower.widths[storey]; spot++) {
                int height = people.heights[who[first + spot]];
                low = Math.min(low, height);
                high = Math.max(high, height);
            }
            return high - low;
        }
    }

    /** Walks the placings that fit in their order, so that the first of equals is met first. */
    private static final class Search {
        private final Tower tower;
        private final People people;
        private final Rules rules;
        private final int[] who = new int[MOST_PLACES];
        private final int[][] loads = new int[MOST_PLACES + 1][MOST_PLACES];
        private final int[] mostLoads = new int[MOST_PLACES];
        private final boolean[] used = new boolean[MOST_PEOPLE];
        private final int[] near = new int[MOST_PLACES];
        final int[] best = new int[MOST_PLACES];
        private boolean counting = false;
        private int moveCost = 0;
        private int bound = 0;
        private int found = 0;

        Search(Tower tower, People people, Rules rules) {
            this.tower = tower;
            this.people = people;
            this.rules = rules;
        }

        int countFitting() {
            start(true, 0);
            return found;
        }

        boolean seekLevel() {
            start(false, 0);
            return found > 0;
        }

        boolean seekClose(int[] hand) {
            System.arraycopy(hand, 0, near, 0, MOST_PLACES);
            start(false, MOVE);
            return found > 0;
        }

        int uneven() {
            return bound % MOVE;
        }

        int moves() {
            return bound / MOVE;
        }

        private void start(boolean countAll, int costOfMove) {
            counting = countAll;
            moveCost = costOfMove;
            bound = Integer.MAX_VALUE;
            found = 0;
            walk(0, 0, 0, 0);
        }

        // Costs and loads only grow on the way up, so what is too much already is left at once.
        private void walk(int place, int low, int high, int cost) {
            if (place >= tower.places) {
                arrive(cost);
                return;
            }
            int storey = tower.storeyOf[place];
            boolean opens = place == tower.firstPlace[storey];
            for (int person = 0; person < people.size; person++) {
                if (used[person] || !rules.goesTo(person, storey)) {
                    continue;
                }
                int height = people.heights[person];
                int newLow = opens ? height : Math.min(low, height);
                int newHigh = opens ? height : Math.max(high, height);
                int grown = opens ? 0 : newHigh - newLow - (high - low);
                int newCost = cost + grown + (person == near[place] ? 0 : moveCost);
                if (newHigh - newLow <= rules.play && newCost < bound) {
                    goOnWith(person, place, newLow, newHigh, newCost);
                }
            }
        }

        private void goOnWith(int person, int place, int low, int high, int cost) {
            who[place] = person;
            mostLoads[place] = rules.mostLoad(person);
            if (bearsAlso(place, people.weights[person])) {
                used[person] = true;
                walk(place + 1, low, high, cost);
                used[person] = false;
            }
        }

        // One row of loads for each place on the way up: going back needs no undoing.
        private boolean bearsAlso(int place, int weight) {
            int[] share = tower.shares[place];
            int[] before = loads[place];
            int[] after = loads[place + 1];
            for (int below = 0; below < place; below++) {
                after[below] = before[below] + share[below] * weight;
                if (after[below] > mostLoads[below]) {
                    return false;
                }
            }
            after[place] = 0;
            return true;
        }

        private void arrive(int cost) {
            found++;
            if (!counting) {
                bound = cost;
                System.arraycopy(who, 0, best, 0, MOST_PLACES);
            }
        }
    }

    /** The clock of one climb up and down, as if no one gave way. */
    private static final class Climb {
        private final Tower tower;
        private final People people;
        private final Rules rules;
        private final int[] strains = new int[MOST_PLACES];
        final int[] efforts = new int[MOST_PLACES];
        int fall = NONE;
        int weakest = NONE;

        Climb(Tower tower, People people, Rules rules) {
            this.tower = tower;
            this.people = people;
            this.rules = rules;
        }

        int crowned() {
            int sum = 0;
            for (int place = 0; place < tower.places; place++) {
                sum += ticksFor(place);
            }
            return sum;
        }

        void run(int[] who, int lastTick) {
            Arrays.fill(efforts, 0);
            fall = NONE;
            weakest = NONE;
            int time = 0;
            for (int place = 0; place < tower.places; place++) {
                time = pass(who, place, time, ticksFor(place), lastTick);
            }
            // Who comes off is borne until it is off.
            for (int place = tower.places - 1; place >= 0; place--) {
                time = pass(who, place + 1, time, ticksFor(place), lastTick);
            }
        }

        private int ticksFor(int place) {
            return 2 + tower.storeyOf[place];
        }

        private int pass(int[] who, int standing, int time, int ticks, int lastTick) {
            for (int place = 0; place < tower.places; place++) {
                strains[place] = rules.loadOn(who, place, standing);
            }
            int end = time + ticks;
            for (int tick = time + 1; tick <= end && tick <= lastTick; tick++) {
                tire(who, tick);
            }
            return end;
        }

        private void tire(int[] who, int tick) {
            for (int place = 0; place < tower.places; place++) {
                efforts[place] += strains[place];
                if (fall == NONE && efforts[place] > EIGHTHS * people.staminas[who[place]]) {
                    fall = tick;
                    weakest = place;
                }
            }
        }
    }
}
