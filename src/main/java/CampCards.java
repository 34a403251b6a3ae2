import java.util.Arrays;

/** A camp as the document tells it. Every call answers a number; a refused one changes only the count of refusals. */
public final class CampCards {
    private static final int FINE = 0;
    private static final int NOBODY = -1;
    private static final int OTHER = -2;
    private static final int UNFIT = -3;
    private static final int BELOW = -4;
    private static final int ROOM = -6;
    private static final int NONE = -9;
    private static final int FAULTY = -20;
    /** What answers that may be below 0 count their refusals from. */
    private static final int BEYOND = 1000000000;

    private static final int SIDE = 12;
    private static final int CELLS = 144;
    private static final int HEIGHTS = 100;
    private static final int FIRST_HEIGHT = 50;
    private static final int SIDES = 4;
    private static final int LAST_DAY = 999;
    private static final int BLOCKS = 4;
    private static final int MOST_HOUSES = 30;
    private static final int MOST_PERSONS = 60;
    private static final int MOST_STATES = 150;
    private static final int EARLIEST_BIRTH = -36500;
    private static final int TONGUES = 6;

    private static final int IN = 0;
    private static final int SICK = 2;
    private static final int GONE_ON = 3;
    private static final int DEAD = 4;
    private static final int STATES = 5;

    private static final int DRAWING = 0;
    private static final int POINTING = 1;
    private static final int PURPOSES = 2;
    private static final int MOST_BYTES = 60;
    private static final int MOST_FED = 8;
    private static final int MOST_RULES = 30;
    private static final int MOST_CARDS = 40;
    private static final int MOST_HANDED = 60;
    private static final int MOST_KILOS = 9999;

    private static final int MOST_WELLS = 6;
    private static final int MOST_YIELD = 99;
    private static final int MOST_DEPTH = 9999;
    private static final int FIRST_BEGIN = 4;
    private static final int LAST_BEGIN = 20;
    private static final int BEST_UNSERVED = 4;
    private static final int BEST_SUM = 5;

    private static final int MOST_RAIN = 999;
    private static final int MOST_LATRINES = 14;
    private static final int MOST_WALL = 99999;
    private static final int MOST_DRAINS = 10;
    private static final int MOST_LANES = 8;
    private static final int MOST_COUNTS = 40;
    private static final int UNREAD = -1;
    private static final int MOST_COUNTED = 9999;

    private int today;
    private final int[] refusals;
    private final Land land;
    private final Folk folk;
    private final Rules rules;
    private final Cards cards;
    private final Scale scale;
    private final Wells wells;
    private final Fire fire;
    private final Leave leave;
    private final Counts counts;

    public CampCards() {
        today = 0;
        refusals = new int[-ROOM + 1];
        land = new Land();
        folk = new Folk();
        rules = new Rules();
        cards = new Cards();
        scale = new Scale();
        wells = new Wells();
        fire = new Fire();
        leave = new Leave();
        counts = new Counts();
    }

    private int refuse(int why) {
        int place = -why;
        if (place > 0 && place < refusals.length) {
            refusals[place]++;
        }
        return why;
    }

    private int refuseBeyond(int why) {
        return BEYOND - refuse(why);
    }

    private static int checkRange(int number, int least, int most) {
        if (number < least) {
            return BELOW;
        }
        return number > most ? ROOM : FINE;
    }

    private static boolean isCell(int cell) {
        return cell >= 0 && cell < CELLS;
    }

    private static boolean isBlock(int block) {
        return block >= 0 && block < BLOCKS;
    }

    private static boolean isWind(int wind) {
        return wind >= 0 && wind < SIDES;
    }

    private static boolean isSetOf(int set, int told) {
        return set >= 0 && set < 1 << told;
    }

    // ---- the camp

    public int days(int n) {
        int why = checkRange(n, 1, LAST_DAY - today);
        if (why != FINE) {
            return refuse(why);
        }
        today += n;
        return today;
    }

    public int height(int cell, int v) {
        if (!isCell(cell)) {
            return refuse(NOBODY);
        }
        int why = checkRange(v, 0, HEIGHTS - 1);
        if (why != FINE) {
            return refuse(why);
        }
        return land.raise(cell, v);
    }

    public int down(int cell) {
        return isCell(cell) ? land.lowestBeside(cell) : refuse(NOBODY);
    }

    public int house(int cell, int block) {
        if (!isCell(cell) || !isBlock(block)) {
            return refuse(NOBODY);
        }
        if (folk.houseAt(cell) != NONE) {
            return refuse(UNFIT);
        }
        if (folk.houses >= MOST_HOUSES) {
            return refuse(ROOM);
        }
        wells.forgetBest();
        return folk.addHouse(cell, block);
    }

    public int person(int house, int born, int tongue) {
        if (!folk.hasHouse(house)) {
            return refuse(NOBODY);
        }
        if (tongue < 0 || tongue >= TONGUES) {
            return refuse(OTHER);
        }
        if (born < EARLIEST_BIRTH) {
            return refuse(BELOW);
        }
        if (born > today || folk.persons >= MOST_PERSONS) {
            return refuse(ROOM);
        }
        wells.forgetBest();
        return folk.addPerson(house, born, tongue, today);
    }

    public int state(int person, int state) {
        if (!folk.hasPerson(person)) {
            return refuse(NOBODY);
        }
        if (state < 0 || state >= STATES) {
            return refuse(OTHER);
        }
        if (folk.stateOn(person, today) == DEAD) {
            return refuse(UNFIT);
        }
        if (folk.states >= MOST_STATES) {
            return refuse(ROOM);
        }
        wells.forgetBest();
        return folk.tell(person, state, today);
    }

    public int stateOf(int person, int day) {
        if (!folk.hasPerson(person)) {
            return refuse(NOBODY);
        }
        int why = checkRange(day, 0, LAST_DAY);
        return why == FINE ? folk.stateOn(person, day) : refuse(why);
    }

    public int here(int house, int day) {
        if (!folk.hasHouse(house)) {
            return refuse(NOBODY);
        }
        int why = checkRange(day, 0, LAST_DAY);
        return why == FINE ? folk.hereInHouse(house, day) : refuse(why);
    }

    // ---- texts and cards

    public int feed(int n, long bytes) {
        if (n < 1) {
            return refuse(BELOW);
        }
        if (n > MOST_FED || rules.taped + n > MOST_BYTES) {
            return refuse(ROOM);
        }
        return rules.takeBytes(n, bytes);
    }

    public int rule(int purpose, int day) {
        if (purpose < 0 || purpose >= PURPOSES) {
            return refuse(OTHER);
        }
        if (day < today) {
            return refuse(BELOW);
        }
        if (day > LAST_DAY || rules.told >= MOST_RULES) {
            return refuse(ROOM);
        }
        return rules.makeOfTape(purpose, day);
    }

    public int card(int house) {
        if (!folk.hasHouse(house)) {
            return refuse(NOBODY);
        }
        if (cards.made >= MOST_CARDS) {
            return refuse(ROOM);
        }
        return cards.make(house, today);
    }

    public int end(int card) {
        if (!cards.has(card)) {
            return refuse(NOBODY);
        }
        if (cards.isEnded(card)) {
            return refuse(UNFIT);
        }
        cards.close(card, today);
        return 1;
    }

    public int draw(int card, int day) {
        if (!cards.has(card)) {
            return refuse(NOBODY);
        }
        int why = checkRange(day, 0, LAST_DAY);
        if (why != FINE) {
            return refuse(why);
        }
        return cards.isGoodOn(card, day) ? rules.drawOf(folk, cards.houseOf(card), day, cards.madeOn(card)) : 0;
    }

    public int points(int person, int day) {
        if (!folk.hasPerson(person)) {
            return refuseBeyond(NOBODY);
        }
        int why = checkRange(day, 0, LAST_DAY);
        return why == FINE ? rules.pointsOf(folk, person, day) : refuseBeyond(why);
    }

    // ---- the scale, two cards

    public int handed(int card, int kilos, int weighed) {
        if (!cards.has(card)) {
            return refuse(NOBODY);
        }
        if (cards.isEnded(card)) {
            return refuse(UNFIT);
        }
        if (kilos < 1 || weighed < 0) {
            return refuse(BELOW);
        }
        if (kilos > MOST_KILOS || weighed > MOST_KILOS || scale.told >= MOST_HANDED) {
            return refuse(ROOM);
        }
        return scale.note(today, kilos, weighed);
    }

    public int since(int what) {
        if (what != 0 && what != 1) {
            return refuse(OTHER);
        }
        int first = scale.firstNotTrue();
        if (first == NONE) {
            return what == 0 ? today + 1 : 0;
        }
        int lean = scale.leastLean(first);
        if (lean == NONE) {
            return NONE;
        }
        return what == 0 ? scale.dayOf(first) : lean;
    }

    private int checkTwoCards(int one, int other) {
        if (!cards.has(one) || !cards.has(other) || one == other) {
            return NOBODY;
        }
        return cards.isEnded(one) || cards.isEnded(other) ? UNFIT : FINE;
    }

    public int pairs(int one, int other) {
        int why = checkTwoCards(one, other);
        if (why != FINE) {
            return refuse(why);
        }
        return folk.pairUp(cards.houseOf(one), cards.houseOf(other), today);
    }

    public int alike(int one, int other) {
        int why = checkTwoCards(one, other);
        if (why != FINE) {
            return refuse(why);
        }
        return folk.likeness(cards.houseOf(one), cards.houseOf(other), today);
    }

    // ---- wells

    public int well(int cell, int yield, int depth) {
        if (!isCell(cell)) {
            return refuse(NOBODY);
        }
        if (yield < 1 || depth < 1) {
            return refuse(BELOW);
        }
        if (yield > MOST_YIELD || depth > MOST_DEPTH || wells.dug >= MOST_WELLS) {
            return refuse(ROOM);
        }
        return wells.dig(cell, yield, depth);
    }

    public int block(int block, int hour) {
        if (!isBlock(block)) {
            return refuse(NOBODY);
        }
        int why = checkRange(hour, FIRST_BEGIN, LAST_BEGIN);
        return why == FINE ? wells.begin(block, hour) : refuse(why);
    }

    public int served(int house) {
        return folk.hasHouse(house) ? wells.hourOf(folk, house, today) : refuse(NOBODY);
    }

    public int best(int what) {
        if (what < 0 || what > BEST_SUM) {
            return refuse(OTHER);
        }
        wells.findBest(folk, today);
        if (what == BEST_SUM) {
            return wells.bestSum();
        }
        return what == BEST_UNSERVED ? wells.bestUnserved() : wells.bestBegin(what);
    }

    // ---- rain

    public int latrine(int cell, int wall) {
        if (!isCell(cell)) {
            return refuse(NOBODY);
        }
        if (wall < 1) {
            return refuse(BELOW);
        }
        if (wall > MOST_WALL || land.latrines >= MOST_LATRINES) {
            return refuse(ROOM);
        }
        return land.addLatrine(cell, wall);
    }

    public int drain(int cell) {
        if (!isCell(cell)) {
            return refuse(NOBODY);
        }
        if (land.isDrain(cell)) {
            return refuse(UNFIT);
        }
        if (land.drainsTold >= MOST_DRAINS) {
            return refuse(ROOM);
        }
        return land.addDrain(cell);
    }

    public int flow(int cell, int rain) {
        if (!isCell(cell)) {
            return refuse(NOBODY);
        }
        int why = checkRange(rain, 1, MOST_RAIN);
        return why == FINE ? land.comesTo(cell, rain) : refuse(why);
    }

    public int foul(int rain, int set) {
        int why = checkRange(rain, 1, MOST_RAIN);
        if (why != FINE) {
            return refuse(why);
        }
        return isSetOf(set, land.drainsTold) ? wells.foulOnes(land, rain, set) : refuse(NOBODY);
    }

    public int drains(int rain) {
        int why = checkRange(rain, 1, MOST_RAIN);
        return why == FINE ? wells.fewestDrains(land, rain) : refuse(why);
    }

    // ---- fire

    public int minutes(int from, int to, int wind, int set) {
        if (!folk.hasHouse(from) || !folk.hasHouse(to) || !isSetOf(set, fire.lanesTold)) {
            return refuse(NOBODY);
        }
        if (!isWind(wind)) {
            return refuse(OTHER);
        }
        return fire.minutesTo(folk, from, to, wind, set);
    }

    public int lane(int house) {
        if (!folk.hasHouse(house)) {
            return refuse(NOBODY);
        }
        if (fire.isLane(house)) {
            return refuse(UNFIT);
        }
        if (fire.lanesTold >= MOST_LANES) {
            return refuse(ROOM);
        }
        return fire.addLane(house);
    }

    public int lanes(int wind, int most) {
        if (!isWind(wind)) {
            return refuse(OTHER);
        }
        int why = checkRange(most, 1, MOST_HOUSES);
        return why == FINE ? fire.fewestLanes(folk, most) : refuse(why);
    }

    // ---- leave and counts

    public int queue(int person, boolean on) {
        if (!folk.hasPerson(person)) {
            return refuse(NOBODY);
        }
        if (leave.asks(person) == on) {
            return 0;
        }
        if (on) {
            leave.join(person);
        } else {
            leave.quit(person);
        }
        return 1;
    }

    public int list(int day, int i) {
        int why = checkRange(day, 0, LAST_DAY);
        if (why != FINE) {
            return refuse(why);
        }
        leave.rank(folk, rules, day);
        return leave.rankedAt(i);
    }

    public int goes(int n) {
        int why = checkRange(n, 0, MOST_PERSONS);
        if (why != FINE) {
            return refuse(why);
        }
        int going = Math.min(n, leave.rank(folk, rules, today));
        if (folk.states + going > MOST_STATES) {
            return refuse(ROOM);
        }
        for (int i = 0; i < going; i++) {
            int person = leave.rankedAt(i);
            if (folk.hasPerson(person)) {
                folk.tell(person, GONE_ON, today);
                leave.quit(person);
            }
        }
        wells.forgetBest();
        return going;
    }

    public int count(int block, int day, int v) {
        if (!isBlock(block)) {
            return refuse(NOBODY);
        }
        if (day < 0 || v < UNREAD) {
            return refuse(BELOW);
        }
        if (day > today || v > MOST_COUNTED || counts.told >= MOST_COUNTS) {
            return refuse(ROOM);
        }
        return counts.note(block, day, v, today);
    }

    public int counted(int block, int day, int k) {
        if (!isBlock(block)) {
            return refuse(NOBODY);
        }
        if (day < 0 || k < 0) {
            return refuse(BELOW);
        }
        if (day > LAST_DAY || k > LAST_DAY) {
            return refuse(ROOM);
        }
        return counts.known(block, day, k);
    }

    public int off(int block, int day) {
        if (!isBlock(block)) {
            return refuseBeyond(NOBODY);
        }
        int why = checkRange(day, 0, LAST_DAY);
        if (why != FINE) {
            return refuseBeyond(why);
        }
        int known = counts.known(block, day, today);
        return known == NONE ? refuseBeyond(UNFIT) : known - folk.hereInBlock(block, day);
    }

    public int total(int what) {
        switch (what) {
            case 0: return today;
            case 1: return folk.houses;
            case 2: return folk.persons;
            case 3: return folk.hereInAll(today);
            case 4: return cards.notEnded();
            case 5: return scale.told;
            case 6: return wells.dug;
            case 7: return land.latrines;
            case 8: return leave.asking;
            case 9: return rules.taped;
            case 10: return rules.told;
            default: break;
        }
        int why = what - 10;
        return why >= 1 && why < refusals.length ? refusals[why] : NONE;
    }

    /** Cells, their heights, and what rain does on them. */
    private static final class Land {
        /** The sides from the least cell beside to the greatest: of as low ones the first is the least. */
        private static final int[] SIDES_BY_CELL = {3, 2, 0, 1};

        private final int[] heightOf;
        /** The least wall of a latrine on each cell, 0 without one: it is the one that overflows first. */
        private final int[] leastWall;
        private int latrines;
        private final int[] drainOn;
        private int drainsTold;
        private final int[] below;
        private final int[] fromHigh;
        private final int[] places;
        private boolean levelled;
        private final int[] water;
        private final boolean[] foulCell;

        Land() {
            heightOf = new int[CELLS];
            Arrays.fill(heightOf, FIRST_HEIGHT);
            leastWall = new int[CELLS];
            drainOn = new int[CELLS];
            Arrays.fill(drainOn, NONE);
            below = new int[CELLS];
            fromHigh = new int[CELLS];
            places = new int[HEIGHTS];
            water = new int[CELLS];
            foulCell = new boolean[CELLS];
        }

        static int apart(int one, int other) {
            return Math.abs(one % SIDE - other % SIDE) + Math.abs(one / SIDE - other / SIDE);
        }

        /** The cell beside by one of the sides, which are numbered as winds are; NONE over the edge. */
        static int beside(int cell, int side) {
            int x = cell % SIDE;
            int y = cell / SIDE;
            switch (side) {
                case 0: return x < SIDE - 1 ? cell + 1 : NONE;
                case 1: return y < SIDE - 1 ? cell + SIDE : NONE;
                case 2: return x > 0 ? cell - 1 : NONE;
                default: return y > 0 ? cell - SIDE : NONE;
            }
        }

        int raise(int cell, int height) {
            int was = heightOf[cell];
            heightOf[cell] = height;
            levelled = false;
            return was;
        }

        int lowestBeside(int cell) {
            int lowest = NONE;
            int height = heightOf[cell];
            for (int side : SIDES_BY_CELL) {
                int next = beside(cell, side);
                if (next != NONE && heightOf[next] < height) {
                    lowest = next;
                    height = heightOf[next];
                }
            }
            return lowest;
        }

        int addLatrine(int cell, int wall) {
            if (leastWall[cell] == 0 || wall < leastWall[cell]) {
                leastWall[cell] = wall;
            }
            return latrines++;
        }

        boolean isDrain(int cell) {
            return drainOn[cell] != NONE;
        }

        int addDrain(int cell) {
            drainOn[cell] = drainsTold;
            return drainsTold++;
        }

        int comesTo(int cell, int rain) {
            pour(rain, 0);
            return water[cell];
        }

        boolean isFoul(int cell) {
            return foulCell[cell];
        }

        /** Higher cells come first, so that one walk over them knows all that came to a cell. */
        private void level() {
            if (levelled) {
                return;
            }
            Arrays.fill(places, 0);
            for (int cell = 0; cell < CELLS; cell++) {
                below[cell] = lowestBeside(cell);
                if (heightOf[cell] > 0) {
                    places[heightOf[cell] - 1]++;
                }
            }
            for (int height = HEIGHTS - 2; height >= 0; height--) {
                places[height] += places[height + 1];
            }
            for (int cell = 0; cell < CELLS; cell++) {
                fromHigh[places[heightOf[cell]]++] = cell;
            }
            levelled = true;
        }

        void pour(int rain, int set) {
            level();
            for (int cell = 0; cell < CELLS; cell++) {
                water[cell] = rain;
                foulCell[cell] = false;
            }
            for (int i = 0; i < CELLS; i++) {
                int cell = fromHigh[i];
                boolean drained = drainOn[cell] != NONE && (set >> drainOn[cell] & 1) == 1;
                if (!drained) {
                    pass(cell, below[cell]);
                }
            }
        }

        private void pass(int cell, int next) {
            if (leastWall[cell] > 0 && water[cell] >= leastWall[cell]) {
                foulCell[cell] = true;
            }
            if (next != NONE) {
                water[next] += water[cell];
                foulCell[next] = foulCell[next] || foulCell[cell];
            }
        }
    }

    /** Houses, persons, and the states told of them. */
    private static final class Folk {
        private int houses;
        private final int[] houseCell;
        private final int[] houseBlock;
        private final int[] houseOn;
        private int persons;
        private final int[] home;
        private final int[] bornOn;
        private final int[] tongueOf;
        private final int[] cameOn;
        /** The state told last of each person; each state knows the one told before it of the same person. */
        private final int[] lastTold;
        private int states;
        private final int[] stateDay;
        private final int[] stateKind;
        private final int[] toldBefore;
        private final boolean[] taken;

        Folk() {
            houseCell = new int[MOST_HOUSES];
            houseBlock = new int[MOST_HOUSES];
            houseOn = new int[CELLS];
            Arrays.fill(houseOn, NONE);
            home = new int[MOST_PERSONS];
            bornOn = new int[MOST_PERSONS];
            tongueOf = new int[MOST_PERSONS];
            cameOn = new int[MOST_PERSONS];
            lastTold = new int[MOST_PERSONS];
            stateDay = new int[MOST_STATES];
            stateKind = new int[MOST_STATES];
            toldBefore = new int[MOST_STATES];
            taken = new boolean[MOST_PERSONS];
        }

        boolean hasHouse(int house) {
            return house >= 0 && house < houses;
        }

        boolean hasPerson(int person) {
            return person >= 0 && person < persons;
        }

        int houseAt(int cell) {
            return houseOn[cell];
        }

        int cellOf(int house) {
            return houseCell[house];
        }

        int blockOf(int house) {
            return houseBlock[house];
        }

        int addHouse(int cell, int block) {
            houseCell[houses] = cell;
            houseBlock[houses] = block;
            houseOn[cell] = houses;
            return houses++;
        }

        int addPerson(int house, int born, int tongue, int day) {
            home[persons] = house;
            bornOn[persons] = born;
            tongueOf[persons] = tongue;
            cameOn[persons] = day;
            lastTold[persons] = NONE;
            return persons++;
        }

        int tell(int person, int state, int day) {
            stateDay[states] = day;
            stateKind[states] = state;
            toldBefore[states] = lastTold[person];
            lastTold[person] = states;
            states++;
            return states;
        }

        int stateOn(int person, int day) {
            if (day < cameOn[person]) {
                return NONE;
            }
            int told = lastTold[person];
            for (int steps = 0; steps < MOST_STATES && told >= 0; steps++) {
                if (stateDay[told] <= day) {
                    return stateKind[told];
                }
                told = toldBefore[told];
            }
            return IN;
        }

        boolean isHere(int person, int day) {
            int state = stateOn(person, day);
            return state == IN || state == SICK;
        }

        boolean isOfHouse(int person, int house) {
            return home[person] == house;
        }

        int hereInHouse(int house, int day) {
            int here = 0;
            for (int person = 0; person < persons; person++) {
                if (home[person] == house && isHere(person, day)) {
                    here++;
                }
            }
            return here;
        }

        int hereInBlock(int block, int day) {
            int here = 0;
            for (int person = 0; person < persons; person++) {
                if (houseBlock[home[person]] == block && isHere(person, day)) {
                    here++;
                }
            }
            return here;
        }

        int hereInAll(int day) {
            int here = 0;
            for (int person = 0; person < persons; person++) {
                if (isHere(person, day)) {
                    here++;
                }
            }
            return here;
        }

        int ageOn(int person, int day) {
            return day - bornOn[person];
        }

        int pairUp(int house, int otherHouse, int day) {
            for (int person = 0; person < persons; person++) {
                taken[person] = false;
            }
            int pairs = 0;
            for (int person = 0; person < persons; person++) {
                if (home[person] == house && isHere(person, day) && takeMatch(person, otherHouse, day)) {
                    pairs++;
                }
            }
            return pairs;
        }

        private boolean takeMatch(int person, int otherHouse, int day) {
            for (int other = 0; other < persons; other++) {
                boolean free = home[other] == otherHouse && !taken[other];
                if (free && matches(person, other) && isHere(other, day)) {
                    taken[other] = true;
                    return true;
                }
            }
            return false;
        }

        private boolean matches(int person, int other) {
            return tongueOf[person] == tongueOf[other] && Math.abs(bornOn[person] - bornOn[other]) <= 3;
        }

        int likeness(int house, int otherHouse, int day) {
            if (house == otherHouse) {
                return 2;
            }
            int pairs = pairUp(house, otherHouse, day);
            int smaller = Math.min(hereInHouse(house, day), hereInHouse(otherHouse, day));
            boolean near = Land.apart(houseCell[house], houseCell[otherHouse]) <= 3;
            if (pairs >= 2 && pairs == smaller && near) {
                return 2;
            }
            return pairs > 0 ? 1 : 0;
        }
    }

    /** Reads a text once from left to right: what it is worth, or the place of its fault. */
    private static final class Reader {
        private static final String LETTERS = "nkosdatc";
        private static final int HERE = 0;
        private static final int YOUNG = 1;
        private static final int OLD = 2;
        private static final int ILL = 3;
        private static final int CARD_DAYS = 4;
        private static final int AGE = 5;
        private static final int TONGUE = 6;
        private static final int DAYS_HERE = 7;
        private static final int DEEPEST = 5;
        private static final int MOST_DIGITS = 4;
        private static final long HELD = 1000000000L;

        private final int[] letters;
        private final byte[] text;
        private int length;
        private int at;
        private int fault;

        Reader() {
            letters = new int[LETTERS.length()];
            text = new byte[MOST_BYTES];
            fault = NONE;
        }

        void clearLetters() {
            Arrays.fill(letters, 0);
        }

        int read(byte[] row, int start, int bytes) {
            System.arraycopy(row, start, text, 0, bytes);
            length = bytes;
            at = 0;
            fault = NONE;
            int worth = readSum(0);
            if (sound() && at < length) {
                fault = at;
            }
            return worth;
        }

        private boolean sound() {
            return fault == NONE;
        }

        /** The byte that is next; 0, which can stand nowhere, at the end. */
        private int next() {
            return at < length ? text[at] & 255 : 0;
        }

        private int failHere() {
            fault = at;
            return 0;
        }

        private static int held(long worth) {
            return (int) Math.max(-HELD, Math.min(HELD, worth));
        }

        private int readSum(int depth) {
            int worth = readTerm(depth);
            for (int turns = 0; turns < MOST_BYTES && sound(); turns++) {
                int sign = next();
                if (sign != '+' && sign != '-') {
                    break;
                }
                at++;
                long term = readTerm(depth);
                worth = held(sign == '+' ? worth + term : worth - term);
            }
            return worth;
        }

        private int readTerm(int depth) {
            int worth = readUnit(depth);
            for (int turns = 0; turns < MOST_BYTES && sound(); turns++) {
                int sign = next();
                if (sign != '*' && sign != '/') {
                    break;
                }
                at++;
                long unit = readUnit(depth);
                worth = held(sign == '*' ? worth * unit : divided(worth, unit));
            }
            return worth;
        }

        private static long divided(long worth, long by) {
            return by == 0 ? 0 : worth / by;
        }

        private int readUnit(int depth) {
            int sign = next();
            if (sign == '(') {
                return readBracket(depth + 1);
            }
            if (isDigit(sign)) {
                return readNumber();
            }
            int letter = LETTERS.indexOf((char) sign);
            if (letter < 0 || letter >= letters.length) {
                return failHere();
            }
            at++;
            return letters[letter];
        }

        private static boolean isDigit(int sign) {
            return sign >= '0' && sign <= '9';
        }

        private int readNumber() {
            int number = 0;
            for (int digits = 0; digits < MOST_DIGITS && isDigit(next()); digits++) {
                number = 10 * number + next() - '0';
                at++;
            }
            return number;
        }

        private int readBracket(int depth) {
            if (depth > DEEPEST) {
                return failHere();
            }
            at++;
            int worth = readSum(depth);
            int sign = next();
            if (sound() && (sign == '<' || sign == '=' || sign == '>')) {
                at++;
                worth = compared(sign, worth, readSum(depth));
            }
            if (!sound()) {
                return 0;
            }
            if (next() != ')') {
                return failHere();
            }
            at++;
            return worth;
        }

        private static int compared(int sign, int left, int right) {
            boolean so = sign == '<' ? left < right : sign == '=' ? left == right : left > right;
            return so ? 1 : 0;
        }
    }

    /** The tape and the rules that it became. */
    private static final class Rules {
        private static final int YOUNG_BELOW = 1825;
        private static final int OLD_ABOVE = 21900;
        private static final int YEAR = 365;
        private static final int MOST_DRAWN = 9999;

        private final byte[] tape;
        private int taped;
        private int told;
        private final byte[] texts;
        private final int[] lengthOf;
        private final int[] purposeOf;
        private final int[] fromDay;
        private final Reader reader;

        Rules() {
            tape = new byte[MOST_BYTES];
            texts = new byte[MOST_RULES * MOST_BYTES];
            lengthOf = new int[MOST_RULES];
            purposeOf = new int[MOST_RULES];
            fromDay = new int[MOST_RULES];
            reader = new Reader();
        }

        int takeBytes(int n, long bytes) {
            for (int i = 0; i < n; i++) {
                tape[taped] = (byte) (bytes >>> 8 * i);
                taped++;
            }
            return taped;
        }

        int makeOfTape(int purpose, int day) {
            int bytes = taped;
            taped = 0;
            reader.read(tape, 0, bytes);
            if (!reader.sound()) {
                return FAULTY - reader.fault;
            }
            System.arraycopy(tape, 0, texts, told * MOST_BYTES, bytes);
            lengthOf[told] = bytes;
            purposeOf[told] = purpose;
            fromDay[told] = day;
            told++;
            return told;
        }

        private int inForce(int purpose, int day) {
            int latest = NONE;
            for (int rule = 0; rule < told; rule++) {
                boolean fits = purposeOf[rule] == purpose && fromDay[rule] <= day;
                if (fits && (latest == NONE || fromDay[rule] >= fromDay[latest])) {
                    latest = rule;
                }
            }
            return latest;
        }

        private int worth(int rule) {
            return reader.read(texts, rule * MOST_BYTES, lengthOf[rule]);
        }

        int drawOf(Folk folk, int house, int day, int since) {
            int rule = inForce(DRAWING, day);
            if (rule == NONE) {
                return 0;
            }
            reader.clearLetters();
            for (int person = 0; person < folk.persons; person++) {
                if (folk.isOfHouse(person, house) && folk.isHere(person, day)) {
                    addToLetters(folk, person, day);
                }
            }
            reader.letters[Reader.CARD_DAYS] = day - since;
            return Math.max(0, Math.min(MOST_DRAWN, worth(rule)));
        }

        private void addToLetters(Folk folk, int person, int day) {
            int age = folk.ageOn(person, day);
            reader.letters[Reader.HERE]++;
            if (age < YOUNG_BELOW) {
                reader.letters[Reader.YOUNG]++;
            }
            if (age > OLD_ABOVE) {
                reader.letters[Reader.OLD]++;
            }
            if (folk.stateOn(person, day) == SICK) {
                reader.letters[Reader.ILL]++;
            }
        }

        int pointsOf(Folk folk, int person, int day) {
            int rule = inForce(POINTING, day);
            if (rule == NONE) {
                return 0;
            }
            reader.clearLetters();
            reader.letters[Reader.HERE] = folk.hereInHouse(folk.home[person], day);
            reader.letters[Reader.ILL] = folk.stateOn(person, day) == SICK ? 1 : 0;
            reader.letters[Reader.AGE] = folk.ageOn(person, day) / YEAR;
            reader.letters[Reader.TONGUE] = folk.tongueOf[person];
            reader.letters[Reader.DAYS_HERE] = day - folk.cameOn[person];
            return worth(rule);
        }
    }

    private static final class Cards {
        private int made;
        private final int[] houseBy;
        private final int[] madeDay;
        private final int[] endDay;

        Cards() {
            houseBy = new int[MOST_CARDS];
            madeDay = new int[MOST_CARDS];
            endDay = new int[MOST_CARDS];
        }

        boolean has(int card) {
            return card >= 0 && card < made;
        }

        int make(int house, int day) {
            houseBy[made] = house;
            madeDay[made] = day;
            endDay[made] = NONE;
            return made++;
        }

        int houseOf(int card) {
            return houseBy[card];
        }

        int madeOn(int card) {
            return madeDay[card];
        }

        boolean isEnded(int card) {
            return endDay[card] != NONE;
        }

        void close(int card, int day) {
            endDay[card] = day;
        }

        boolean isGoodOn(int card, int day) {
            return day >= madeDay[card] && (endDay[card] == NONE || day < endDay[card]);
        }

        int notEnded() {
            int open = 0;
            for (int card = 0; card < made; card++) {
                if (endDay[card] == NONE) {
                    open++;
                }
            }
            return open;
        }
    }

    /** What was handed out by the scale, in the order of its days. */
    private static final class Scale {
        private static final int MOST_LEAN = 300;
        private static final int WHOLE = 1000;

        private int told;
        private final int[] dayTold;
        private final int[] kilosTold;
        private final int[] weighedTold;

        Scale() {
            dayTold = new int[MOST_HANDED];
            kilosTold = new int[MOST_HANDED];
            weighedTold = new int[MOST_HANDED];
        }

        int note(int day, int kilos, int weighed) {
            dayTold[told] = day;
            kilosTold[told] = kilos;
            weighedTold[told] = weighed;
            told++;
            return told;
        }

        int dayOf(int i) {
            return dayTold[i];
        }

        private boolean lets(int i, int lean) {
            int real = kilosTold[i] * (WHOLE - lean) / WHOLE;
            return Math.abs(real - weighedTold[i]) <= 1;
        }

        /**
         * SINCE can't lie behind the day of the first one that 0 doesn't let; and an earlier day
         * asks one lean of still more of them: so this day is the greatest, or there is none.
         */
        int firstNotTrue() {
            for (int i = 0; i < told; i++) {
                if (!lets(i, 0)) {
                    return i;
                }
            }
            return NONE;
        }

        int leastLean(int first) {
            for (int lean = 0; lean <= MOST_LEAN; lean++) {
                if (letsAllFrom(dayTold[first], lean)) {
                    return lean;
                }
            }
            return NONE;
        }

        private boolean letsAllFrom(int day, int lean) {
            for (int i = 0; i < told; i++) {
                if (dayTold[i] >= day && !lets(i, lean)) {
                    return false;
                }
            }
            return true;
        }
    }

    /** Wells, who draws at them in which hour, and which of them rain makes foul. */
    private static final class Wells {
        private static final int HOURS = 24;
        private static final int FIRST_HOUR = 6;
        private static final int PAILS_EACH = 5;
        /** A way to begin: three bits for each block's hour behind 6, block 0's the highest. */
        private static final int WAYS = 4096;
        private static final int WAY_BITS = 3;
        private static final int WAY_HOURS = 7;
        /** One not served outweighs every sum of hours (690 at most), so that one number ranks a way. */
        private static final int UNSERVED_COST = 1000;

        private int dug;
        private final int[] wellCell;
        private final int[] wellYield;
        private final int[] wellDepth;
        private final int[] beginOf;
        /** The line at one well: its houses in need, by numbers. */
        private int lined;
        private final int[] lineHouse;
        private final int[] lineBlock;
        private final int[] lineNeed;
        private final int[] lineLack;
        private final int[] lineHour;
        private final int[] tryBegin;
        private int[] wayCost;
        private int[] wellCost;
        private boolean bestKnown;
        private int bestWay;

        Wells() {
            wellCell = new int[MOST_WELLS];
            wellYield = new int[MOST_WELLS];
            wellDepth = new int[MOST_WELLS];
            beginOf = new int[BLOCKS];
            Arrays.fill(beginOf, FIRST_HOUR);
            lineHouse = new int[MOST_HOUSES];
            lineBlock = new int[MOST_HOUSES];
            lineNeed = new int[MOST_HOUSES];
            lineLack = new int[MOST_HOUSES];
            lineHour = new int[MOST_HOUSES];
            tryBegin = new int[BLOCKS];
            wayCost = new int[0];
            wellCost = new int[0];
        }

        int dig(int cell, int hourly, int depth) {
            wellCell[dug] = cell;
            wellYield[dug] = hourly;
            wellDepth[dug] = depth;
            bestKnown = false;
            return dug++;
        }

        int begin(int block, int hour) {
            int was = beginOf[block];
            beginOf[block] = hour;
            return was;
        }

        private int nearest(int cell) {
            int nearest = NONE;
            int least = 0;
            for (int well = 0; well < dug; well++) {
                int far = Land.apart(cell, wellCell[well]);
                if (nearest == NONE || far < least) {
                    nearest = well;
                    least = far;
                }
            }
            return nearest;
        }

        private void lineUp(Folk folk, int well, int day) {
            lined = 0;
            for (int house = 0; house < folk.houses; house++) {
                if (nearest(folk.cellOf(house)) != well) {
                    continue;
                }
                int need = PAILS_EACH * folk.hereInHouse(house, day);
                if (need > 0) {
                    lineHouse[lined] = house;
                    lineBlock[lined] = folk.blockOf(house);
                    lineNeed[lined] = need;
                    lined++;
                }
            }
        }

        private void spendDay(int well, int[] begins) {
            int lacking = 0;
            for (int i = 0; i < lined; i++) {
                lineLack[i] = lineNeed[i];
                lineHour[i] = NONE;
                lacking += lineNeed[i];
            }
            int left = wellDepth[well];
            for (int hour = earliest(begins); hour < HOURS && left > 0 && lacking > 0; hour++) {
                int drawn = spendHour(hour, Math.min(left, wellYield[well]), begins);
                left -= drawn;
                lacking -= drawn;
            }
        }

        private static int earliest(int[] begins) {
            int earliest = HOURS;
            for (int block = 0; block < BLOCKS && block < begins.length; block++) {
                earliest = Math.min(earliest, begins[block]);
            }
            return earliest;
        }

        private int spendHour(int hour, int pails, int[] begins) {
            int left = pails;
            for (int i = 0; i < lined; i++) {
                if (lineLack[i] == 0 || begins[lineBlock[i]] > hour) {
                    continue;
                }
                int got = Math.min(lineLack[i], left);
                lineLack[i] -= got;
                left -= got;
                if (lineLack[i] > 0) {
                    break;
                }
                lineHour[i] = hour;
            }
            return pails - left;
        }

        int hourOf(Folk folk, int house, int day) {
            if (folk.hereInHouse(house, day) == 0) {
                return beginOf[folk.blockOf(house)];
            }
            int well = nearest(folk.cellOf(house));
            if (well == NONE) {
                return NONE;
            }
            lineUp(folk, well, day);
            spendDay(well, beginOf);
            for (int i = 0; i < lined; i++) {
                if (lineHouse[i] == house) {
                    return lineHour[i];
                }
            }
            return NONE;
        }

        void forgetBest() {
            bestKnown = false;
        }

        void findBest(Folk folk, int day) {
            if (bestKnown) {
                return;
            }
            if (wayCost.length == 0) {
                wayCost = new int[WAYS];
                wellCost = new int[WAYS];
            }
            Arrays.fill(wayCost, 0);
            addThoseWithoutLine(folk, day);
            for (int well = 0; well < dug; well++) {
                lineUp(folk, well, day);
                addLine(well);
            }
            bestWay = 0;
            for (int way = 1; way < WAYS; way++) {
                if (wayCost[way] < wayCost[bestWay]) {
                    bestWay = way;
                }
            }
            bestKnown = true;
        }

        private static int shiftOf(int block) {
            return WAY_BITS * (BLOCKS - 1 - block);
        }

        private static int beginIn(int way, int block) {
            return FIRST_HOUR + (way >> shiftOf(block) & WAY_HOURS);
        }

        /** Houses without need are served as their block begins; without a well those in need never are. */
        private void addThoseWithoutLine(Folk folk, int day) {
            for (int house = 0; house < folk.houses; house++) {
                boolean inNeed = folk.hereInHouse(house, day) > 0;
                if (inNeed && dug > 0) {
                    continue;
                }
                int block = folk.blockOf(house);
                for (int way = 0; way < WAYS; way++) {
                    wayCost[way] += inNeed ? UNSERVED_COST : beginIn(way, block);
                }
            }
        }

        /** Ways that differ only in blocks that don't stand in this line cost the same here. */
        private void addLine(int well) {
            int mine = 0;
            for (int i = 0; i < lined; i++) {
                mine |= WAY_HOURS << shiftOf(lineBlock[i]);
            }
            for (int way = 0; way < WAYS; way++) {
                wellCost[way] = (way & mine) == way ? lineCost(well, way) : wellCost[way & mine];
                wayCost[way] += wellCost[way];
            }
        }

        private int lineCost(int well, int way) {
            for (int block = 0; block < BLOCKS; block++) {
                tryBegin[block] = beginIn(way, block);
            }
            spendDay(well, tryBegin);
            int cost = 0;
            for (int i = 0; i < lined; i++) {
                cost += lineHour[i] == NONE ? UNSERVED_COST : lineHour[i];
            }
            return cost;
        }

        int bestBegin(int block) {
            return beginIn(bestWay, block);
        }

        int bestUnserved() {
            return bestWay < wayCost.length ? wayCost[bestWay] / UNSERVED_COST : 0;
        }

        int bestSum() {
            return bestWay < wayCost.length ? wayCost[bestWay] % UNSERVED_COST : 0;
        }

        int foulOnes(Land land, int rain, int set) {
            land.pour(rain, set);
            int bits = 0;
            for (int well = 0; well < dug; well++) {
                if (land.isFoul(wellCell[well])) {
                    bits |= 1 << well;
                }
            }
            return bits;
        }

        /** A drain more never makes a cell foul: if all of them don't help, no fewer do. */
        int fewestDrains(Land land, int rain) {
            int sets = 1 << land.drainsTold;
            if (foulOnes(land, rain, sets - 1) != 0) {
                return NONE;
            }
            for (int size = 0; size <= land.drainsTold; size++) {
                for (int set = 0; set < sets; set++) {
                    if (Integer.bitCount(set) == size && foulOnes(land, rain, set) == 0) {
                        return set;
                    }
                }
            }
            return NONE;
        }
    }

    private static final class Fire {
        private static final int WITH_WIND = 1;
        private static final int AGAINST_WIND = 4;
        private static final int ACROSS_WIND = 2;

        private int lanesTold;
        private final int[] laneOf;
        private final int[] minute;
        private final boolean[] burnt;
        private final int[] burning;

        Fire() {
            laneOf = new int[MOST_HOUSES];
            Arrays.fill(laneOf, NONE);
            minute = new int[MOST_HOUSES];
            burnt = new boolean[MOST_HOUSES];
            burning = new int[MOST_HOUSES];
        }

        boolean isLane(int house) {
            return laneOf[house] != NONE;
        }

        int addLane(int house) {
            laneOf[house] = lanesTold;
            return lanesTold++;
        }

        private boolean isCleared(int house, int set) {
            return laneOf[house] != NONE && (set >> laneOf[house] & 1) == 1;
        }

        /** The house beside that can burn; NONE if there is none. */
        private int nextHouse(Folk folk, int house, int side, int set) {
            int cell = Land.beside(folk.cellOf(house), side);
            if (cell == NONE) {
                return NONE;
            }
            int next = folk.houseAt(cell);
            return next == NONE || isCleared(next, set) ? NONE : next;
        }

        int minutesTo(Folk folk, int from, int to, int wind, int set) {
            if (isCleared(from, set) || isCleared(to, set)) {
                return NONE;
            }
            Arrays.fill(minute, NONE);
            minute[from] = 0;
            boolean changed = true;
            // A quickest way meets each house once at most, so as many rounds as houses settle all.
            for (int round = 0; round < folk.houses && changed; round++) {
                changed = false;
                for (int house = 0; house < folk.houses; house++) {
                    if (minute[house] != NONE && spread(folk, house, wind, set)) {
                        changed = true;
                    }
                }
            }
            return minute[to];
        }

        private boolean spread(Folk folk, int house, int wind, int set) {
            boolean changed = false;
            for (int side = 0; side < SIDES; side++) {
                int next = nextHouse(folk, house, side, set);
                if (next == NONE) {
                    continue;
                }
                int reached = minute[house] + stepMinutes(side, wind);
                if (minute[next] == NONE || reached < minute[next]) {
                    minute[next] = reached;
                    changed = true;
                }
            }
            return changed;
        }

        private static int stepMinutes(int side, int wind) {
            if (side == wind) {
                return WITH_WIND;
            }
            return side == (wind + 2) % SIDES ? AGAINST_WIND : ACROSS_WIND;
        }

        /** Wind makes fire slow, but stops it nowhere: so it has no say here. A lane more never lets more burn. */
        int fewestLanes(Folk folk, int most) {
            int sets = 1 << lanesTold;
            if (!holds(folk, most, sets - 1)) {
                return NONE;
            }
            for (int size = 0; size <= lanesTold; size++) {
                for (int set = 0; set < sets; set++) {
                    if (Integer.bitCount(set) == size && holds(folk, most, set)) {
                        return set;
                    }
                }
            }
            return NONE;
        }

        private boolean holds(Folk folk, int most, int set) {
            for (int house = 0; house < folk.houses; house++) {
                burnt[house] = isCleared(house, set);
            }
            for (int house = 0; house < folk.houses; house++) {
                if (!burnt[house] && burnFrom(folk, house, set) > most) {
                    return false;
                }
            }
            return true;
        }

        private int burnFrom(Folk folk, int first, int set) {
            burning[0] = first;
            burnt[first] = true;
            int size = 1;
            for (int i = 0; i < size && i < MOST_HOUSES; i++) {
                for (int side = 0; side < SIDES; side++) {
                    int next = nextHouse(folk, burning[i], side, set);
                    if (next != NONE && !burnt[next] && size < MOST_HOUSES) {
                        burnt[next] = true;
                        burning[size] = next;
                        size++;
                    }
                }
            }
            return size;
        }
    }

    /** Those who ask to go on, in the order in which they asked, and the list of them by points. */
    private static final class Leave {
        private int asking;
        private final int[] asker;
        private int ranked;
        private final int[] rankedOne;
        private final int[] rankedPoints;

        Leave() {
            asker = new int[MOST_PERSONS];
            rankedOne = new int[MOST_PERSONS];
            rankedPoints = new int[MOST_PERSONS];
        }

        private int placeOf(int person) {
            for (int i = 0; i < asking; i++) {
                if (asker[i] == person) {
                    return i;
                }
            }
            return NONE;
        }

        boolean asks(int person) {
            return placeOf(person) != NONE;
        }

        void join(int person) {
            if (asking < MOST_PERSONS) {
                asker[asking] = person;
                asking++;
            }
        }

        void quit(int person) {
            int place = placeOf(person);
            if (place == NONE) {
                return;
            }
            for (int i = place; i < asking - 1; i++) {
                asker[i] = asker[i + 1];
            }
            asking--;
        }

        int rank(Folk folk, Rules rules, int day) {
            ranked = 0;
            for (int i = 0; i < asking; i++) {
                int person = asker[i];
                if (folk.isHere(person, day)) {
                    place(person, rules.pointsOf(folk, person, day));
                }
            }
            return ranked;
        }

        private void place(int person, int points) {
            int at = ranked;
            for (; at > 0 && rankedPoints[at - 1] < points; at--) {
                rankedOne[at] = rankedOne[at - 1];
                rankedPoints[at] = rankedPoints[at - 1];
            }
            rankedOne[at] = person;
            rankedPoints[at] = points;
            ranked++;
        }

        int rankedAt(int i) {
            return i >= 0 && i < ranked ? rankedOne[i] : NONE;
        }
    }

    /** Counts of nights, each with the day on which it was told. */
    private static final class Counts {
        private int told;
        private final int[] blockOf;
        private final int[] night;
        private final int[] number;
        private final int[] toldOn;

        Counts() {
            blockOf = new int[MOST_COUNTS];
            night = new int[MOST_COUNTS];
            number = new int[MOST_COUNTS];
            toldOn = new int[MOST_COUNTS];
        }

        int note(int block, int day, int v, int now) {
            blockOf[told] = block;
            night[told] = day;
            number[told] = v;
            toldOn[told] = now;
            told++;
            return told;
        }

        int known(int block, int day, int knownOn) {
            int latest = NONE;
            for (int i = 0; i < told; i++) {
                boolean fits = blockOf[i] == block && night[i] <= day && toldOn[i] <= knownOn && number[i] != UNREAD;
                if (fits && (latest == NONE || night[i] >= night[latest])) {
                    latest = i;
                }
            }
            return latest == NONE ? NONE : number[latest];
        }
    }
}
