import java.util.Arrays;

/**
 * Each REFUSAL of promises 2 to 37: its number, that it comes ahead of those told behind it,
 * and that "nothing changes but how many there were".
 */
public final class RefusalTest {
    private static final int LEAST = Integer.MIN_VALUE;
    private static final int GREATEST = Integer.MAX_VALUE;
    private static final int NOBODY = -1;
    private static final int OTHER = -2;
    private static final int UNFIT = -3;
    private static final int BELOW = -4;
    private static final int ROOM = -6;
    private static final int BEYOND = 1000000000;

    private static final int[] NO_CELLS = {-1, 144, LEAST, GREATEST};
    private static final int[] NO_BLOCKS = {-1, 4, LEAST, GREATEST};
    private static final int[] NO_HOUSES = {-1, 4, LEAST, GREATEST};
    private static final int[] NO_PERSONS = {-1, 6, LEAST, GREATEST};
    private static final int[] NO_CARDS = {-1, 5, LEAST, GREATEST};
    private static final int[] NO_WINDS = {-1, 4, LEAST, GREATEST};
    /** Two drains and two lanes are told. */
    private static final int[] NO_SETS = {4, 5, 7, 1024, -1, -4, LEAST, GREATEST};
    private static final int[] DAYS_BELOW = {-1, LEAST};
    private static final int[] DAYS_ABOVE = {1000, GREATEST};
    private static final int[] BELOW_ONE = {0, -1, LEAST};

    private interface Call {
        int on(CampCards camp);
    }

    private interface CallOf {
        int on(CampCards camp, int number);
    }

    public static void main(String[] args) {
        probeSeesWhatIsTold();
        days();
        height();
        down();
        house();
        person();
        state();
        stateOf();
        here();
        feed();
        rule();
        cardAndEnd();
        draw();
        points();
        handed();
        since();
        pairs();
        well();
        block();
        servedAndBest();
        latrine();
        drain();
        flow();
        foul();
        drains();
        minutes();
        lane();
        lanes();
        queue();
        list();
        goes();
        count();
        counted();
        off();
        Due.close("RefusalTest");
    }

    private static void refused(String call, int why, Call refused) {
        check(call, why, why, camp -> 0, refused);
    }

    private static void refusedBeyond(String call, int why, Call refused) {
        check(call, why, BEYOND - why, camp -> 0, refused);
    }

    private static void refusedAfter(String call, int why, Call before, Call refused) {
        check(call, why, why, before, refused);
    }

    private static void refusedEach(String call, int why, int[] numbers, CallOf refused) {
        for (int number : numbers) {
            refused(call + ", by " + number, why, camp -> refused.on(camp, number));
        }
    }

    private static void refusedBeyondEach(String call, int why, int[] numbers, CallOf refused) {
        for (int number : numbers) {
            refusedBeyond(call + ", by " + number, why, camp -> refused.on(camp, number));
        }
    }

    /** A twin that was not asked must answer the same ever after, and count one REFUSAL less. */
    private static void check(String call, int why, int answer, Call before, Call refused) {
        CampCards camp = LivedIn.camp();
        CampCards twin = LivedIn.camp();
        before.on(camp);
        before.on(twin);
        int[] were = refusals(twin);
        Due.is(call, refused.on(camp), answer);
        were[-why - 1]++;
        Due.so(call + ": counted once, and no other", Arrays.equals(refusals(camp), were));
        Due.so(call + ": nothing changes", Arrays.equals(LivedIn.probe(camp), LivedIn.probe(twin)));
    }

    private static int[] refusals(CampCards camp) {
        int[] counts = new int[6];
        for (int i = 0; i < counts.length; i++) {
            counts[i] = camp.total(11 + i);
        }
        return counts;
    }

    private static Call times(int n, Call call) {
        return camp -> {
            for (int i = 0; i < n; i++) {
                call.on(camp);
            }
            return n;
        };
    }

    /** Were a refused call to do what it asks for all the same, the probe would tell. */
    private static void probeSeesWhatIsTold() {
        Call[] telling = {camp -> camp.days(1), camp -> camp.height(77, 41), camp -> camp.house(5, 0),
            camp -> camp.person(0, 0, 0), camp -> camp.state(0, 1), camp -> camp.feed(1, '1'), camp -> camp.rule(1, 20),
            camp -> camp.card(0), camp -> camp.end(0), camp -> camp.handed(0, 9, 9), camp -> camp.well(9, 1, 1),
            camp -> camp.block(0, 9), camp -> camp.latrine(65, 9), camp -> camp.drain(65), camp -> camp.lane(1),
            camp -> camp.queue(5, true), camp -> camp.queue(0, false), camp -> camp.goes(1), camp -> camp.count(0, 20, 9)};
        for (int i = 0; i < telling.length; i++) {
            CampCards camp = LivedIn.camp();
            telling[i].on(camp);
            Due.so("the probe sees telling call " + i, !Arrays.equals(LivedIn.probe(camp), LivedIn.probe(LivedIn.camp())));
        }
        Due.so("the probe is the same twice", Arrays.equals(LivedIn.probe(LivedIn.camp()), LivedIn.probe(LivedIn.camp())));
    }

    private static void days() {
        refusedEach("2: days", BELOW, BELOW_ONE, (camp, n) -> camp.days(n));
        refusedEach("2: from 20, days", ROOM, new int[] {980, 999, 1000, GREATEST}, (camp, n) -> camp.days(n));
        refusedAfter("2: from 999, days(1)", ROOM, camp -> camp.days(979), camp -> camp.days(1));
        refusedAfter("2: from 999, days(0)", BELOW, camp -> camp.days(979), camp -> camp.days(0));
    }

    private static void height() {
        refusedEach("3: CELL", NOBODY, NO_CELLS, (camp, cell) -> camp.height(cell, 50));
        refusedEach("3: CELL ahead of -4", NOBODY, NO_CELLS, (camp, cell) -> camp.height(cell, -1));
        refusedEach("3: CELL ahead of -6", NOBODY, NO_CELLS, (camp, cell) -> camp.height(cell, 100));
        refusedEach("3: HEIGHT", BELOW, new int[] {-1, LEAST}, (camp, v) -> camp.height(77, v));
        refusedEach("3: HEIGHT", ROOM, new int[] {100, GREATEST}, (camp, v) -> camp.height(77, v));
    }

    private static void down() {
        refusedEach("4: CELL", NOBODY, NO_CELLS, (camp, cell) -> camp.down(cell));
    }

    private static void house() {
        Call thirty = camp -> {
            for (int i = 4; i < 30; i++) {
                camp.house(i, 0);
            }
            return 0;
        };
        refusedEach("5: CELL", NOBODY, NO_CELLS, (camp, cell) -> camp.house(cell, 0));
        refusedEach("5: BLOCK", NOBODY, NO_BLOCKS, (camp, block) -> camp.house(1, block));
        refusedEach("5: BLOCK ahead of -3", NOBODY, NO_BLOCKS, (camp, block) -> camp.house(65, block));
        refused("5: there is one", UNFIT, camp -> camp.house(65, 0));
        refused("5: there is one, of another BLOCK", UNFIT, camp -> camp.house(143, 0));
        refusedAfter("5: 30", ROOM, thirty, camp -> camp.house(100, 0));
        refusedAfter("5: 30, -3 ahead of it", UNFIT, thirty, camp -> camp.house(29, 0));
        refusedAfter("5: 30, -1 ahead of it", NOBODY, thirty, camp -> camp.house(144, 0));
        refusedAfter("5: 30, -1 for the BLOCK ahead of it", NOBODY, thirty, camp -> camp.house(100, 4));
    }

    private static void person() {
        Call sixty = times(54, camp -> camp.person(0, 0, 0));
        refusedEach("6: HOUSE", NOBODY, NO_HOUSES, (camp, house) -> camp.person(house, 0, 0));
        refusedEach("6: HOUSE ahead of -2", NOBODY, NO_HOUSES, (camp, house) -> camp.person(house, 0, 6));
        refusedEach("6: TONGUE", OTHER, new int[] {-1, 6, LEAST, GREATEST}, (camp, tongue) -> camp.person(0, 0, tongue));
        refusedEach("6: TONGUE ahead of -4", OTHER, new int[] {-1, 6, LEAST, GREATEST}, (camp, tongue) -> camp.person(0, -36501, tongue));
        refusedEach("6: TONGUE ahead of -6", OTHER, new int[] {-1, 6, LEAST, GREATEST}, (camp, tongue) -> camp.person(0, 21, tongue));
        refusedEach("6: BORN", BELOW, new int[] {-36501, LEAST}, (camp, born) -> camp.person(0, born, 0));
        refusedEach("6: BORN, behind now", ROOM, new int[] {21, 1000, GREATEST}, (camp, born) -> camp.person(0, born, 0));
        refusedAfter("6: 60", ROOM, sixty, camp -> camp.person(0, 0, 0));
        refusedAfter("6: 60, -1 ahead of it", NOBODY, sixty, camp -> camp.person(4, 0, 0));
        refusedAfter("6: 60, -2 ahead of it", OTHER, sixty, camp -> camp.person(0, 0, 6));
        refusedAfter("6: 60, -4 ahead of it", BELOW, sixty, camp -> camp.person(0, -36501, 0));
    }

    private static void state() {
        Call all = times(148, camp -> camp.state(0, 0));
        refusedEach("7: PERSON", NOBODY, NO_PERSONS, (camp, person) -> camp.state(person, 0));
        refusedEach("7: PERSON ahead of -2", NOBODY, NO_PERSONS, (camp, person) -> camp.state(person, 5));
        refusedEach("7: STATE", OTHER, new int[] {-1, 5, LEAST, GREATEST}, (camp, state) -> camp.state(0, state));
        refusedEach("7: STATE ahead of -3", OTHER, new int[] {-1, 5, LEAST, GREATEST}, (camp, state) -> camp.state(5, state));
        for (int state = 0; state < 5; state++) {
            int told = state;
            refused("7: DEAD, then " + told, UNFIT, camp -> camp.state(5, told));
        }
        refusedAfter("7: 150", ROOM, all, camp -> camp.state(1, 1));
        refusedAfter("7: 150, -1 ahead of it", NOBODY, all, camp -> camp.state(6, 1));
        refusedAfter("7: 150, -2 ahead of it", OTHER, all, camp -> camp.state(1, 5));
        refusedAfter("7: 150, -3 ahead of it", UNFIT, all, camp -> camp.state(5, 1));
    }

    private static void stateOf() {
        refusedEach("8: PERSON", NOBODY, NO_PERSONS, (camp, person) -> camp.stateOf(person, 0));
        refusedEach("8: PERSON ahead of -4", NOBODY, NO_PERSONS, (camp, person) -> camp.stateOf(person, -1));
        refusedEach("8: PERSON ahead of -6", NOBODY, NO_PERSONS, (camp, person) -> camp.stateOf(person, 1000));
        refusedEach("8: DAY", BELOW, DAYS_BELOW, (camp, day) -> camp.stateOf(0, day));
        refusedEach("8: DAY", ROOM, DAYS_ABOVE, (camp, day) -> camp.stateOf(0, day));
    }

    private static void here() {
        refusedEach("9: HOUSE", NOBODY, NO_HOUSES, (camp, house) -> camp.here(house, 0));
        refusedEach("9: HOUSE ahead of -4", NOBODY, NO_HOUSES, (camp, house) -> camp.here(house, -1));
        refusedEach("9: HOUSE ahead of -6", NOBODY, NO_HOUSES, (camp, house) -> camp.here(house, 1000));
        refusedEach("9: DAY", BELOW, DAYS_BELOW, (camp, day) -> camp.here(0, day));
        refusedEach("9: DAY", ROOM, DAYS_ABOVE, (camp, day) -> camp.here(0, day));
    }

    private static void feed() {
        Call nearly = times(56, camp -> camp.feed(1, 'n'));
        Call full = times(57, camp -> camp.feed(1, 'n'));
        for (int n : BELOW_ONE) {
            refused("10: n " + n, BELOW, camp -> camp.feed(n, 'n'));
            refusedAfter("10: n " + n + " to a full TAPE", BELOW, full, camp -> camp.feed(n, 'n'));
        }
        refusedEach("10: n", ROOM, new int[] {9, 60, GREATEST}, (camp, n) -> camp.feed(n, 'n'));
        for (int n = 2; n <= 8; n++) {
            int more = n;
            refusedAfter("10: 59 bytes and " + n, ROOM, nearly, camp -> camp.feed(more, 'n'));
        }
        refusedAfter("10: 60 bytes and 1", ROOM, full, camp -> camp.feed(1, 'n'));
    }

    private static void rule() {
        Call thirty = times(28, camp -> camp.feed(1, '1') + camp.rule(1, 20) + Due.type(camp, "n+"));
        refusedEach("11: PURPOSE", OTHER, new int[] {-1, 2, LEAST, GREATEST}, (camp, purpose) -> camp.rule(purpose, 20));
        refusedEach("11: PURPOSE ahead of -4", OTHER, new int[] {-1, 2, LEAST, GREATEST}, (camp, purpose) -> camp.rule(purpose, 19));
        refusedEach("11: PURPOSE ahead of -6", OTHER, new int[] {-1, 2, LEAST, GREATEST}, (camp, purpose) -> camp.rule(purpose, 1000));
        refusedEach("11: DAY, ahead of now", BELOW, new int[] {19, 0, -1, LEAST}, (camp, day) -> camp.rule(0, day));
        refusedEach("11: DAY", ROOM, DAYS_ABOVE, (camp, day) -> camp.rule(0, day));
        refusedAfter("11: 30", ROOM, thirty, camp -> camp.rule(0, 20));
        refusedAfter("11: 30, -2 ahead of it", OTHER, thirty, camp -> camp.rule(2, 20));
        refusedAfter("11: 30, -4 ahead of it", BELOW, thirty, camp -> camp.rule(0, 19));
    }

    private static void cardAndEnd() {
        Call forty = times(35, camp -> camp.card(0));
        refusedEach("12: HOUSE", NOBODY, NO_HOUSES, (camp, house) -> camp.card(house));
        refusedAfter("12: 40", ROOM, forty, camp -> camp.card(0));
        refusedAfter("12: 40, one more ENDED", ROOM, camp -> forty.on(camp) + camp.end(7), camp -> camp.card(0));
        refusedAfter("12: 40, -1 ahead of it", NOBODY, forty, camp -> camp.card(4));
        refusedEach("13: CARD", NOBODY, NO_CARDS, (camp, card) -> camp.end(card));
        refused("13: it was ENDED", UNFIT, camp -> camp.end(3));
        refusedAfter("13: it was ENDED today", UNFIT, camp -> camp.end(0), camp -> camp.end(0));
    }

    private static void draw() {
        refusedEach("14: CARD", NOBODY, NO_CARDS, (camp, card) -> camp.draw(card, 0));
        refusedEach("14: CARD ahead of -4", NOBODY, NO_CARDS, (camp, card) -> camp.draw(card, -1));
        refusedEach("14: CARD ahead of -6", NOBODY, NO_CARDS, (camp, card) -> camp.draw(card, 1000));
        refusedEach("14: DAY", BELOW, DAYS_BELOW, (camp, day) -> camp.draw(0, day));
        refusedEach("14: DAY of an ENDED one", BELOW, DAYS_BELOW, (camp, day) -> camp.draw(3, day));
        refusedEach("14: DAY", ROOM, DAYS_ABOVE, (camp, day) -> camp.draw(0, day));
        refusedEach("14: DAY of an ENDED one", ROOM, DAYS_ABOVE, (camp, day) -> camp.draw(3, day));
    }

    private static void points() {
        refusedBeyondEach("15: PERSON", NOBODY, NO_PERSONS, (camp, person) -> camp.points(person, 0));
        refusedBeyondEach("15: PERSON ahead of -4", NOBODY, NO_PERSONS, (camp, person) -> camp.points(person, -1));
        refusedBeyondEach("15: PERSON ahead of -6", NOBODY, NO_PERSONS, (camp, person) -> camp.points(person, 1000));
        refusedBeyondEach("15: DAY", BELOW, DAYS_BELOW, (camp, day) -> camp.points(0, day));
        refusedBeyondEach("15: DAY", ROOM, DAYS_ABOVE, (camp, day) -> camp.points(0, day));
    }

    private static void handed() {
        Call sixty = times(58, camp -> camp.handed(0, 9, 9));
        refusedEach("16: CARD", NOBODY, NO_CARDS, (camp, card) -> camp.handed(card, 1, 1));
        refusedEach("16: CARD ahead of -4", NOBODY, NO_CARDS, (camp, card) -> camp.handed(card, 0, -1));
        refusedEach("16: CARD ahead of -6", NOBODY, NO_CARDS, (camp, card) -> camp.handed(card, 10000, 10000));
        refused("16: ENDED", UNFIT, camp -> camp.handed(3, 1, 1));
        refused("16: ENDED, ahead of -4", UNFIT, camp -> camp.handed(3, 0, -1));
        refused("16: ENDED, ahead of -6", UNFIT, camp -> camp.handed(3, 10000, 1));
        refusedEach("16: kilos", BELOW, BELOW_ONE, (camp, kilos) -> camp.handed(0, kilos, 1));
        refusedEach("16: kilos ahead of -6", BELOW, BELOW_ONE, (camp, kilos) -> camp.handed(0, kilos, 10000));
        refusedEach("16: weighed", BELOW, new int[] {-1, LEAST}, (camp, weighed) -> camp.handed(0, 1, weighed));
        refusedEach("16: weighed ahead of -6", BELOW, new int[] {-1, LEAST}, (camp, weighed) -> camp.handed(0, 10000, weighed));
        refusedEach("16: kilos", ROOM, new int[] {10000, GREATEST}, (camp, much) -> camp.handed(0, much, 1));
        refusedEach("16: weighed", ROOM, new int[] {10000, GREATEST}, (camp, much) -> camp.handed(0, 1, much));
        refusedAfter("16: 60", ROOM, sixty, camp -> camp.handed(1, 1, 1));
        refusedAfter("16: 60, -1 ahead of it", NOBODY, sixty, camp -> camp.handed(5, 1, 1));
        refusedAfter("16: 60, -3 ahead of it", UNFIT, sixty, camp -> camp.handed(3, 1, 1));
        refusedAfter("16: 60, -4 ahead of it", BELOW, sixty, camp -> camp.handed(1, 0, 1));
    }

    private static void since() {
        refusedEach("17: what", OTHER, new int[] {-1, 2, LEAST, GREATEST}, (camp, what) -> camp.since(what));
    }

    private static void pairs() {
        refusedEach("18: the one, CARD", NOBODY, NO_CARDS, (camp, card) -> camp.pairs(card, 0));
        refusedEach("18: the other, CARD", NOBODY, NO_CARDS, (camp, card) -> camp.pairs(0, card));
        refusedEach("18: CARD ahead of -3", NOBODY, NO_CARDS, (camp, card) -> camp.pairs(3, card));
        refusedEach("18: CARD twice", NOBODY, NO_CARDS, (camp, card) -> camp.pairs(card, card));
        refusedEach("19: the one, CARD", NOBODY, NO_CARDS, (camp, card) -> camp.alike(card, 0));
        refusedEach("19: the other, CARD", NOBODY, NO_CARDS, (camp, card) -> camp.alike(0, card));
        refusedEach("19: CARD ahead of -3", NOBODY, NO_CARDS, (camp, card) -> camp.alike(card, 3));
        refused("18: one twice", NOBODY, camp -> camp.pairs(0, 0));
        refused("18: an ENDED one twice", NOBODY, camp -> camp.pairs(3, 3));
        refused("18: the one is ENDED", UNFIT, camp -> camp.pairs(3, 0));
        refused("18: the other is ENDED", UNFIT, camp -> camp.pairs(0, 3));
        refusedAfter("18: both are ENDED", UNFIT, camp -> camp.end(0), camp -> camp.pairs(0, 3));
        refused("19: one twice", NOBODY, camp -> camp.alike(0, 0));
        refused("19: the one is ENDED", UNFIT, camp -> camp.alike(3, 0));
        refused("19: the other is ENDED", UNFIT, camp -> camp.alike(0, 3));
        refusedAfter("19: of one HOUSE, one is ENDED", UNFIT, camp -> camp.end(4), camp -> camp.alike(0, 4));
    }

    private static void well() {
        Call six = times(4, camp -> camp.well(0, 1, 1));
        refusedEach("20: CELL", NOBODY, NO_CELLS, (camp, cell) -> camp.well(cell, 1, 1));
        refusedEach("20: CELL ahead of -4", NOBODY, NO_CELLS, (camp, cell) -> camp.well(cell, 0, 1));
        refusedEach("20: CELL ahead of -6", NOBODY, NO_CELLS, (camp, cell) -> camp.well(cell, 100, 1));
        refusedEach("20: YIELD", BELOW, BELOW_ONE, (camp, less) -> camp.well(0, less, 1));
        refusedEach("20: YIELD ahead of -6", BELOW, BELOW_ONE, (camp, less) -> camp.well(0, less, 10000));
        refusedEach("20: DEPTH", BELOW, BELOW_ONE, (camp, less) -> camp.well(0, 1, less));
        refusedEach("20: DEPTH ahead of -6", BELOW, BELOW_ONE, (camp, less) -> camp.well(0, 100, less));
        refused("20: YIELD 100", ROOM, camp -> camp.well(0, 100, 1));
        refused("20: the greatest YIELD", ROOM, camp -> camp.well(0, GREATEST, 1));
        refused("20: DEPTH 10000", ROOM, camp -> camp.well(0, 1, 10000));
        refused("20: the greatest DEPTH", ROOM, camp -> camp.well(0, 1, GREATEST));
        refusedAfter("20: 6", ROOM, six, camp -> camp.well(0, 1, 1));
        refusedAfter("20: 6, -1 ahead of it", NOBODY, six, camp -> camp.well(144, 1, 1));
        refusedAfter("20: 6, -4 ahead of it", BELOW, six, camp -> camp.well(0, 1, 0));
    }

    private static void block() {
        refusedEach("21: BLOCK", NOBODY, NO_BLOCKS, (camp, block) -> camp.block(block, 6));
        refusedEach("21: BLOCK ahead of -4", NOBODY, NO_BLOCKS, (camp, block) -> camp.block(block, 3));
        refusedEach("21: BLOCK ahead of -6", NOBODY, NO_BLOCKS, (camp, block) -> camp.block(block, 21));
        refusedEach("21: HOUR", BELOW, new int[] {3, 0, -1, LEAST}, (camp, hour) -> camp.block(0, hour));
        refusedEach("21: HOUR", ROOM, new int[] {21, 24, GREATEST}, (camp, hour) -> camp.block(0, hour));
    }

    private static void servedAndBest() {
        refusedEach("22: HOUSE", NOBODY, NO_HOUSES, (camp, house) -> camp.served(house));
        refusedEach("23: what", OTHER, new int[] {-1, 6, LEAST, GREATEST}, (camp, what) -> camp.best(what));
    }

    private static void latrine() {
        Call fourteen = times(12, camp -> camp.latrine(5, 99999));
        refusedEach("24: CELL", NOBODY, NO_CELLS, (camp, cell) -> camp.latrine(cell, 1));
        refusedEach("24: CELL ahead of -4", NOBODY, NO_CELLS, (camp, cell) -> camp.latrine(cell, 0));
        refusedEach("24: CELL ahead of -6", NOBODY, NO_CELLS, (camp, cell) -> camp.latrine(cell, 100000));
        refusedEach("24: WALL", BELOW, BELOW_ONE, (camp, wall) -> camp.latrine(65, wall));
        refusedEach("24: WALL", ROOM, new int[] {100000, GREATEST}, (camp, wall) -> camp.latrine(65, wall));
        refusedAfter("24: 14", ROOM, fourteen, camp -> camp.latrine(65, 1));
        refusedAfter("24: 14, -1 ahead of it", NOBODY, fourteen, camp -> camp.latrine(144, 1));
        refusedAfter("24: 14, -4 ahead of it", BELOW, fourteen, camp -> camp.latrine(65, 0));
    }

    private static void drain() {
        Call ten = camp -> {
            for (int i = 0; i < 8; i++) {
                camp.drain(20 + i);
            }
            return 0;
        };
        refusedEach("25: CELL", NOBODY, NO_CELLS, (camp, cell) -> camp.drain(cell));
        refused("25: told so", UNFIT, camp -> camp.drain(77));
        refusedAfter("25: 10", ROOM, ten, camp -> camp.drain(65));
        refusedAfter("25: 10, -3 ahead of it", UNFIT, ten, camp -> camp.drain(27));
        refusedAfter("25: 10, -1 ahead of it", NOBODY, ten, camp -> camp.drain(144));
    }

    private static void flow() {
        refusedEach("26: CELL", NOBODY, NO_CELLS, (camp, cell) -> camp.flow(cell, 1));
        refusedEach("26: CELL ahead of -4", NOBODY, NO_CELLS, (camp, cell) -> camp.flow(cell, 0));
        refusedEach("26: CELL ahead of -6", NOBODY, NO_CELLS, (camp, cell) -> camp.flow(cell, 1000));
        refusedEach("26: RAIN", BELOW, BELOW_ONE, (camp, rain) -> camp.flow(89, rain));
        refusedEach("26: RAIN", ROOM, new int[] {1000, GREATEST}, (camp, rain) -> camp.flow(89, rain));
    }

    private static void foul() {
        refusedEach("27: others in the set", NOBODY, NO_SETS, (camp, set) -> camp.foul(1, set));
        refusedEach("27: -4 ahead of the set", BELOW, NO_SETS, (camp, set) -> camp.foul(0, set));
        refusedEach("27: -6 ahead of the set", ROOM, NO_SETS, (camp, set) -> camp.foul(1000, set));
        refusedEach("27: RAIN", BELOW, BELOW_ONE, (camp, rain) -> camp.foul(rain, 3));
        refusedEach("27: RAIN", ROOM, new int[] {1000, GREATEST}, (camp, rain) -> camp.foul(rain, 3));
    }

    private static void drains() {
        refusedEach("28: RAIN", BELOW, BELOW_ONE, (camp, rain) -> camp.drains(rain));
        refusedEach("28: RAIN", ROOM, new int[] {1000, GREATEST}, (camp, rain) -> camp.drains(rain));
    }

    private static void minutes() {
        refusedEach("29: from HOUSE", NOBODY, NO_HOUSES, (camp, house) -> camp.minutes(house, 0, 0, 0));
        refusedEach("29: to HOUSE", NOBODY, NO_HOUSES, (camp, house) -> camp.minutes(0, house, 0, 0));
        refusedEach("29: HOUSE ahead of -2", NOBODY, NO_HOUSES, (camp, house) -> camp.minutes(0, house, 4, 0));
        refusedEach("29: others in the set", NOBODY, NO_SETS, (camp, set) -> camp.minutes(0, 1, 0, set));
        refusedEach("29: the set ahead of -2", NOBODY, NO_SETS, (camp, set) -> camp.minutes(0, 1, -1, set));
        refusedEach("29: WIND", OTHER, NO_WINDS, (camp, wind) -> camp.minutes(0, 1, wind, 3));
    }

    private static void lane() {
        Call eight = camp -> {
            for (int i = 0; i < 6; i++) {
                camp.lane(camp.house(20 + i, 0));
            }
            return 0;
        };
        refusedEach("30: HOUSE", NOBODY, NO_HOUSES, (camp, house) -> camp.lane(house));
        refused("30: told so", UNFIT, camp -> camp.lane(2));
        refusedAfter("30: 8", ROOM, eight, camp -> camp.lane(1));
        refusedAfter("30: 8, -3 ahead of it", UNFIT, eight, camp -> camp.lane(9));
        refusedAfter("30: 8, -1 ahead of it", NOBODY, eight, camp -> camp.lane(10));
    }

    private static void lanes() {
        refusedEach("31: WIND", OTHER, NO_WINDS, (camp, wind) -> camp.lanes(wind, 1));
        refusedEach("31: WIND ahead of -4", OTHER, NO_WINDS, (camp, wind) -> camp.lanes(wind, 0));
        refusedEach("31: WIND ahead of -6", OTHER, NO_WINDS, (camp, wind) -> camp.lanes(wind, 31));
        refusedEach("31: number", BELOW, BELOW_ONE, (camp, most) -> camp.lanes(0, most));
        refusedEach("31: number", ROOM, new int[] {31, GREATEST}, (camp, most) -> camp.lanes(0, most));
    }

    private static void queue() {
        refusedEach("32: PERSON asks", NOBODY, NO_PERSONS, (camp, person) -> camp.queue(person, true));
        refusedEach("32: PERSON not any more", NOBODY, NO_PERSONS, (camp, person) -> camp.queue(person, false));
    }

    private static void list() {
        refusedEach("33: DAY", BELOW, DAYS_BELOW, (camp, day) -> camp.list(day, 0));
        refusedEach("33: DAY, none such", BELOW, DAYS_BELOW, (camp, day) -> camp.list(day, -1));
        refusedEach("33: DAY", ROOM, DAYS_ABOVE, (camp, day) -> camp.list(day, 0));
        refusedEach("33: DAY, none such", ROOM, DAYS_ABOVE, (camp, day) -> camp.list(day, 99));
    }

    private static void goes() {
        Call allButOne = times(147, camp -> camp.state(5 - 1, 0));
        Call all = times(148, camp -> camp.state(5 - 1, 0));
        for (int n : new int[] {-1, LEAST}) {
            refused("34: n " + n, BELOW, camp -> camp.goes(n));
            refusedAfter("34: n " + n + ", and no room", BELOW, all, camp -> camp.goes(n));
        }
        refusedEach("34: n", ROOM, new int[] {61, GREATEST}, (camp, n) -> camp.goes(n));
        for (int n = 2; n <= 60; n += 29) {
            int going = n;
            refusedAfter("34: room for 1, n " + n, ROOM, allButOne, camp -> camp.goes(going));
        }
        refusedAfter("34: room for none", ROOM, all, camp -> camp.goes(1));
    }

    private static void count() {
        Call forty = times(38, camp -> camp.count(2, 0, 1));
        refusedEach("35: BLOCK", NOBODY, NO_BLOCKS, (camp, block) -> camp.count(block, 0, 0));
        refusedEach("35: BLOCK ahead of -4", NOBODY, NO_BLOCKS, (camp, block) -> camp.count(block, -1, -2));
        refusedEach("35: BLOCK ahead of -6", NOBODY, NO_BLOCKS, (camp, block) -> camp.count(block, 21, 10000));
        refusedEach("35: DAY", BELOW, DAYS_BELOW, (camp, day) -> camp.count(0, day, 0));
        refusedEach("35: DAY ahead of -6", BELOW, DAYS_BELOW, (camp, day) -> camp.count(0, day, 10000));
        refusedEach("35: v", BELOW, new int[] {-2, LEAST}, (camp, v) -> camp.count(0, 20, v));
        refusedEach("35: v ahead of -6", BELOW, new int[] {-2, LEAST}, (camp, v) -> camp.count(0, 21, v));
        refusedEach("35: DAY, behind now", ROOM, new int[] {21, 999, 1000, GREATEST}, (camp, day) -> camp.count(0, day, 0));
        refusedEach("35: v", ROOM, new int[] {10000, GREATEST}, (camp, v) -> camp.count(0, 20, v));
        refusedAfter("35: 40", ROOM, forty, camp -> camp.count(0, 20, 0));
        refusedAfter("35: 40, not to be read", ROOM, forty, camp -> camp.count(0, 20, -1));
        refusedAfter("35: 40, -1 ahead of it", NOBODY, forty, camp -> camp.count(4, 20, 0));
        refusedAfter("35: 40, -4 ahead of it", BELOW, forty, camp -> camp.count(0, 20, -2));
    }

    private static void counted() {
        refusedEach("36: BLOCK", NOBODY, NO_BLOCKS, (camp, block) -> camp.counted(block, 20, 20));
        refusedEach("36: BLOCK ahead of -4", NOBODY, NO_BLOCKS, (camp, block) -> camp.counted(block, -1, -1));
        refusedEach("36: BLOCK ahead of -6", NOBODY, NO_BLOCKS, (camp, block) -> camp.counted(block, 1000, 1000));
        refusedEach("36: DAY", BELOW, DAYS_BELOW, (camp, day) -> camp.counted(0, day, 20));
        refusedEach("36: DAY ahead of -6", BELOW, DAYS_BELOW, (camp, day) -> camp.counted(0, day, 1000));
        refusedEach("36: K", BELOW, DAYS_BELOW, (camp, day) -> camp.counted(0, 20, day));
        refusedEach("36: K ahead of -6", BELOW, DAYS_BELOW, (camp, day) -> camp.counted(0, 1000, day));
        refusedEach("36: DAY", ROOM, DAYS_ABOVE, (camp, day) -> camp.counted(0, day, 20));
        refusedEach("36: K", ROOM, DAYS_ABOVE, (camp, day) -> camp.counted(0, 20, day));
    }

    private static void off() {
        refusedBeyondEach("37: BLOCK", NOBODY, NO_BLOCKS, (camp, block) -> camp.off(block, 20));
        refusedBeyondEach("37: BLOCK ahead of -4", NOBODY, NO_BLOCKS, (camp, block) -> camp.off(block, -1));
        refusedBeyondEach("37: BLOCK ahead of -6", NOBODY, NO_BLOCKS, (camp, block) -> camp.off(block, 1000));
        refusedBeyondEach("37: DAY", BELOW, DAYS_BELOW, (camp, day) -> camp.off(0, day));
        refusedBeyondEach("37: DAY ahead of -3", BELOW, DAYS_BELOW, (camp, day) -> camp.off(3, day));
        refusedBeyondEach("37: DAY", ROOM, DAYS_ABOVE, (camp, day) -> camp.off(0, day));
        refusedBeyondEach("37: DAY ahead of -3", ROOM, DAYS_ABOVE, (camp, day) -> camp.off(3, day));
        refusedBeyond("37: there is no COUNT", UNFIT, camp -> camp.off(3, 20));
        refusedBeyond("37: none that could be read", UNFIT, camp -> camp.off(1, 20));
        refusedBeyond("37: none by then", UNFIT, camp -> camp.off(0, 19));
    }
}
