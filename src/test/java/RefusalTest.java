import java.util.Arrays;

/**
 * Each REFUSAL of promises 2 to 37: its number, that it comes ahead of those told behind it,
 * and that "nothing changes but how many there were".
 */
public final class RefusalTest {
    private static final int LEAST = Integer.MIN_VALUE;
    private static final int GREATEST = Integer.MAX_VALUE;
    private static final int NOBODY = -1;
    private static final int OTHER = -2;
    private static final int UNFIT = -3;
    private static final int BELOW = -4;
    private static final int ROOM = -6;
    private static final int BEYOND = 1000000000;

    private static final int[] NO_CELLS = {-1, 144, LEAST, GREATEST};
    private static final int[] NO_BLOCKS = {-1, 4, LEAST, GREATEST};
    private static final int[] NO_HOUSES = {-1, 4, LEAST, GREATEST};
    private static final int[] NO_PERSONS = {-1, 6, LEAST, GREATEST};
    private static final int[] NO_CARDS = {-1, 5, LEAST, GREATEST};
    private static final int[] NO_WINDS = {-1, 4, LEAST, GREATEST};
    /** Two drains and two lanes are told. */
    private static final int[] NO_SETS = {4, 5, 7, 1024, -1, -4, LEAST, GREATEST};
    private static final int[] DAYS_BELOW = {-1, LEAST};
    private static final int[] DAYS_ABOVE = {1000, GREATEST};
    private static final int[] BELOW_ONE = {0, -1, LEAST};

    private interface Call {
        int on(CampCards camp);
    }

    public static void main(String[] args) {
        probeSeesWhatIsTold();
        days();
        height();
        down();
        house();
        person();
        state();
        stateOf();
        here();
        feed();
        rule();
        cardAndEnd();
        draw();
        points();
        handed();
        since();
        pairs();
        well();
        block();
        servedAndBest();
        latrine();
        drain();
        flow();
        foul();
        drains();
        minutes();
        lane();
        lanes();
        queue();
        list();
        goes();
        count();
        counted();
        off();
        Due.close("RefusalTest");
    }

    private static void refused(String call, int why, Call refused) {
        refusedAfter(call, why, why, camp -> 0, refused);
    }

    private static void refusedBeyond(String call, int why, Call refused) {
        refusedAfter(call, why, BEYOND - why, camp -> 0, refused);
    }

    /** A twin that was not asked must answer the same ever after, and count one REFUSAL less. */
    private static void refusedAfter(String call, int why, int answer, Call before, Call refused) {
        CampCards camp = LivedIn.camp();
        CampCards twin = LivedIn.camp();
        before.on(camp);
        before.on(twin);
        int[] were = refusals(twin);
        Due.is(call, refused.on(camp), answer);
        were[-why - 1]++;
        Due.so(call + ": counted once, and no other", Arrays.equals(refusals(camp), were));
        Due.so(call + ": nothing changes", Arrays.equals(LivedIn.probe(camp), LivedIn.probe(twin)));
    }

    private static int[] refusals(CampCards camp) {
        int[] counts = new int[6];
        for (int i = 0; i < counts.length; i++) {
            counts[i] = camp.total(11 + i);
        }
        return counts;
    }

    private static Call times(int n, Call call) {
        return camp -> {
            for (int i = 0; i < n; i++) {
                call.on(camp);
            }
            return n;
        };
    }

    /** Were a refused call to do what it asks for all the same, the probe would tell. */
    private static void probeSeesWhatIsTold() {
        Call[] telling = {camp -> camp.days(1), camp -> camp.height(77, 41), camp -> camp.house(5, 0),
            camp -> camp.person(0, 0, 0), camp -> camp.state(0, 1), camp -> camp.feed(1, '1'), camp -> camp.rule(1, 20),
            camp -> camp.card(0), camp -> camp.end(0), camp -> camp.handed(0, 9, 9), camp -> camp.well(9, 1, 1),
            camp -> camp.block(0, 9), camp -> camp.latrine(65, 9), camp -> camp.drain(65), camp -> camp.lane(1),
            camp -> camp.queue(5, true), camp -> camp.queue(0, false), camp -> camp.goes(1), camp -> camp.count(0, 20, 9)};
        for (int i = 0; i < telling.length; i++) {
            CampCards camp = LivedIn.camp();
            telling[i].on(camp);
            Due.so("the probe sees telling call " + i, !Arrays.equals(LivedIn.probe(camp), LivedIn.probe(LivedIn.camp())));
        }
        Due.so("the probe is the same twice", Arrays.equals(LivedIn.probe(LivedIn.camp()), LivedIn.probe(LivedIn.camp())));
    }

    private static void days() {
        for (int n : BELOW_ONE) {
            refused("2: days(" + n + ")", BELOW, camp -> camp.days(n));
        }
        for (int n : new int[] {980, 999, 1000, GREATEST}) {
            refused("2: from 20, days(" + n + ")", ROOM, camp -> camp.days(n));
        }
        refusedAfter("2: from 999, days(1)", ROOM, ROOM, camp -> camp.days(979), camp -> camp.days(1));
        refusedAfter("2: from 999, days(0)", BELOW, BELOW, camp -> camp.days(979), camp -> camp.days(0));
    }

    private static void height() {
        for (int cell : NO_CELLS) {
            refused("3: CELL " + cell, NOBODY, camp -> camp.height(cell, 50));
            refused("3: CELL " + cell + " ahead of -4", NOBODY, camp -> camp.height(cell, -1));
            refused("3: CELL " + cell + " ahead of -6", NOBODY, camp -> camp.height(cell, 100));
        }
        for (int v : new int[] {-1, LEAST}) {
            refused("3: HEIGHT " + v, BELOW, camp -> camp.height(77, v));
        }
        for (int v : new int[] {100, GREATEST}) {
            refused("3: HEIGHT " + v, ROOM, camp -> camp.height(77, v));
        }
    }

    private static void down() {
        for (int cell : NO_CELLS) {
            refused("4: CELL " + cell, NOBODY, camp -> camp.down(cell));
        }
    }

    private static void house() {
        Call thirty = camp -> {
            for (int i = 4; i < 30; i++) {
                camp.house(i, 0);
            }
            return 0;
        };
        for (int cell : NO_CELLS) {
            refused("5: CELL " + cell, NOBODY, camp -> camp.house(cell, 0));
        }
        for (int block : NO_BLOCKS) {
            refused("5: BLOCK " + block, NOBODY, camp -> camp.house(1, block));
            refused("5: BLOCK " + block + " ahead of -3", NOBODY, camp -> camp.house(65, block));
        }
        refused("5: there is one", UNFIT, camp -> camp.house(65, 0));
        refused("5: there is one, of another BLOCK", UNFIT, camp -> camp.house(143, 0));
        refusedAfter("5: 30", ROOM, ROOM, thirty, camp -> camp.house(100, 0));
        refusedAfter("5: 30, -3 ahead of it", UNFIT, UNFIT, thirty, camp -> camp.house(29, 0));
        refusedAfter("5: 30, -1 ahead of it", NOBODY, NOBODY, thirty, camp -> camp.house(144, 0));
        refusedAfter("5: 30, -1 for the BLOCK ahead of it", NOBODY, NOBODY, thirty, camp -> camp.house(100, 4));
    }

    private static void person() {
        Call sixty = times(54, camp -> camp.person(0, 0, 0));
        for (int house : NO_HOUSES) {
            refused("6: HOUSE " + house, NOBODY, camp -> camp.person(house, 0, 0));
            refused("6: HOUSE " + house + " ahead of -2", NOBODY, camp -> camp.person(house, 0, 6));
        }
        for (int tongue : new int[] {-1, 6, LEAST, GREATEST}) {
            refused("6: TONGUE " + tongue, OTHER, camp -> camp.person(0, 0, tongue));
            refused("6: TONGUE " + tongue + " ahead of -4", OTHER, camp -> camp.person(0, -36501, tongue));
            refused("6: TONGUE " + tongue + " ahead of -6", OTHER, camp -> camp.person(0, 21, tongue));
        }
        for (int born : new int[] {-36501, LEAST}) {
            refused("6: BORN " + born, BELOW, camp -> camp.person(0, born, 0));
        }
        for (int born : new int[] {21, 1000, GREATEST}) {
            refused("6: BORN " + born + ", behind now", ROOM, camp -> camp.person(0, born, 0));
        }
        refusedAfter("6: 60", ROOM, ROOM, sixty, camp -> camp.person(0, 0, 0));
        refusedAfter("6: 60, -1 ahead of it", NOBODY, NOBODY, sixty, camp -> camp.person(4, 0, 0));
        refusedAfter("6: 60, -2 ahead of it", OTHER, OTHER, sixty, camp -> camp.person(0, 0, 6));
        refusedAfter("6: 60, -4 ahead of it", BELOW, BELOW, sixty, camp -> camp.person(0, -36501, 0));
    }

    private static void state() {
        Call all = times(148, camp -> camp.state(0, 0));
        for (int person : NO_PERSONS) {
            refused("7: PERSON " + person, NOBODY, camp -> camp.state(person, 0));
            refused("7: PERSON " + person + " ahead of -2", NOBODY, camp -> camp.state(person, 5));
        }
        for (int state : new int[] {-1, 5, LEAST, GREATEST}) {
            refused("7: STATE " + state, OTHER, camp -> camp.state(0, state));
            refused("7: STATE " + state + " ahead of -3", OTHER, camp -> camp.state(5, state));
        }
        for (int state = 0; state < 5; state++) {
            int told = state;
            refused("7: DEAD, then " + told, UNFIT, camp -> camp.state(5, told));
        }
        refusedAfter("7: 150", ROOM, ROOM, all, camp -> camp.state(1, 1));
        refusedAfter("7: 150, -1 ahead of it", NOBODY, NOBODY, all, camp -> camp.state(6, 1));
        refusedAfter("7: 150, -2 ahead of it", OTHER, OTHER, all, camp -> camp.state(1, 5));
        refusedAfter("7: 150, -3 ahead of it", UNFIT, UNFIT, all, camp -> camp.state(5, 1));
    }

    private static void stateOf() {
        for (int person : NO_PERSONS) {
            refused("8: PERSON " + person, NOBODY, camp -> camp.stateOf(person, 0));
            refused("8: PERSON " + person + " ahead of -4", NOBODY, camp -> camp.stateOf(person, -1));
            refused("8: PERSON " + person + " ahead of -6", NOBODY, camp -> camp.stateOf(person, 1000));
        }
        for (int day : DAYS_BELOW) {
            refused("8: DAY " + day, BELOW, camp -> camp.stateOf(0, day));
        }
        for (int day : DAYS_ABOVE) {
            refused("8: DAY " + day, ROOM, camp -> camp.stateOf(0, day));
        }
    }

    private static void here() {
        for (int house : NO_HOUSES) {
            refused("9: HOUSE " + house, NOBODY, camp -> camp.here(house, 0));
            refused("9: HOUSE " + house + " ahead of -4", NOBODY, camp -> camp.here(house, -1));
            refused("9: HOUSE " + house + " ahead of -6", NOBODY, camp -> camp.here(house, 1000));
        }
        for (int day : DAYS_BELOW) {
            refused("9: DAY " + day, BELOW, camp -> camp.here(0, day));
        }
        for (int day : DAYS_ABOVE) {
            refused("9: DAY " + day, ROOM, camp -> camp.here(0, day));
        }
    }

    private static void feed() {
        Call nearly = times(56, camp -> camp.feed(1, 'n'));
        Call full = times(57, camp -> camp.feed(1, 'n'));
        for (int n : BELOW_ONE) {
            refused("10: n " + n, BELOW, camp -> camp.feed(n, 'n'));
            refusedAfter("10: n " + n + " to a full TAPE", BELOW, BELOW, full, camp -> camp.feed(n, 'n'));
        }
        for (int n : new int[] {9, 60, GREATEST}) {
            refused("10: n " + n, ROOM, camp -> camp.feed(n, 'n'));
        }
        for (int n = 2; n <= 8; n++) {
            int more = n;
            refusedAfter("10: 59 bytes and " + n, ROOM, ROOM, nearly, camp -> camp.feed(more, 'n'));
        }
        refusedAfter("10: 60 bytes and 1", ROOM, ROOM, full, camp -> camp.feed(1, 'n'));
    }

    private static void rule() {
        Call thirty = times(28, camp -> camp.feed(1, '1') + camp.rule(1, 20) + Due.type(camp, "n+"));
        for (int purpose : new int[] {-1, 2, LEAST, GREATEST}) {
            refused("11: PURPOSE " + purpose, OTHER, camp -> camp.rule(purpose, 20));
            refused("11: PURPOSE " + purpose + " ahead of -4", OTHER, camp -> camp.rule(purpose, 19));
            refused("11: PURPOSE " + purpose + " ahead of -6", OTHER, camp -> camp.rule(purpose, 1000));
        }
        for (int day : new int[] {19, 0, -1, LEAST}) {
            refused("11: DAY " + day + ", ahead of now", BELOW, camp -> camp.rule(0, day));
        }
        for (int day : DAYS_ABOVE) {
            refused("11: DAY " + day, ROOM, camp -> camp.rule(0, day));
        }
        refusedAfter("11: 30", ROOM, ROOM, thirty, camp -> camp.rule(0, 20));
        refusedAfter("11: 30, -2 ahead of it", OTHER, OTHER, thirty, camp -> camp.rule(2, 20));
        refusedAfter("11: 30, -4 ahead of it", BELOW, BELOW, thirty, camp -> camp.rule(0, 19));
    }

    private static void cardAndEnd() {
        Call forty = times(35, camp -> camp.card(0));
        for (int house : NO_HOUSES) {
            refused("12: HOUSE " + house, NOBODY, camp -> camp.card(house));
        }
        refusedAfter("12: 40", ROOM, ROOM, forty, camp -> camp.card(0));
        refusedAfter("12: 40, one more ENDED", ROOM, ROOM, camp -> forty.on(camp) + camp.end(7), camp -> camp.card(0));
        refusedAfter("12: 40, -1 ahead of it", NOBODY, NOBODY, forty, camp -> camp.card(4));
        for (int card : NO_CARDS) {
            refused("13: CARD " + card, NOBODY, camp -> camp.end(card));
        }
        refused("13: it was ENDED", UNFIT, camp -> camp.end(3));
        refusedAfter("13: it was ENDED today", UNFIT, UNFIT, camp -> camp.end(0), camp -> camp.end(0));
    }

    private static void draw() {
        for (int card : NO_CARDS) {
            refused("14: CARD " + card, NOBODY, camp -> camp.draw(card, 0));
            refused("14: CARD " + card + " ahead of -4", NOBODY, camp -> camp.draw(card, -1));
            refused("14: CARD " + card + " ahead of -6", NOBODY, camp -> camp.draw(card, 1000));
        }
        for (int day : DAYS_BELOW) {
            refused("14: DAY " + day, BELOW, camp -> camp.draw(0, day));
            refused("14: DAY " + day + " of an ENDED one", BELOW, camp -> camp.draw(3, day));
        }
        for (int day : DAYS_ABOVE) {
            refused("14: DAY " + day, ROOM, camp -> camp.draw(0, day));
            refused("14: DAY " + day + " of an ENDED one", ROOM, camp -> camp.draw(3, day));
        }
    }

    private static void points() {
        for (int person : NO_PERSONS) {
            refusedBeyond("15: PERSON " + person, NOBODY, camp -> camp.points(person, 0));
            refusedBeyond("15: PERSON " + person + " ahead of -4", NOBODY, camp -> camp.points(person, -1));
            refusedBeyond("15: PERSON " + person + " ahead of -6", NOBODY, camp -> camp.points(person, 1000));
        }
        for (int day : DAYS_BELOW) {
            refusedBeyond("15: DAY " + day, BELOW, camp -> camp.points(0, day));
        }
        for (int day : DAYS_ABOVE) {
            refusedBeyond("15: DAY " + day, ROOM, camp -> camp.points(0, day));
        }
    }

    private static void handed() {
        Call sixty = times(58, camp -> camp.handed(0, 9, 9));
        for (int card : NO_CARDS) {
            refused("16: CARD " + card, NOBODY, camp -> camp.handed(card, 1, 1));
            refused("16: CARD " + card + " ahead of -4", NOBODY, camp -> camp.handed(card, 0, -1));
            refused("16: CARD " + card + " ahead of -6", NOBODY, camp -> camp.handed(card, 10000, 10000));
        }
        refused("16: ENDED", UNFIT, camp -> camp.handed(3, 1, 1));
        refused("16: ENDED, ahead of -4", UNFIT, camp -> camp.handed(3, 0, -1));
        refused("16: ENDED, ahead of -6", UNFIT, camp -> camp.handed(3, 10000, 1));
        for (int kilos : BELOW_ONE) {
            refused("16: kilos " + kilos, BELOW, camp -> camp.handed(0, kilos, 1));
            refused("16: kilos " + kilos + " ahead of -6", BELOW, camp -> camp.handed(0, kilos, 10000));
        }
        for (int weighed : new int[] {-1, LEAST}) {
            refused("16: weighed " + weighed, BELOW, camp -> camp.handed(0, 1, weighed));
            refused("16: weighed " + weighed + " ahead of -6", BELOW, camp -> camp.handed(0, 10000, weighed));
        }
        for (int much : new int[] {10000, GREATEST}) {
            refused("16: kilos " + much, ROOM, camp -> camp.handed(0, much, 1));
            refused("16: weighed " + much, ROOM, camp -> camp.handed(0, 1, much));
        }
        refusedAfter("16: 60", ROOM, ROOM, sixty, camp -> camp.handed(1, 1, 1));
        refusedAfter("16: 60, -1 ahead of it", NOBODY, NOBODY, sixty, camp -> camp.handed(5, 1, 1));
        refusedAfter("16: 60, -3 ahead of it", UNFIT, UNFIT, sixty, camp -> camp.handed(3, 1, 1));
        refusedAfter("16: 60, -4 ahead of it", BELOW, BELOW, sixty, camp -> camp.handed(1, 0, 1));
    }

    private static void since() {
        for (int what : new int[] {-1, 2, LEAST, GREATEST}) {
            refused("17: what " + what, OTHER, camp -> camp.since(what));
        }
    }

    private static void pairs() {
        for (int card : NO_CARDS) {
            refused("18: the one, CARD " + card, NOBODY, camp -> camp.pairs(card, 0));
            refused("18: the other, CARD " + card, NOBODY, camp -> camp.pairs(0, card));
            refused("18: CARD " + card + " ahead of -3", NOBODY, camp -> camp.pairs(3, card));
            refused("18: CARD " + card + " twice", NOBODY, camp -> camp.pairs(card, card));
            refused("19: the one, CARD " + card, NOBODY, camp -> camp.alike(card, 0));
            refused("19: the other, CARD " + card, NOBODY, camp -> camp.alike(0, card));
            refused("19: CARD " + card + " ahead of -3", NOBODY, camp -> camp.alike(card, 3));
        }
        refused("18: one twice", NOBODY, camp -> camp.pairs(0, 0));
        refused("18: an ENDED one twice", NOBODY, camp -> camp.pairs(3, 3));
        refused("18: the one is ENDED", UNFIT, camp -> camp.pairs(3, 0));
        refused("18: the other is ENDED", UNFIT, camp -> camp.pairs(0, 3));
        refusedAfter("18: both are ENDED", UNFIT, UNFIT, camp -> camp.end(0), camp -> camp.pairs(0, 3));
        refused("19: one twice", NOBODY, camp -> camp.alike(0, 0));
        refused("19: the one is ENDED", UNFIT, camp -> camp.alike(3, 0));
        refused("19: the other is ENDED", UNFIT, camp -> camp.alike(0, 3));
        refusedAfter("19: of one HOUSE, one is ENDED", UNFIT, UNFIT, camp -> camp.end(4), camp -> camp.alike(0, 4));
    }

    private static void well() {
        Call six = times(4, camp -> camp.well(0, 1, 1));
        for (int cell : NO_CELLS) {
            refused("20: CELL " + cell, NOBODY, camp -> camp.well(cell, 1, 1));
            refused("20: CELL " + cell + " ahead of -4", NOBODY, camp -> camp.well(cell, 0, 1));
            refused("20: CELL " + cell + " ahead of -6", NOBODY, camp -> camp.well(cell, 100, 1));
        }
        for (int less : BELOW_ONE) {
            refused("20: YIELD " + less, BELOW, camp -> camp.well(0, less, 1));
            refused("20: YIELD " + less + " ahead of -6", BELOW, camp -> camp.well(0, less, 10000));
            refused("20: DEPTH " + less, BELOW, camp -> camp.well(0, 1, less));
            refused("20: DEPTH " + less + " ahead of -6", BELOW, camp -> camp.well(0, 100, less));
        }
        refused("20: YIELD 100", ROOM, camp -> camp.well(0, 100, 1));
        refused("20: the greatest YIELD", ROOM, camp -> camp.well(0, GREATEST, 1));
        refused("20: DEPTH 10000", ROOM, camp -> camp.well(0, 1, 10000));
        refused("20: the greatest DEPTH", ROOM, camp -> camp.well(0, 1, GREATEST));
        refusedAfter("20: 6", ROOM, ROOM, six, camp -> camp.well(0, 1, 1));
        refusedAfter("20: 6, -1 ahead of it", NOBODY, NOBODY, six, camp -> camp.well(144, 1, 1));
        refusedAfter("20: 6, -4 ahead of it", BELOW, BELOW, six, camp -> camp.well(0, 1, 0));
    }

    private static void block() {
        for (int block : NO_BLOCKS) {
            refused("21: BLOCK " + block, NOBODY, camp -> camp.block(block, 6));
            refused("21: BLOCK " + block + " ahead of -4", NOBODY, camp -> camp.block(block, 3));
            refused("21: BLOCK " + block + " ahead of -6", NOBODY, camp -> camp.block(block, 21));
        }
        for (int hour : new int[] {3, 0, -1, LEAST}) {
            refused("21: HOUR " + hour, BELOW, camp -> camp.block(0, hour));
        }
        for (int hour : new int[] {21, 24, GREATEST}) {
            refused("21: HOUR " + hour, ROOM, camp -> camp.block(0, hour));
        }
    }

    private static void servedAndBest() {
        for (int house : NO_HOUSES) {
            refused("22: HOUSE " + house, NOBODY, camp -> camp.served(house));
        }
        for (int what : new int[] {-1, 6, LEAST, GREATEST}) {
            refused("23: what " + what, OTHER, camp -> camp.best(what));
        }
    }

    private static void latrine() {
        Call fourteen = times(12, camp -> camp.latrine(5, 99999));
        for (int cell : NO_CELLS) {
            refused("24: CELL " + cell, NOBODY, camp -> camp.latrine(cell, 1));
            refused("24: CELL " + cell + " ahead of -4", NOBODY, camp -> camp.latrine(cell, 0));
            refused("24: CELL " + cell + " ahead of -6", NOBODY, camp -> camp.latrine(cell, 100000));
        }
        for (int wall : BELOW_ONE) {
            refused("24: WALL " + wall, BELOW, camp -> camp.latrine(65, wall));
        }
        for (int wall : new int[] {100000, GREATEST}) {
            refused("24: WALL " + wall, ROOM, camp -> camp.latrine(65, wall));
        }
        refusedAfter("24: 14", ROOM, ROOM, fourteen, camp -> camp.latrine(65, 1));
        refusedAfter("24: 14, -1 ahead of it", NOBODY, NOBODY, fourteen, camp -> camp.latrine(144, 1));
        refusedAfter("24: 14, -4 ahead of it", BELOW, BELOW, fourteen, camp -> camp.latrine(65, 0));
    }

    private static void drain() {
        Call ten = camp -> {
            for (int i = 0; i < 8; i++) {
                camp.drain(20 + i);
            }
            return 0;
        };
        for (int cell : NO_CELLS) {
            refused("25: CELL " + cell, NOBODY, camp -> camp.drain(cell));
        }
        refused("25: told so", UNFIT, camp -> camp.drain(77));
        refusedAfter("25: 10", ROOM, ROOM, ten, camp -> camp.drain(65));
        refusedAfter("25: 10, -3 ahead of it", UNFIT, UNFIT, ten, camp -> camp.drain(27));
        refusedAfter("25: 10, -1 ahead of it", NOBODY, NOBODY, ten, camp -> camp.drain(144));
    }

    private static void flow() {
        for (int cell : NO_CELLS) {
            refused("26: CELL " + cell, NOBODY, camp -> camp.flow(cell, 1));
            refused("26: CELL " + cell + " ahead of -4", NOBODY, camp -> camp.flow(cell, 0));
            refused("26: CELL " + cell + " ahead of -6", NOBODY, camp -> camp.flow(cell, 1000));
        }
        for (int rain : BELOW_ONE) {
            refused("26: RAIN " + rain, BELOW, camp -> camp.flow(89, rain));
        }
        for (int rain : new int[] {1000, GREATEST}) {
            refused("26: RAIN " + rain, ROOM, camp -> camp.flow(89, rain));
        }
    }

    private static void foul() {
        for (int set : NO_SETS) {
            refused("27: others in the set, " + set, NOBODY, camp -> camp.foul(1, set));
            refused("27: -4 ahead of the set " + set, BELOW, camp -> camp.foul(0, set));
            refused("27: -6 ahead of the set " + set, ROOM, camp -> camp.foul(1000, set));
        }
        for (int rain : BELOW_ONE) {
            refused("27: RAIN " + rain, BELOW, camp -> camp.foul(rain, 3));
        }
        for (int rain : new int[] {1000, GREATEST}) {
            refused("27: RAIN " + rain, ROOM, camp -> camp.foul(rain, 3));
        }
    }

    private static void drains() {
        for (int rain : BELOW_ONE) {
            refused("28: RAIN " + rain, BELOW, camp -> camp.drains(rain));
        }
        for (int rain : new int[] {1000, GREATEST}) {
            refused("28: RAIN " + rain, ROOM, camp -> camp.drains(rain));
        }
    }

    private static void minutes() {
        for (int house : NO_HOUSES) {
            refused("29: from HOUSE " + house, NOBODY, camp -> camp.minutes(house, 0, 0, 0));
            refused("29: to HOUSE " + house, NOBODY, camp -> camp.minutes(0, house, 0, 0));
            refused("29: HOUSE " + house + " ahead of -2", NOBODY, camp -> camp.minutes(0, house, 4, 0));
        }
        for (int set : NO_SETS) {
            refused("29: others in the set, " + set, NOBODY, camp -> camp.minutes(0, 1, 0, set));
            refused("29: the set " + set + " ahead of -2", NOBODY, camp -> camp.minutes(0, 1, -1, set));
        }
        for (int wind : NO_WINDS) {
            refused("29: WIND " + wind, OTHER, camp -> camp.minutes(0, 1, wind, 3));
        }
    }

    private static void lane() {
        Call eight = camp -> {
            for (int i = 0; i < 6; i++) {
                camp.lane(camp.house(20 + i, 0));
            }
            return 0;
        };
        for (int house : NO_HOUSES) {
            refused("30: HOUSE " + house, NOBODY, camp -> camp.lane(house));
        }
        refused("30: told so", UNFIT, camp -> camp.lane(2));
        refusedAfter("30: 8", ROOM, ROOM, eight, camp -> camp.lane(1));
        refusedAfter("30: 8, -3 ahead of it", UNFIT, UNFIT, eight, camp -> camp.lane(9));
        refusedAfter("30: 8, -1 ahead of it", NOBODY, NOBODY, eight, camp -> camp.lane(10));
    }

    private static void lanes() {
        for (int wind : NO_WINDS) {
            refused("31: WIND " + wind, OTHER, camp -> camp.lanes(wind, 1));
            refused("31: WIND " + wind + " ahead of -4", OTHER, camp -> camp.lanes(wind, 0));
            refused("31: WIND " + wind + " ahead of -6", OTHER, camp -> camp.lanes(wind, 31));
        }
        for (int most : BELOW_ONE) {
            refused("31: number " + most, BELOW, camp -> camp.lanes(0, most));
        }
        for (int most : new int[] {31, GREATEST}) {
            refused("31: number " + most, ROOM, camp -> camp.lanes(0, most));
        }
    }

    private static void queue() {
        for (int person : NO_PERSONS) {
            refused("32: PERSON " + person + " asks", NOBODY, camp -> camp.queue(person, true));
            refused("32: PERSON " + person + " not any more", NOBODY, camp -> camp.queue(person, false));
        }
    }

    private static void list() {
        for (int day : DAYS_BELOW) {
            refused("33: DAY " + day, BELOW, camp -> camp.list(day, 0));
            refused("33: DAY " + day + ", none such", BELOW, camp -> camp.list(day, -1));
        }
        for (int day : DAYS_ABOVE) {
            refused("33: DAY " + day, ROOM, camp -> camp.list(day, 0));
            refused("33: DAY " + day + ", none such", ROOM, camp -> camp.list(day, 99));
        }
    }

    private static void goes() {
        Call allButOne = times(147, camp -> camp.state(5 - 1, 0));
        Call all = times(148, camp -> camp.state(5 - 1, 0));
        for (int n : new int[] {-1, LEAST}) {
            refused("34: n " + n, BELOW, camp -> camp.goes(n));
            refusedAfter("34: n " + n + ", and no room", BELOW, BELOW, all, camp -> camp.goes(n));
        }
        for (int n : new int[] {61, GREATEST}) {
            refused("34: n " + n, ROOM, camp -> camp.goes(n));
        }
        for (int n = 2; n <= 60; n += 29) {
            int going = n;
            refusedAfter("34: room for 1, n " + n, ROOM, ROOM, allButOne, camp -> camp.goes(going));
        }
        refusedAfter("34: room for none", ROOM, ROOM, all, camp -> camp.goes(1));
    }

    private static void count() {
        Call forty = times(38, camp -> camp.count(2, 0, 1));
        for (int block : NO_BLOCKS) {
            refused("35: BLOCK " + block, NOBODY, camp -> camp.count(block, 0, 0));
            refused("35: BLOCK " + block + " ahead of -4", NOBODY, camp -> camp.count(block, -1, -2));
            refused("35: BLOCK " + block + " ahead of -6", NOBODY, camp -> camp.count(block, 21, 10000));
        }
        for (int day : DAYS_BELOW) {
            refused("35: DAY " + day, BELOW, camp -> camp.count(0, day, 0));
            refused("35: DAY " + day + " ahead of -6", BELOW, camp -> camp.count(0, day, 10000));
        }
        for (int v : new int[] {-2, LEAST}) {
            refused("35: v " + v, BELOW, camp -> camp.count(0, 20, v));
            refused("35: v " + v + " ahead of -6", BELOW, camp -> camp.count(0, 21, v));
        }
        for (int day : new int[] {21, 999, 1000, GREATEST}) {
            refused("35: DAY " + day + ", behind now", ROOM, camp -> camp.count(0, day, 0));
        }
        for (int v : new int[] {10000, GREATEST}) {
            refused("35: v " + v, ROOM, camp -> camp.count(0, 20, v));
        }
        refusedAfter("35: 40", ROOM, ROOM, forty, camp -> camp.count(0, 20, 0));
        refusedAfter("35: 40, not to be read", ROOM, ROOM, forty, camp -> camp.count(0, 20, -1));
        refusedAfter("35: 40, -1 ahead of it", NOBODY, NOBODY, forty, camp -> camp.count(4, 20, 0));
        refusedAfter("35: 40, -4 ahead of it", BELOW, BELOW, forty, camp -> camp.count(0, 20, -2));
    }

    private static void counted() {
        for (int block : NO_BLOCKS) {
            refused("36: BLOCK " + block, NOBODY, camp -> camp.counted(block, 20, 20));
            refused("36: BLOCK " + block + " ahead of -4", NOBODY, camp -> camp.counted(block, -1, -1));
            refused("36: BLOCK " + block + " ahead of -6", NOBODY, camp -> camp.counted(block, 1000, 1000));
        }
        for (int day : DAYS_BELOW) {
            refused("36: DAY " + day, BELOW, camp -> camp.counted(0, day, 20));
            refused("36: DAY " + day + " ahead of -6", BELOW, camp -> camp.counted(0, day, 1000));
            refused("36: K " + day, BELOW, camp -> camp.counted(0, 20, day));
            refused("36: K " + day + " ahead of -6", BELOW, camp -> camp.counted(0, 1000, day));
        }
        for (int day : DAYS_ABOVE) {
            refused("36: DAY " + day, ROOM, camp -> camp.counted(0, day, 20));
            refused("36: K " + day, ROOM, camp -> camp.counted(0, 20, day));
        }
    }

    private static void off() {
        for (int block : NO_BLOCKS) {
            refusedBeyond("37: BLOCK " + block, NOBODY, camp -> camp.off(block, 20));
            refusedBeyond("37: BLOCK " + block + " ahead of -4", NOBODY, camp -> camp.off(block, -1));
            refusedBeyond("37: BLOCK " + block + " ahead of -6", NOBODY, camp -> camp.off(block, 1000));
        }
        for (int day : DAYS_BELOW) {
            refusedBeyond("37: DAY " + day, BELOW, camp -> camp.off(0, day));
            refusedBeyond("37: DAY " + day + " ahead of -3", BELOW, camp -> camp.off(3, day));
        }
        for (int day : DAYS_ABOVE) {
            refusedBeyond("37: DAY " + day, ROOM, camp -> camp.off(0, day));
            refusedBeyond("37: DAY " + day + " ahead of -3", ROOM, camp -> camp.off(3, day));
        }
        refusedBeyond("37: there is no COUNT", UNFIT, camp -> camp.off(3, 20));
        refusedBeyond("37: none that could be read", UNFIT, camp -> camp.off(1, 20));
        refusedBeyond("37: none by then", UNFIT, camp -> camp.off(0, 19));
    }
}
