/** A camp in which something of everything has happened, and a probe that would show any change in it. */
final class LivedIn {
    /** The DAY on which the camp stands. */
    static final int NOW = 20;
    private static final int PROBES = 160;

    private final CampCards camp;
    private final int[] answers = new int[PROBES];
    private int asked = 0;

    private LivedIn(CampCards camp) {
        this.camp = camp;
    }

    /**
     * HOUSES 0 .. 3, PERSONS 0 .. 5 (4 SICK, 5 DEAD), CARDS 0 .. 4 (3 ENDED), WELLS 0 and 1, LATRINES 0 and 1,
     * DRAINS on 77 and 89, LANES 0 and 2, PERSONS 0 .. 3 in the QUEUE, three bytes on THE TAPE.
     */
    static CampCards camp() {
        CampCards camp = new CampCards();
        camp.days(10);
        people(camp);
        camp.handed(0, 1000, 1000);
        camp.days(5);
        camp.state(4, 2);
        camp.state(5, 4);
        camp.end(3);
        land(camp);
        Due.rule(camp, "n*9+d", 0, 15);
        Due.rule(camp, "t*2+c", 1, 16);
        camp.days(5);
        camp.handed(1, 1000, 900);
        for (int person = 0; person < 4; person++) {
            camp.queue(person, true);
        }
        camp.count(0, 20, 3);
        camp.count(1, 19, -1);
        Due.type(camp, "n+1");
        return camp;
    }

    private static void people(CampCards camp) {
        int[] cells = {65, 66, 0, 143};
        for (int i = 0; i < cells.length; i++) {
            camp.house(cells[i], i);
        }
        int[][] persons = {{0, -9000, 1}, {0, -8000, 1}, {1, -9001, 1}, {1, -7999, 1}, {2, 10, 0}, {3, -30000, 5}};
        for (int[] person : persons) {
            camp.person(person[0], person[1], person[2]);
        }
        for (int card = 0; card < 5; card++) {
            camp.card(card % 4);
        }
    }

    private static void land(CampCards camp) {
        camp.well(65, 9, 50);
        camp.well(143, 5, 9999);
        camp.block(1, 8);
        camp.height(77, 40);
        camp.height(89, 30);
        camp.latrine(77, 10);
        camp.latrine(0, 99999);
        camp.drain(77);
        camp.drain(89);
        camp.lane(0);
        camp.lane(2);
    }

    /** What the camp answers to reading calls, then to telling ones, REFUSALS left out: the camp is used up by it. */
    static int[] probe(CampCards camp) {
        LivedIn one = new LivedIn(camp);
        one.readTotals();
        one.readPeople();
        one.readCards();
        one.readLand();
        one.readLeave();
        one.tellPeople();
        one.tellLand();
        one.readTotals();
        return one.answers;
    }

    private void note(int answer) {
        answers[asked] = answer;
        asked++;
    }

    private void readTotals() {
        for (int what = 0; what <= 10; what++) {
            note(camp.total(what));
        }
    }

    private void readPeople() {
        for (int person = 0; person < 6; person++) {
            note(camp.stateOf(person, 14));
            note(camp.stateOf(person, NOW));
            note(camp.points(person, NOW));
        }
        for (int house = 0; house < 4; house++) {
            note(camp.here(house, NOW));
            note(camp.served(house));
        }
    }

    private void readCards() {
        for (int card = 0; card < 5; card++) {
            note(camp.draw(card, NOW));
        }
        note(camp.since(0));
        note(camp.since(1));
        note(camp.pairs(0, 1));
        note(camp.alike(0, 1));
    }

    private void readLand() {
        for (int what = 0; what <= 5; what++) {
            note(camp.best(what));
        }
        for (int set = 0; set < 4; set++) {
            note(camp.foul(9, set));
            note(camp.minutes(0, 1, 0, set));
        }
        note(camp.down(65));
        note(camp.down(77));
        note(camp.flow(89, 5));
        note(camp.drains(9));
        note(camp.lanes(0, 1));
    }

    private void readLeave() {
        for (int i = 0; i < 5; i++) {
            note(camp.list(NOW, i));
        }
        for (int block = 0; block < 4; block++) {
            note(camp.counted(block, NOW, NOW));
        }
        note(camp.off(0, NOW));
    }

    private void tellPeople() {
        int now = camp.total(0);
        note(camp.rule(0, now));
        note(camp.draw(0, now));
        note(camp.feed(1, 'n'));
        note(camp.house(1, 0));
        note(camp.person(0, 20, 0));
        note(camp.card(0));
        note(camp.end(0));
        note(camp.handed(1, 5, 5));
        note(camp.goes(1));
        note(camp.queue(5, true));
        note(camp.state(0, 1));
        note(camp.count(0, NOW, 1));
    }

    private void tellLand() {
        int[] cells = {0, 65, 77, 89, 143};
        for (int cell : cells) {
            note(camp.height(cell, 50));
        }
        for (int block = 0; block < 4; block++) {
            note(camp.block(block, 7));
        }
        note(camp.well(1, 1, 1));
        note(camp.latrine(1, 1));
        note(camp.drain(1));
        note(camp.lane(1));
    }
}
