/** Promises 32 to 37: the queue, the list, who goes, and counts of nights. */
public final class LeaveTest {
    public static void main(String[] args) {
        queue();
        list();
        goes();
        goesWithoutRoom();
        count();
        counted();
        off();
        Due.close("LeaveTest");
    }

    private static CampCards withPersons(int n) {
        CampCards camp = new CampCards();
        camp.house(0, 0);
        for (int i = 0; i < n; i++) {
            camp.person(0, 0, i % 6);
        }
        return camp;
    }

    private static void queue() {
        CampCards camp = withPersons(60);
        Due.is("32: no such", camp.queue(60, true), -1);
        Due.is("32: below", camp.queue(-1, false), -1);
        Due.is("32: not in it", camp.queue(0, false), 0);
        for (int i = 0; i < 60; i++) {
            Due.is("32: asks", camp.queue(i, true), 1);
        }
        Due.is("32: asks already", camp.queue(0, true), 0);
        Due.is("32: 60", camp.total(8), 60);
        Due.is("32: not any more", camp.queue(0, false), 1);
        Due.is("32: 59", camp.total(8), 59);
        Due.is("32: the next is first", camp.list(0, 0), 1);
        Due.is("32: asks anew", camp.queue(0, true), 1);
        Due.is("32: is the last", camp.list(0, 59), 0);
        camp.state(5, 4);
        Due.is("32: DEAD ones ask no less", camp.total(8), 60);
        Due.is("32: and may stop", camp.queue(5, false), 1);
        Due.is("32: and ask", camp.queue(5, true), 1);
    }

    private static void list() {
        CampCards camp = withPersons(5);
        for (int i = 4; i >= 0; i--) {
            camp.queue(i, true);
        }
        Due.is("33: who asked first", camp.list(0, 0), 4);
        camp.days(1);
        camp.person(0, 0, 5);
        camp.queue(5, true);
        Due.rule(camp, "t*(t>1)", 1, 1);
        camp.state(3, 1);
        int[] due = {5, 4, 2, 1, 0};
        for (int i = 0; i < 5; i++) {
            Due.is("33: by POINTS " + i, camp.list(1, i), due[i]);
        }
        Due.is("33: no more", camp.list(1, 5), -9);
        Due.is("33: i below", camp.list(1, -1), -9);
        Due.is("33: i far", camp.list(1, Integer.MAX_VALUE), -9);
        Due.is("33: the DAY before, in other order", camp.list(0, 1), 3);
        Due.is("33: one had not come", camp.list(0, 5), -9);
        camp.state(4, 2);
        Due.is("33: SICK ones are HERE", camp.list(1, 1), 4);
        Due.rule(camp, "0-t", 1, 5);
        Due.is("33: POINTS below 0", camp.list(5, 0), 0);
        Due.is("33: the least", camp.list(5, 4), 5);
        Due.is("33: below", camp.list(-1, 0), -4);
        Due.is("33: above", camp.list(1000, 0), -6);
        Due.is("33: -9 is no REFUSAL", camp.total(14) + camp.total(16), 2);
    }

    private static void goes() {
        CampCards camp = withPersons(5);
        Due.rule(camp, "t", 1, 0);
        for (int i = 0; i < 4; i++) {
            camp.queue(i, true);
        }
        camp.state(3, 1);
        camp.days(2);
        Due.is("34: below", camp.goes(-1), -4);
        Due.is("34: above", camp.goes(61), -6);
        Due.is("34: none", camp.goes(0), 0);
        Due.is("34: the first", camp.goes(1), 1);
        Due.is("34: is GONE ON now", camp.stateOf(2, 2), 3);
        Due.is("34: not ahead of it", camp.stateOf(2, 1), 0);
        Due.is("34: and not in the QUEUE", camp.queue(2, false), 0);
        Due.is("34: 3 are", camp.total(8), 3);
        Due.is("34: all that are HERE", camp.goes(60), 2);
        Due.is("34: 1 is OUT", camp.total(8), 1);
        Due.is("34: it doesn't go", camp.stateOf(3, 2), 1);
        Due.is("34: who doesn't ask stays", camp.stateOf(4, 2), 0);
        Due.is("34: their STATES were told", camp.state(4, 0), 5);
        Due.is("34: none left", camp.goes(60), 0);
        camp.state(2, 0);
        Due.is("34: who comes back asks anew", camp.goes(1), 0);
    }

    private static void goesWithoutRoom() {
        CampCards camp = withPersons(4);
        for (int i = 0; i < 148; i++) {
            camp.state(3, 0);
        }
        for (int i = 0; i < 3; i++) {
            camp.queue(i, true);
        }
        Due.is("34: no room for 3", camp.goes(3), -6);
        Due.is("34: nothing changed", camp.total(8) + camp.total(3), 7);
        Due.is("34: room for 2", camp.goes(2), 2);
        Due.is("34: no room for 1", camp.goes(1), -6);
        Due.is("34: 0 need none", camp.goes(0), 0);
        camp.queue(2, false);
        Due.is("34: nor does nobody", camp.goes(60), 0);
        Due.is("34: no room for a STATE", camp.state(3, 0), -6);
    }

    private static void count() {
        CampCards camp = new CampCards();
        camp.days(2);
        Due.is("35: no such, ahead of -4", camp.count(4, -1, 0), -1);
        Due.is("35: below 0", camp.count(-1, 0, 0), -1);
        Due.is("35: DAY below, ahead of -6", camp.count(0, -1, 10000), -4);
        Due.is("35: v below, ahead of -6", camp.count(0, 3, -2), -4);
        Due.is("35: behind now", camp.count(0, 3, 0), -6);
        Due.is("35: v above", camp.count(0, 2, 10000), -6);
        for (int i = 1; i <= 40; i++) {
            Due.is("35: the next", camp.count(i % 4, i % 3, i % 2 == 0 ? -1 : 9999), i);
        }
        Due.is("35: 40", camp.count(0, 0, 0), -6);
        Due.is("35: -4 ahead of 40", camp.count(0, 0, -2), -4);
    }

    private static void counted() {
        CampCards camp = new CampCards();
        camp.days(5);
        camp.count(2, 4, 44);
        camp.count(2, 1, 11);
        camp.count(2, 5, -1);
        camp.count(1, 3, 33);
        camp.days(1);
        camp.count(2, 1, 12);
        camp.count(2, 4, -1);
        camp.count(2, 6, 0);
        Due.is("36: none by then", camp.counted(2, 0, 6), -9);
        Due.is("36: the one told last", camp.counted(2, 1, 6), 12);
        Due.is("36: as known ahead", camp.counted(2, 1, 5), 11);
        Due.is("36: not yet told", camp.counted(2, 1, 4), -9);
        Due.is("36: of its BLOCK", camp.counted(2, 3, 6), 12);
        Due.is("36: one that could be read", camp.counted(2, 5, 6), 44);
        Due.is("36: the latest DAY", camp.counted(2, 999, 6), 0);
        Due.is("36: known later", camp.counted(2, 6, 999), 0);
        Due.is("36: the latest DAY though told first", camp.counted(2, 4, 5), 44);
        Due.is("36: no such, ahead of -4", camp.counted(4, -1, 0), -1);
        Due.is("36: below 0", camp.counted(-1, 0, 0), -1);
        Due.is("36: DAY below, ahead of -6", camp.counted(0, -1, 1000), -4);
        Due.is("36: K below, ahead of -6", camp.counted(0, 1000, -1), -4);
        Due.is("36: DAY above", camp.counted(0, 1000, 0), -6);
        Due.is("36: K above", camp.counted(0, 0, 1000), -6);
    }

    private static void off() {
        CampCards camp = new CampCards();
        camp.house(0, 1);
        camp.house(1, 1);
        camp.house(2, 2);
        for (int i = 0; i < 6; i++) {
            camp.person(i % 3, 0, 0);
        }
        camp.days(2);
        camp.count(1, 1, 2);
        camp.state(0, 1);
        camp.state(1, 2);
        Due.is("37: less than were HERE", camp.off(1, 1), -2);
        Due.is("37: HERE on the DAY", camp.off(1, 2), -1);
        camp.days(1);
        camp.count(1, 1, 9);
        Due.is("37: as known now", camp.off(1, 1), 5);
        camp.count(1, 3, -1);
        Due.is("37: one not to be read", camp.off(1, 999), 6);
        Due.is("37: no such, ahead of -4", camp.off(4, -1), 1000000001);
        Due.is("37: below 0", camp.off(-1, 0), 1000000001);
        Due.is("37: below, ahead of -3", camp.off(2, -1), 1000000004);
        Due.is("37: above, ahead of -3", camp.off(2, 1000), 1000000006);
        Due.is("37: no COUNT", camp.off(2, 3), 1000000003);
        Due.is("37: no COUNT by then", camp.off(1, 0), 1000000003);
        Due.is("37: NOBODY", camp.total(11), 2);
        Due.is("37: STATE", camp.total(13), 2);
        Due.is("37: BELOW", camp.total(14), 1);
        Due.is("37: ROOM", camp.total(16), 1);
    }
}
