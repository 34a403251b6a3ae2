/** Promises 1 to 9: a new object, days, cells, houses, persons and their states. */
public final class CampTest {
    public static void main(String[] args) {
        newObject();
        days();
        height();
        down();
        house();
        person();
        state();
        stateOf();
        here();
        Due.close("CampTest");
    }

    private static void newObject() {
        CampCards camp = new CampCards();
        for (int what = 0; what <= 16; what++) {
            Due.is("1: total(" + what + ") of a new one", camp.total(what), 0);
        }
        Due.is("1: no RULE", camp.house(0, 0) + camp.card(0) + camp.draw(0, 0), 0);
        Due.is("1: SINCE", camp.since(0), 1);
        Due.is("1: L", camp.since(1), 0);
        CampCards other = new CampCards();
        camp.days(3);
        Due.is("1: objects don't share", other.total(0) + other.total(1), 0);
        for (int what = 0; what < 4; what++) {
            Due.is("1: best(" + what + ")", other.best(what), 6);
        }
        Due.is("1: best(4)", other.best(4), 0);
        Due.is("1: best(5)", other.best(5), 0);
        Due.is("1: foul", other.foul(999, 0), 0);
        Due.is("1: drains", other.drains(999), 0);
        Due.is("1: lanes", other.lanes(0, 1), 0);
        Due.is("1: list", other.list(0, 0), -9);
        Due.is("1: counted", other.counted(3, 999, 999), -9);
    }

    private static void days() {
        CampCards camp = new CampCards();
        Due.is("2: days(1)", camp.days(1), 1);
        Due.is("2: days(0)", camp.days(0), -4);
        Due.is("2: days(least)", camp.days(Integer.MIN_VALUE), -4);
        Due.is("2: days(999) from 1", camp.days(999), -6);
        Due.is("2: days(greatest)", camp.days(Integer.MAX_VALUE), -6);
        Due.is("2: days(998)", camp.days(998), 999);
        Due.is("2: days(1) from 999", camp.days(1), -6);
        Due.is("2: DAY", camp.total(0), 999);
        Due.is("2: BELOW", camp.total(14), 2);
        Due.is("2: ROOM", camp.total(16), 3);
        Due.is("2: days(999) from 0", new CampCards().days(999), 999);
    }

    private static void height() {
        CampCards camp = new CampCards();
        Due.is("3: at first", camp.height(143, 0), 50);
        Due.is("3: what it was", camp.height(143, 99), 0);
        Due.is("3: 144", camp.height(144, 1), -1);
        Due.is("3: -1", camp.height(-1, 1), -1);
        Due.is("3: NOBODY ahead of BELOW", camp.height(144, -1), -1);
        Due.is("3: below", camp.height(143, -1), -4);
        Due.is("3: above", camp.height(143, 100), -6);
        Due.is("3: refused changes nothing", camp.height(143, 1), 99);
        Due.is("3: the others stay", camp.height(142, 7), 50);
    }

    private static void down() {
        CampCards camp = new CampCards();
        Due.is("4: level", camp.down(65), -9);
        camp.height(66, 49);
        camp.height(64, 49);
        camp.height(77, 49);
        camp.height(53, 49);
        Due.is("4: the least of several", camp.down(65), 53);
        camp.height(77, 48);
        Due.is("4: the lowest", camp.down(65), 77);
        camp.height(65, 48);
        Due.is("4: as low is not lower", camp.down(65), -9);
        camp.height(52, 0);
        Due.is("4: not across a corner", camp.down(65), -9);
        camp.height(12, 0);
        Due.is("4: a row's end is not beside the next row", camp.down(11), -9);
        Due.is("4: below", camp.down(0), 12);
        Due.is("4: from below", camp.down(24), 12);
        Due.is("4: by the side", camp.down(13), 12);
        Due.is("4: far off", camp.down(14), -9);
        Due.is("4: 144", camp.down(144), -1);
        Due.is("4: -1", camp.down(-1), -1);
        Due.is("4: refused", camp.total(11), 2);
        Due.is("4: edges", camp.down(143) + camp.down(132), -18);
        camp = new CampCards();
        camp.height(66, 49);
        camp.height(77, 49);
        Due.is("4: the least of two", camp.down(65), 66);
        camp.height(65, 40);
        camp.height(0, 0);
        Due.is("4: the upper row", camp.down(12), 0);
        camp.height(143, 1);
        Due.is("4: the lower row", camp.down(131), 143);
    }

    private static void house() {
        CampCards camp = new CampCards();
        Due.is("5: first", camp.house(143, 3), 0);
        Due.is("5: second", camp.house(0, 0), 1);
        Due.is("5: cell", camp.house(144, 0), -1);
        Due.is("5: cell below", camp.house(-1, 0), -1);
        Due.is("5: block", camp.house(1, 4), -1);
        Due.is("5: block below, ahead of -3", camp.house(0, -1), -1);
        Due.is("5: there is one", camp.house(0, 1), -3);
        for (int i = 2; i < 30; i++) {
            Due.is("5: the next", camp.house(i, 0), i);
        }
        Due.is("5: -3 ahead of -6", camp.house(5, 0), -3);
        Due.is("5: 30", camp.house(100, 0), -6);
        Due.is("5: HOUSES", camp.total(1), 30);
    }

    private static void person() {
        CampCards camp = new CampCards();
        camp.house(0, 0);
        camp.days(5);
        Due.is("6: first", camp.person(0, 5, 5), 0);
        Due.is("6: second", camp.person(0, -36500, 0), 1);
        Due.is("6: house", camp.person(1, 5, 6), -1);
        Due.is("6: house below", camp.person(-1, 5, 0), -1);
        Due.is("6: tongue, ahead of -4", camp.person(0, -36501, 6), -2);
        Due.is("6: tongue below, ahead of -6", camp.person(0, 6, -1), -2);
        Due.is("6: born below", camp.person(0, -36501, 0), -4);
        Due.is("6: born tomorrow", camp.person(0, 6, 0), -6);
        for (int i = 2; i < 60; i++) {
            Due.is("6: the next", camp.person(0, 0, 1), i);
        }
        Due.is("6: 60", camp.person(0, 0, 0), -6);
        Due.is("6: 60, and -4 ahead of it", camp.person(0, -40000, 0), -4);
        Due.is("6: PERSONS", camp.total(2), 60);
    }

    private static void state() {
        CampCards camp = new CampCards();
        camp.house(0, 0);
        camp.person(0, 0, 0);
        camp.person(0, 0, 0);
        Due.is("7: told", camp.state(0, 1), 1);
        Due.is("7: told again", camp.state(0, 1), 2);
        Due.is("7: of another", camp.state(1, 3), 3);
        Due.is("7: who was gone on comes back", camp.state(1, 0), 4);
        Due.is("7: no such PERSON, ahead of -2", camp.state(2, 5), -1);
        Due.is("7: PERSON below", camp.state(-1, 0), -1);
        Due.is("7: no such STATE", camp.state(0, 5), -2);
        Due.is("7: STATE below", camp.state(0, -1), -2);
        Due.is("7: DEAD", camp.state(1, 4), 5);
        Due.is("7: no other is told", camp.state(1, 0), -3);
        Due.is("7: nor DEAD again", camp.state(1, 4), -3);
        Due.is("7: -2 ahead of -3", camp.state(1, 5), -2);
        for (int i = 6; i <= 150; i++) {
            Due.is("7: the next", camp.state(0, i % 3), i);
        }
        Due.is("7: 150", camp.state(0, 0), -6);
        Due.is("7: -3 ahead of -6", camp.state(1, 0), -3);
        Due.is("7: refused changes nothing", camp.stateOf(0, 0), 0);
    }

    private static void stateOf() {
        CampCards camp = new CampCards();
        camp.house(0, 0);
        camp.days(2);
        camp.person(0, 0, 0);
        camp.days(2);
        camp.state(0, 2);
        camp.state(0, 1);
        camp.days(3);
        camp.state(0, 4);
        Due.is("8: not come", camp.stateOf(0, 1), -9);
        Due.is("8: IN at first", camp.stateOf(0, 2), 0);
        Due.is("8: still", camp.stateOf(0, 3), 0);
        Due.is("8: the one told last", camp.stateOf(0, 4), 1);
        Due.is("8: still so", camp.stateOf(0, 6), 1);
        Due.is("8: DEAD", camp.stateOf(0, 7), 4);
        Due.is("8: and ever", camp.stateOf(0, 999), 4);
        Due.is("8: no such", camp.stateOf(1, -1), -1);
        Due.is("8: below", camp.stateOf(0, -1), -4);
        Due.is("8: above", camp.stateOf(0, 1000), -6);
        Due.is("8: no REFUSAL in -9", camp.total(11) + camp.total(14) + camp.total(16), 3);
    }

    private static void here() {
        CampCards camp = new CampCards();
        camp.house(0, 0);
        camp.house(1, 0);
        for (int i = 0; i < 5; i++) {
            camp.person(0, 0, 0);
        }
        camp.person(1, 0, 0);
        camp.days(1);
        camp.person(0, 0, 0);
        for (int i = 0; i < 5; i++) {
            camp.state(i, i);
        }
        Due.is("9: ahead", camp.here(0, 0), 5);
        Due.is("9: IN, SICK and the one who came", camp.here(0, 1), 3);
        Due.is("9: later", camp.here(0, 999), 3);
        Due.is("9: another HOUSE", camp.here(1, 1), 1);
        Due.is("9: HERE in all", camp.total(3), 4);
        Due.is("9: no such", camp.here(2, -1), -1);
        Due.is("9: below", camp.here(1, -1), -4);
        Due.is("9: above", camp.here(1, 1000), -6);
    }
}
