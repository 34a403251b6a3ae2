/** Promise 38, and that a refused call changes nothing but how many there were. */
public final class TotalTest {
    public static void main(String[] args) {
        totals();
        refusals();
        others();
        Due.close("TotalTest");
    }

    private static void totals() {
        CampCards camp = new CampCards();
        camp.days(7);
        camp.house(0, 0);
        camp.house(1, 0);
        for (int i = 0; i < 6; i++) {
            camp.person(i % 2, 0, 0);
        }
        camp.state(0, 1);
        camp.state(1, 2);
        camp.state(2, 3);
        for (int i = 0; i < 5; i++) {
            camp.card(0);
        }
        camp.end(1);
        camp.handed(0, 1, 1);
        camp.well(0, 1, 1);
        camp.well(0, 1, 1);
        camp.latrine(0, 1);
        camp.latrine(0, 1);
        camp.latrine(0, 1);
        camp.queue(1, true);
        camp.queue(2, true);
        Due.rule(camp, "n", 0, 7);
        Due.rule(camp, "n", 1, 8);
        Due.rule(camp, "n+", 1, 8);
        Due.type(camp, "n+k+o+s+d");
        int[] due = {7, 2, 6, 4, 4, 1, 2, 3, 2, 9, 2, 0, 0, 0, 0, 0, 0};
        for (int what = 0; what < due.length; what++) {
            Due.is("38: total(" + what + ")", camp.total(what), due[what]);
        }
    }

    private static void refusals() {
        CampCards camp = new CampCards();
        for (int i = 0; i < 2; i++) {
            camp.down(144);
        }
        for (int i = 0; i < 3; i++) {
            camp.best(6);
        }
        camp.house(0, 0);
        for (int i = 0; i < 4; i++) {
            camp.house(0, 0);
        }
        for (int i = 0; i < 5; i++) {
            camp.days(0);
        }
        for (int i = 0; i < 6; i++) {
            camp.days(1000);
        }
        int[] due = {2, 3, 4, 5, 0, 6};
        for (int i = 0; i < due.length; i++) {
            Due.is("38: REFUSALS -" + (i + 1), camp.total(11 + i), due[i]);
        }
        int[] rest = {0, 1, 0, 0, 0, 0, 0, 0, 0, 0, 0};
        for (int what = 0; what < rest.length; what++) {
            Due.is("38: nothing else changed, total(" + what + ")", camp.total(what), rest[what]);
        }
    }

    private static void others() {
        CampCards camp = new CampCards();
        Due.is("38: 17", camp.total(17), -9);
        Due.is("38: -1", camp.total(-1), -9);
        Due.is("38: least", camp.total(Integer.MIN_VALUE), -9);
        Due.is("38: greatest", camp.total(Integer.MAX_VALUE), -9);
        for (int what = 11; what <= 16; what++) {
            Due.is("38: another what is no REFUSAL", camp.total(what), 0);
        }
    }
}
