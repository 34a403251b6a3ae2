/** Promises 20 to 23: wells, the hours of blocks, who is served when, and the best hours. */
public final class WellTest {
    public static void main(String[] args) {
        well();
        block();
        served();
        servedByDepth();
        servedByOrder();
        best();
        bestChanges();
        Due.close("WellTest");
    }

    private static void well() {
        CampCards camp = new CampCards();
        Due.is("20: no such, ahead of -4", camp.well(144, 0, 0), -1);
        Due.is("20: below 0", camp.well(-1, 1, 1), -1);
        Due.is("20: yield below, ahead of -6", camp.well(0, 0, 10000), -4);
        Due.is("20: depth below, ahead of -6", camp.well(0, 100, 0), -4);
        Due.is("20: yield above", camp.well(0, 100, 1), -6);
        Due.is("20: depth above", camp.well(0, 1, 10000), -6);
        for (int i = 0; i < 6; i++) {
            Due.is("20: the next, on one CELL", camp.well(143, 99, 9999), i);
        }
        Due.is("20: 6", camp.well(0, 1, 1), -6);
        Due.is("20: -4 ahead of 6", camp.well(0, 0, 1), -4);
        Due.is("20: WELLS", camp.total(6), 6);
    }

    private static void block() {
        CampCards camp = new CampCards();
        Due.is("21: 6 at first", camp.block(3, 20), 6);
        Due.is("21: what it was", camp.block(3, 4), 20);
        Due.is("21: no such, ahead of -4", camp.block(4, 0), -1);
        Due.is("21: below 0", camp.block(-1, 6), -1);
        Due.is("21: below", camp.block(3, 3), -4);
        Due.is("21: above", camp.block(3, 21), -6);
        Due.is("21: nothing changed", camp.block(3, 7), 4);
        Due.is("21: another", camp.block(0, 7), 6);
    }

    private static void persons(CampCards camp, int house, int n) {
        for (int i = 0; i < n; i++) {
            camp.person(house, 0, 0);
        }
    }

    private static void served() {
        CampCards camp = new CampCards();
        camp.house(0, 0);
        camp.house(143, 1);
        camp.block(1, 9);
        Due.is("22: no such", camp.served(2), -1);
        Due.is("22: below", camp.served(-1), -1);
        Due.is("22: nobody HERE: its BLOCK's HOUR", camp.served(1), 9);
        persons(camp, 0, 2);
        Due.is("22: no WELL", camp.served(0), -9);
        camp.well(143, 1, 9999);
        Due.is("22: 10 pails, one an HOUR", camp.served(0), 15);
        camp.well(143, 99, 9999);
        Due.is("22: the least of as near ones", camp.served(0), 15);
        camp.well(142, 2, 9999);
        Due.is("22: the nearest", camp.served(0), 10);
        camp.state(0, 2);
        Due.is("22: SICK ones need", camp.served(0), 10);
        camp.state(0, 1);
        Due.is("22: OUT ones don't", camp.served(0), 8);
        camp.block(0, 20);
        Due.is("22: from its BLOCK's HOUR on", camp.served(0), 22);
        camp.state(0, 0);
        Due.is("22: not by the day's end", camp.served(0), -9);
        camp.state(0, 3);
        camp.state(1, 4);
        Due.is("22: none left in need", camp.served(0), 20);
        persons(camp, 1, 15);
        Due.is("22: 75 pails in 9 .. 23", camp.served(1), -9);
        Due.is("22: no REFUSAL in -9", camp.total(11), 2);
    }

    private static void servedByDepth() {
        CampCards camp = new CampCards();
        camp.house(0, 0);
        camp.house(1, 0);
        camp.house(2, 0);
        persons(camp, 0, 1);
        persons(camp, 1, 2);
        persons(camp, 2, 1);
        camp.well(0, 99, 14);
        Due.is("22: the first", camp.served(0), 6);
        Due.is("22: one pail lacks", camp.served(1), -9);
        Due.is("22: who lacks ends the HOUR", camp.served(2), -9);
        camp = new CampCards();
        camp.house(0, 0);
        persons(camp, 0, 3);
        camp.well(0, 99, 15);
        Due.is("22: just as deep", camp.served(0), 6);
        camp.days(1);
        Due.is("22: as many each DAY", camp.served(0), 6);
    }

    private static void servedByOrder() {
        CampCards camp = new CampCards();
        camp.house(0, 0);
        camp.house(1, 1);
        camp.house(2, 0);
        persons(camp, 0, 2);
        persons(camp, 1, 2);
        persons(camp, 2, 1);
        camp.well(0, 7, 9999);
        camp.block(0, 8);
        camp.block(1, 7);
        // 7: house 1 gets 7; 8: house 0 gets 7; 9: 3, then house 1 its 3, then house 2 1; 10: 4
        Due.is("22: by numbers", camp.served(0), 9);
        Due.is("22: who began ahead waits", camp.served(1), 9);
        Due.is("22: what is left of the HOUR", camp.served(2), 10);
        camp.block(2, 4);
        Due.is("22: another BLOCK's HOUR", camp.served(2), 10);
        camp.block(2, 20);
        camp.block(0, 4);
        Due.is("22: the earliest", camp.served(0), 5);
    }

    private static void bestIs(String what, CampCards camp, int... want) {
        for (int i = 0; i < want.length; i++) {
            Due.is("23: " + what + ", best(" + i + ")", camp.best(i), want[i]);
        }
    }

    private static void best() {
        CampCards camp = new CampCards();
        Due.is("23: what", camp.best(6), -2);
        Due.is("23: what below", camp.best(-1), -2);
        camp.house(0, 3);
        bestIs("nobody in need", camp, 6, 6, 6, 6, 0, 6);
        persons(camp, 0, 2);
        bestIs("no WELL", camp, 6, 6, 6, 6, 1, 0);
        camp.house(1, 2);
        persons(camp, 1, 1);
        camp.well(0, 5, 9999);
        // house 0 in 6, 7, house 1 in 8: 15; house 1 first in 6, house 0 in 7, 8: 14
        bestIs("the small need first", camp, 6, 6, 6, 7, 0, 14);
        camp.house(2, 1);
        camp.block(3, 20);
        bestIs("one without need, own HOURS don't matter", camp, 6, 6, 6, 7, 0, 20);
        CampCards deep = new CampCards();
        deep.house(0, 0);
        deep.house(1, 1);
        deep.house(2, 2);
        persons(deep, 0, 3);
        persons(deep, 1, 1);
        persons(deep, 2, 1);
        deep.well(0, 5, 12);
        // two of 5 pails fit into 12, one of 15 doesn't: it must begin when both are served
        bestIs("the fewest not SERVED", deep, 8, 6, 6, 6, 1, 13);
        CampCards slow = new CampCards();
        slow.house(0, 0);
        persons(slow, 0, 4);
        slow.well(0, 1, 9999);
        bestIs("20 pails in 18 HOURS", slow, 6, 6, 6, 6, 1, 0);
    }

    private static void bestChanges() {
        CampCards camp = new CampCards();
        camp.house(0, 0);
        camp.person(0, 0, 0);
        camp.well(0, 1, 99);
        Due.is("23: five HOURS", camp.best(5), 10);
        camp.person(0, 0, 0);
        Due.is("23: one more PERSON", camp.best(5), 15);
        camp.state(1, 1);
        Due.is("23: one is OUT", camp.best(5), 10);
        camp.queue(0, true);
        camp.goes(1);
        Due.is("23: one goes", camp.best(5), 6);
        camp.house(1, 1);
        Due.is("23: one more HOUSE", camp.best(5), 12);
        camp.person(1, 0, 0);
        Due.is("23: with a PERSON", camp.best(5), 16);
        camp.well(1, 5, 99);
        Due.is("23: one more WELL", camp.best(5), 12);
        camp.days(1);
        Due.is("23: the next DAY", camp.best(5), 12);
    }
}
