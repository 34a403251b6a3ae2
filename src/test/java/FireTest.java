/** Promises 29 to 31: minutes of fire, lanes, and the fewest lanes. */
public final class FireTest {
    public static void main(String[] args) {
        winds();
        ways();
        cleared();
        refusals();
        lane();
        lanes();
        Due.close("FireTest");
    }

    private static void winds() {
        CampCards camp = new CampCards();
        camp.house(65, 0);
        camp.house(66, 0);
        camp.house(77, 0);
        camp.house(64, 0);
        camp.house(53, 0);
        int[][] due = {{1, 2, 4, 2}, {2, 1, 2, 4}, {4, 2, 1, 2}, {2, 4, 2, 1}};
        for (int wind = 0; wind < 4; wind++) {
            for (int side = 0; side < 4; side++) {
                Due.is("29: wind " + wind + " to side " + side, camp.minutes(0, side + 1, wind, 0), due[wind][side]);
                Due.is("29: and back", camp.minutes(side + 1, 0, wind, 0), due[wind][side ^ 2]);
            }
            Due.is("29: of itself", camp.minutes(3, 3, wind, 0), 0);
        }
    }

    private static void ways() {
        CampCards camp = new CampCards();
        // a ring: against the wind 65, 64, 63 it is 8, around it 2 + 4 + 4 + 2
        int[] cells = {65, 64, 63, 77, 76, 75, 11, 12, 20};
        for (int cell : cells) {
            camp.house(cell, 0);
        }
        Due.is("29: two against", camp.minutes(0, 2, 0, 0), 8);
        Due.is("29: the least of ways", camp.minutes(0, 5, 0, 0), 10);
        Due.is("29: with it", camp.minutes(2, 0, 0, 0), 2);
        Due.is("29: it doesn't come", camp.minutes(0, 8, 0, 0), -9);
        Due.is("29: a row's end is not beside the next row", camp.minutes(6, 7, 0, 0), -9);
        camp.lane(1);
        Due.is("29: around", camp.minutes(0, 2, 0, 1), 12);
        Due.is("29: as it was without", camp.minutes(0, 2, 0, 0), 8);
        Due.is("29: not across a corner", camp.minutes(1, 3, 1, 0), 3);
    }

    private static void cleared() {
        CampCards camp = new CampCards();
        camp.house(0, 0);
        camp.house(1, 0);
        camp.house(2, 0);
        camp.lane(2);
        camp.lane(1);
        Due.is("29: the to", camp.minutes(0, 2, 0, 1), -9);
        Due.is("29: the from", camp.minutes(2, 0, 0, 1), -9);
        Due.is("29: itself", camp.minutes(2, 2, 0, 1), -9);
        Due.is("29: between", camp.minutes(0, 2, 0, 2), -9);
        Due.is("29: not it", camp.minutes(0, 1, 0, 1), 1);
        Due.is("29: no REFUSAL in -9", camp.total(11), 0);
    }

    private static void refusals() {
        CampCards camp = new CampCards();
        camp.house(0, 0);
        Due.is("29: from, ahead of -2", camp.minutes(1, 0, 4, 0), -1);
        Due.is("29: from below", camp.minutes(-1, 0, 0, 0), -1);
        Due.is("29: to", camp.minutes(0, 1, 0, 0), -1);
        Due.is("29: to below", camp.minutes(0, -1, 0, 0), -1);
        Due.is("29: others in the set, ahead of -2", camp.minutes(0, 0, 4, 1), -1);
        Due.is("29: set below 0", camp.minutes(0, 0, 0, -1), -1);
        Due.is("29: WIND", camp.minutes(0, 0, 4, 0), -2);
        Due.is("29: WIND below", camp.minutes(0, 0, -1, 0), -2);
        Due.is("29: NOBODY", camp.total(11), 6);
        Due.is("29: OTHER", camp.total(12), 2);
    }

    private static void lane() {
        CampCards camp = new CampCards();
        for (int i = 0; i < 9; i++) {
            camp.house(i, 0);
        }
        Due.is("30: no such", camp.lane(9), -1);
        Due.is("30: below", camp.lane(-1), -1);
        for (int i = 0; i < 8; i++) {
            Due.is("30: the next", camp.lane(8 - i), i);
        }
        Due.is("30: told so, ahead of 8", camp.lane(8), -3);
        Due.is("30: 8", camp.lane(0), -6);
    }

    private static void lanes() {
        CampCards camp = new CampCards();
        for (int i = 0; i < 7; i++) {
            camp.house(i, 0);
        }
        camp.house(100, 0);
        Due.is("31: all may burn", camp.lanes(0, 7), 0);
        Due.is("31: by none", camp.lanes(0, 6), -9);
        camp.lane(0);
        camp.lane(2);
        camp.lane(4);
        camp.lane(3);
        Due.is("31: 6", camp.lanes(1, 6), 1);
        Due.is("31: 4, the least of several", camp.lanes(2, 4), 2);
        Due.is("31: 3, one of a higher bit ahead of two", camp.lanes(3, 3), 8);
        Due.is("31: 2, of several the least", camp.lanes(0, 2), 6);
        Due.is("31: 1", camp.lanes(0, 1), -9);
        Due.is("31: 30", camp.lanes(0, 30), 0);
        CampCards small = new CampCards();
        small.house(0, 0);
        small.house(12, 0);
        small.house(24, 0);
        small.house(26, 0);
        small.house(27, 0);
        small.lane(1);
        small.lane(3);
        Due.is("31: all of them", small.lanes(1, 1), 3);
        Due.is("31: the first of them", small.lanes(1, 2), 1);
        Due.is("31: WIND, ahead of -4", camp.lanes(4, 0), -2);
        Due.is("31: WIND below", camp.lanes(-1, 1), -2);
        Due.is("31: below", camp.lanes(0, 0), -4);
        Due.is("31: above", camp.lanes(0, 31), -6);
    }
}
