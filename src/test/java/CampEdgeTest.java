/** The boundary cases of part I of the document and promises 1 to 9, sentence by sentence. */
public final class CampEdgeTest {
    public static void main(String[] args) {
        cellsFromLeastToGreatest();
        heightsFromLeastToGreatest();
        downOfCorners();
        downIsNotAroundAnEdge();
        downIsNotAcrossACorner();
        downOfAsLowOnes();
        downOfTheLowest();
        downIsLower();
        daysToTheLast();
        housesToTheLast();
        oneHouseOnACell();
        blocksFromLeastToGreatest();
        personsToTheLast();
        bornFromLeastToNow();
        tonguesFromLeastToGreatest();
        comeNow();
        statesToTheLast();
        statesOfGoesCount();
        deadAndNoOther();
        stateToldLastByThen();
        stateOnTheFirstAndLastDay();
        hereByEachState();
        hereOfAnEmptyAndAFullHouse();
        Due.close("CampEdgeTest");
    }

    private static void cellsFromLeastToGreatest() {
        CampCards camp = new CampCards();
        for (int cell = 0; cell < 144; cell++) {
            Due.is("3: CELL " + cell + " is 50 at first", camp.height(cell, cell % 100), 50);
        }
        for (int cell = 0; cell < 144; cell++) {
            Due.is("3: CELL " + cell + " is what it was told", camp.height(cell, 0), cell % 100);
        }
    }

    private static void heightsFromLeastToGreatest() {
        CampCards camp = new CampCards();
        Due.is("3: the least HEIGHT", camp.height(0, 0), 50);
        Due.is("3: the greatest HEIGHT", camp.height(0, 99), 0);
        Due.is("3: the greatest again", camp.height(0, 99), 99);
        Due.is("3: and down to the least", camp.height(0, 0), 99);
        Due.is("3: it was the least", camp.height(0, 50), 0);
        Due.is("3: none is refused", camp.total(14) + camp.total(16), 0);
    }

    private static void downOfCorners() {
        int[][] corners = {{0, 1, 12}, {11, 10, 23}, {132, 120, 133}, {143, 131, 142}};
        for (int[] corner : corners) {
            CampCards camp = new CampCards();
            Due.is("4: level corner " + corner[0], camp.down(corner[0]), -9);
            camp.height(corner[2], 49);
            Due.is("4: corner, the one neighbour", camp.down(corner[0]), corner[2]);
            camp.height(corner[1], 49);
            Due.is("4: corner, the least of two", camp.down(corner[0]), corner[1]);
            camp.height(corner[2], 48);
            Due.is("4: corner, the lowest of two", camp.down(corner[0]), corner[2]);
        }
    }

    private static void downIsNotAroundAnEdge() {
        for (int row = 0; row < 12; row++) {
            CampCards camp = new CampCards();
            camp.height(12 * row, 49);
            camp.height(12 * row + 11, 48);
            Due.is("4: the end of the row above " + row, row == 0 ? -9 : camp.down(12 * row - 1), row == 0 ? -9 : 12 * row + 11);
            Due.is("4: the first of row " + row, camp.down(12 * row), -9);
            Due.is("4: the last of row " + row, camp.down(12 * row + 11), -9);
            Due.is("4: the first of the row below " + row, row == 11 ? -9 : camp.down(12 * row + 12), row == 11 ? -9 : 12 * row);
        }
        for (int column = 0; column < 12; column++) {
            CampCards camp = new CampCards();
            camp.height(column, 49);
            Due.is("4: the lowest row is not beside the upmost, " + column, camp.down(132 + column), -9);
            camp.height(column, 50);
            camp.height(132 + column, 49);
            Due.is("4: nor the other way, " + column, camp.down(column), -9);
        }
    }

    private static void downIsNotAcrossACorner() {
        CampCards camp = new CampCards();
        for (int cell : new int[] {52, 54, 76, 78, 63, 67, 41, 89}) {
            camp.height(cell, 0);
        }
        Due.is("4: neither across a corner nor two off", camp.down(65), -9);
    }

    private static void downOfAsLowOnes() {
        int[] besides = {53, 64, 66, 77};
        for (int set = 1; set < 16; set++) {
            CampCards camp = new CampCards();
            int least = -9;
            for (int i = 3; i >= 0; i--) {
                if ((set >> i & 1) == 1) {
                    camp.height(besides[i], 20);
                    least = besides[i];
                }
            }
            Due.is("4: of several as low ones the least, " + set, camp.down(65), least);
        }
    }

    private static void downOfTheLowest() {
        int[] besides = {53, 64, 66, 77};
        for (int lowest = 0; lowest < 4; lowest++) {
            CampCards camp = new CampCards();
            for (int i = 0; i < 4; i++) {
                camp.height(besides[i], i == lowest ? 19 : 20);
            }
            Due.is("4: the lowest, " + besides[lowest], camp.down(65), besides[lowest]);
        }
    }

    private static void downIsLower() {
        CampCards camp = new CampCards();
        camp.height(1, 49);
        Due.is("4: lower by 1", camp.down(0), 1);
        camp.height(0, 49);
        Due.is("4: as low", camp.down(0), -9);
        camp.height(0, 48);
        Due.is("4: higher by 1", camp.down(0), -9);
        camp.height(0, 99);
        camp.height(1, 0);
        Due.is("4: from 99 to 0", camp.down(0), 1);
        Due.is("4: none is lower than 0", camp.down(1), -9);
        Due.is("4: none is no REFUSAL", camp.total(11), 0);
    }

    private static void daysToTheLast() {
        CampCards camp = new CampCards();
        Due.is("2: the least n", camp.days(1), 1);
        Due.is("2: 998 more", camp.days(998), 999);
        Due.is("2: DAY 999", camp.total(0), 999);
        camp = new CampCards();
        Due.is("2: at once", camp.days(999), 999);
        camp = new CampCards();
        Due.is("2: 1000 from 0", camp.days(1000), -6);
        Due.is("2: DAY 0 as before", camp.total(0), 0);
        for (int day = 1; day <= 400; day++) {
            Due.is("2: one by one", camp.days(1), day);
        }
    }

    private static void housesToTheLast() {
        CampCards camp = new CampCards();
        for (int i = 0; i < 30; i++) {
            Due.is("5: HOUSE " + i, camp.house(143 - i, i % 4), i);
        }
        Due.is("5: 31st", camp.house(0, 0), -6);
        Due.is("5: the first is known", camp.here(0, 0), 0);
        Due.is("5: the last is known", camp.here(29, 0), 0);
        Due.is("5: one behind it is not", camp.here(30, 0), -1);
    }

    private static void oneHouseOnACell() {
        for (int cell : new int[] {0, 11, 132, 143}) {
            CampCards camp = new CampCards();
            Due.is("5: on CELL " + cell, camp.house(cell, 3), 0);
            for (int block = 0; block < 4; block++) {
                Due.is("5: there is one, BLOCK " + block, camp.house(cell, block), -3);
            }
            Due.is("5: one HOUSE", camp.total(1), 1);
            Due.is("5: the CELL beside is free", camp.house(cell == 143 ? 142 : cell + 1, 0), 1);
        }
    }

    private static void blocksFromLeastToGreatest() {
        CampCards camp = new CampCards();
        for (int block = 0; block < 4; block++) {
            Due.is("21: begins at 6 at first, BLOCK " + block, camp.block(block, 10 + block), 6);
            Due.is("5: of BLOCK " + block, camp.house(block, block), block);
        }
        for (int house = 0; house < 4; house++) {
            Due.is("5: is of its BLOCK " + house, camp.served(house), 10 + house);
        }
    }

    private static void personsToTheLast() {
        CampCards camp = new CampCards();
        Due.is("6: no HOUSE yet", camp.person(0, 0, 0), -1);
        camp.house(0, 0);
        for (int i = 0; i < 60; i++) {
            Due.is("6: PERSON " + i, camp.person(0, 0, 0), i);
        }
        Due.is("6: 61st", camp.person(0, 0, 0), -6);
        Due.is("6: the last is known", camp.stateOf(59, 0), 0);
        Due.is("6: one behind it is not", camp.stateOf(60, 0), -1);
        camp.state(0, 4);
        camp.state(1, 3);
        Due.is("6: a DEAD one makes no room", camp.person(0, 0, 0), -6);
    }

    private static void bornFromLeastToNow() {
        CampCards camp = new CampCards();
        camp.house(0, 0);
        Due.is("6: BORN -36500", camp.person(0, -36500, 0), 0);
        Due.is("6: BORN -36501", camp.person(0, -36501, 0), -4);
        Due.is("6: BORN now, DAY 0", camp.person(0, 0, 0), 1);
        Due.is("6: BORN on DAY 1 on DAY 0", camp.person(0, 1, 0), -6);
        camp.days(999);
        Due.is("6: BORN now, DAY 999", camp.person(0, 999, 0), 2);
        Due.is("6: BORN on DAY 998", camp.person(0, 998, 0), 3);
        Due.is("6: BORN on DAY 1000", camp.person(0, 1000, 0), -6);
    }

    private static void tonguesFromLeastToGreatest() {
        CampCards camp = new CampCards();
        camp.house(0, 0);
        Due.rule(camp, "t", 1, 0);
        for (int tongue = 0; tongue < 6; tongue++) {
            Due.is("6: TONGUE " + tongue, camp.person(0, 0, tongue), tongue);
            Due.is("15: t of TONGUE " + tongue, camp.points(tongue, 0), tongue);
        }
    }

    private static void comeNow() {
        CampCards camp = new CampCards();
        camp.house(0, 0);
        camp.person(0, -36500, 0);
        Due.is("8: come on DAY 0", camp.stateOf(0, 0), 0);
        camp.days(999);
        camp.person(0, 0, 0);
        Due.is("8: come on DAY 999", camp.stateOf(1, 999), 0);
        Due.is("8: none ahead of it, though BORN", camp.stateOf(1, 998), -9);
        Due.is("8: none on DAY 0", camp.stateOf(1, 0), -9);
        Due.is("9: HERE on DAY 998", camp.here(0, 998), 1);
        Due.is("9: HERE on DAY 999", camp.here(0, 999), 2);
    }

    private static void statesToTheLast() {
        CampCards camp = new CampCards();
        camp.house(0, 0);
        camp.person(0, 0, 0);
        camp.person(0, 0, 0);
        for (int i = 1; i <= 149; i++) {
            Due.is("7: STATE told, " + i + " in all", camp.state(i % 2, i % 2 == 0 ? 0 : 2), i);
        }
        Due.is("7: DEAD as the 150th", camp.state(1, 4), 150);
        Due.is("7: 151st", camp.state(0, 1), -6);
        Due.is("7: DEAD ahead of 150", camp.state(1, 0), -3);
        Due.is("8: the one told last of the one", camp.stateOf(0, 0), 0);
        Due.is("8: the one told last of the other", camp.stateOf(1, 0), 4);
    }

    private static void statesOfGoesCount() {
        CampCards camp = new CampCards();
        camp.house(0, 0);
        for (int i = 0; i < 10; i++) {
            camp.person(0, 0, 0);
            camp.queue(i, true);
        }
        Due.is("7: 1", camp.state(0, 0), 1);
        Due.is("34: ten go", camp.goes(10), 10);
        Due.is("7: those told by GOES count", camp.state(0, 0), 12);
        for (int i = 13; i <= 150; i++) {
            camp.state(0, 0);
        }
        Due.is("7: 150 with them", camp.state(0, 0), -6);
    }

    private static void deadAndNoOther() {
        CampCards camp = new CampCards();
        camp.house(0, 0);
        camp.person(0, 0, 0);
        for (int state = 0; state < 4; state++) {
            Due.is("7: any other may be told behind any other, " + state, camp.state(0, 3 - state), 2 * state + 1);
            Due.is("7: and the same again, " + state, camp.state(0, 3 - state), 2 * state + 2);
        }
        Due.is("7: DEAD", camp.state(0, 4), 9);
        for (int state = 0; state < 5; state++) {
            Due.is("7: then no other, " + state, camp.state(0, state), -3);
        }
        camp.days(1);
        Due.is("7: nor on another DAY", camp.state(0, 0), -3);
        Due.is("8: it stays DEAD", camp.stateOf(0, 1), 4);
    }

    private static void stateToldLastByThen() {
        CampCards camp = new CampCards();
        camp.house(0, 0);
        camp.person(0, 0, 0);
        camp.person(0, 0, 0);
        camp.days(5);
        camp.state(0, 1);
        camp.state(1, 3);
        camp.state(0, 2);
        camp.days(5);
        camp.state(0, 3);
        Due.is("8: the DAY ahead of the first told", camp.stateOf(0, 4), 0);
        Due.is("8: the DAY of two told: the last", camp.stateOf(0, 5), 2);
        Due.is("8: the DAY ahead of the next", camp.stateOf(0, 9), 2);
        Due.is("8: the DAY of the next", camp.stateOf(0, 10), 3);
        Due.is("8: another's told between", camp.stateOf(1, 10), 3);
    }

    private static void stateOnTheFirstAndLastDay() {
        CampCards camp = new CampCards();
        camp.house(0, 0);
        camp.person(0, 0, 0);
        camp.state(0, 1);
        Due.is("8: told on the DAY it came: never IN", camp.stateOf(0, 0), 1);
        Due.is("8: the last DAY, though far behind now", camp.stateOf(0, 999), 1);
        camp.days(999);
        camp.state(0, 2);
        Due.is("8: told on the last DAY", camp.stateOf(0, 999), 2);
        Due.is("8: not on the DAY ahead", camp.stateOf(0, 998), 1);
    }

    private static void hereByEachState() {
        int[] due = {1, 0, 1, 0, 0};
        for (int state = 0; state < 5; state++) {
            CampCards camp = new CampCards();
            camp.house(0, 0);
            camp.person(0, 0, 0);
            camp.days(1);
            camp.state(0, state);
            Due.is("9: HERE ahead of STATE " + state, camp.here(0, 0), 1);
            Due.is("9: HERE by STATE " + state, camp.here(0, 1), due[state]);
            Due.is("38: HERE now by STATE " + state, camp.total(3), due[state]);
        }
    }

    private static void hereOfAnEmptyAndAFullHouse() {
        CampCards camp = new CampCards();
        camp.house(0, 0);
        camp.house(1, 0);
        Due.is("9: an empty HOUSE", camp.here(0, 0), 0);
        for (int i = 0; i < 60; i++) {
            camp.person(1, 0, 0);
        }
        Due.is("9: a HOUSE of 60", camp.here(1, 0), 60);
        Due.is("9: on the last DAY", camp.here(1, 999), 60);
        Due.is("9: the other is empty still", camp.here(0, 999), 0);
        for (int i = 0; i < 60; i++) {
            camp.state(i, 1);
        }
        Due.is("9: all are OUT", camp.here(1, 0), 0);
    }
}
