/** The boundary cases of rain, latrines and drains: the second half of part IV of the document, promises 24 to 28. */
public final class RainEdgeTest {
    public static void main(String[] args) {
        rainFromLeastToGreatest();
        allComesToOneCell();
        comesDownFromTheHighest();
        comesNoFurtherOnLevelLand();
        latrinesToTheLast();
        wallsFromLeastToGreatest();
        wallOrMore();
        allDownFromItOn();
        severalWellsOnACell();
        noWellsAndNoLatrines();
        drainsToTheLast();
        setsOfDrains();
        foulComesToADrainedOne();
        aDrainedOneStopsWhatComes();
        aLatrineOnADrainedOne();
        drainsAtTheEndOfWays();
        fewestIsNone();
        fewestByNone();
        fewestOfSeveral();
        fewestOfTen();
        landAsItIsNow();
        Due.close("RainEdgeTest");
    }

    /** Land that falls from CELL 143 to CELL 0 by 1 each step: every CELL's way DOWN ends on CELL 0. */
    private static CampCards slope() {
        CampCards camp = new CampCards();
        for (int cell = 0; cell < 144; cell++) {
            camp.height(cell, cell % 12 + cell / 12);
        }
        return camp;
    }

    /** CELLS 60, 61 .. so high, on land of 50: the CELLS above, below and behind the row come DOWN to it. */
    private static CampCards row(int... heights) {
        CampCards camp = new CampCards();
        for (int i = 0; i < heights.length; i++) {
            camp.height(60 + i, heights[i]);
        }
        return camp;
    }

    private static void rainFromLeastToGreatest() {
        CampCards camp = new CampCards();
        Due.is("26: the least RAIN", camp.flow(0, 1), 1);
        Due.is("26: the greatest RAIN", camp.flow(143, 999), 999);
        Due.is("26: RAIN 0", camp.flow(0, 0), -4);
        Due.is("26: RAIN 1000", camp.flow(0, 1000), -6);
        Due.is("27: the least RAIN", camp.foul(1, 0), 0);
        Due.is("27: the greatest RAIN", camp.foul(999, 0), 0);
        Due.is("27: RAIN 0", camp.foul(0, 0), -4);
        Due.is("27: RAIN 1000", camp.foul(1000, 0), -6);
        Due.is("28: the least RAIN", camp.drains(1), 0);
        Due.is("28: the greatest RAIN", camp.drains(999), 0);
        Due.is("28: RAIN 0", camp.drains(0), -4);
        Due.is("28: RAIN 1000", camp.drains(1000), -6);
    }

    private static void allComesToOneCell() {
        CampCards camp = slope();
        Due.is("26: of all CELLS, the least RAIN", camp.flow(0, 1), 144);
        Due.is("26: of all CELLS, the greatest RAIN", camp.flow(0, 999), 143856);
        Due.is("26: of the last CELL", camp.flow(143, 999), 999);
        // the least of two as low ones is the one above: so all comes DOWN the columns, then along the first row
        Due.is("26: the end of the first row: its column", camp.flow(11, 1), 12);
        Due.is("26: the one beside: two columns", camp.flow(10, 1), 24);
        Due.is("26: the first of the second row: its column", camp.flow(12, 1), 11);
        for (int cell = 0; cell < 144; cell++) {
            camp.height(cell, 22 - cell % 12 - cell / 12);
        }
        Due.is("26: of all CELLS to the last one", camp.flow(143, 1), 144);
        Due.is("26: of the first CELL", camp.flow(0, 1), 1);
        Due.is("26: the last column ends with all but one", camp.flow(131, 1) + camp.flow(142, 1), 143);
    }

    private static void comesDownFromTheHighest() {
        CampCards camp = row(99, 1, 0);
        // 60 is a peak; 61 gets 60, 49 and 73; 62 gets 61, 50, 74 and 63
        Due.is("26: the peak", camp.flow(60, 1), 1);
        Due.is("26: from 99 to 1", camp.flow(61, 1), 4);
        Due.is("26: from 1 to 0", camp.flow(62, 1), 8);
        camp.height(62, 1);
        Due.is("26: as high ones: no further", camp.flow(61, 1), 4);
        Due.is("26: nor back", camp.flow(62, 1), 4);
        camp.height(62, 2);
        Due.is("26: now the other way", camp.flow(61, 1), 8);
        Due.is("26: the other", camp.flow(62, 1), 4);
        CampCards edge = new CampCards();
        edge.height(0, 99);
        edge.height(143, 0);
        Due.is("26: a peak in a corner: to the least beside", edge.flow(1, 1), 2);
        Due.is("26: not to both", edge.flow(12, 1), 1);
        Due.is("26: a pit in a corner", edge.flow(143, 1), 3);
    }

    private static void comesNoFurtherOnLevelLand() {
        CampCards camp = new CampCards();
        for (int cell = 0; cell < 144; cell++) {
            Due.is("26: level land, CELL " + cell, camp.flow(cell, 3), 3);
        }
        camp.latrine(65, 3);
        camp.well(66, 1, 1);
        camp.well(65, 1, 1);
        Due.is("27: no DOWN: its own CELL alone", camp.foul(3, 0), 2);
    }

    private static void latrinesToTheLast() {
        CampCards camp = new CampCards();
        for (int i = 0; i < 14; i++) {
            Due.is("24: LATRINE " + i, camp.latrine(i * 11, 1), i);
        }
        Due.is("24: the 15th", camp.latrine(0, 1), -6);
        Due.is("38: LATRINES", camp.total(7), 14);
        camp.well(143, 1, 1);
        camp.well(0, 1, 1);
        camp.well(1, 1, 1);
        Due.is("27: the first and the last overflow", camp.foul(1, 0), 3);
    }

    private static void wallsFromLeastToGreatest() {
        CampCards camp = slope();
        Due.is("24: WALL 99999", camp.latrine(0, 99999), 0);
        Due.is("24: WALL 100000", camp.latrine(0, 100000), -6);
        Due.is("24: WALL 0", camp.latrine(0, 0), -4);
        camp.well(0, 1, 1);
        // 144 times 694 are 99936, times 695 are 100080
        Due.is("27: less than 99999", camp.foul(694, 0), 0);
        Due.is("27: more than 99999", camp.foul(695, 0), 1);
        camp.well(143, 1, 1);
        Due.is("24: WALL 1", camp.latrine(143, 1), 1);
        Due.is("27: 1 is WALL", camp.foul(1, 0), 3);
    }

    private static void wallOrMore() {
        int[] walls = {1, 6, 7, 8, 999};
        int[] due = {1, 1, 1, 0, 0};
        for (int i = 0; i < walls.length; i++) {
            CampCards camp = new CampCards();
            camp.latrine(65, walls[i]);
            camp.well(65, 1, 1);
            Due.is("27: 7 and WALL " + walls[i], camp.foul(7, 0), due[i]);
        }
        CampCards camp = new CampCards();
        camp.well(65, 1, 1);
        camp.latrine(65, 8);
        camp.latrine(65, 7);
        camp.latrine(65, 9);
        Due.is("27: of several on a CELL one is enough", camp.foul(7, 0), 1);
        Due.is("27: for none", camp.foul(6, 0), 0);
    }

    private static void allDownFromItOn() {
        CampCards camp = row(40, 39, 38, 37, 36, 35);
        camp.latrine(62, 1);
        for (int i = 0; i < 6; i++) {
            camp.well(60 + i, 1, 1);
        }
        Due.is("27: its CELL and all DOWN from it on", camp.foul(1, 0), 4 + 8 + 16 + 32);
        camp.height(64, 45);
        Due.is("27: as far as it goes DOWN", camp.foul(1, 0), 4 + 8);
        camp.height(62, 37);
        Due.is("27: not to one as high", camp.foul(1, 0), 4);
        CampCards beside = row(40, 39);
        beside.latrine(60, 1);
        beside.well(48, 1, 1);
        beside.well(72, 1, 1);
        beside.well(61, 1, 1);
        beside.well(62, 1, 1);
        Due.is("27: none beside, none above", beside.foul(1, 0), 4);
    }

    private static void severalWellsOnACell() {
        CampCards camp = new CampCards();
        for (int i = 0; i < 6; i++) {
            camp.well(65, 1, 1);
        }
        Due.is("27: no LATRINE", camp.foul(999, 0), 0);
        camp.latrine(65, 1);
        Due.is("27: all six", camp.foul(1, 0), 63);
    }

    private static void noWellsAndNoLatrines() {
        CampCards camp = new CampCards();
        camp.latrine(0, 1);
        Due.is("27: no WELL", camp.foul(999, 0), 0);
        Due.is("28: no WELL", camp.drains(999), 0);
        camp.drain(0);
        Due.is("27: no WELL, drained", camp.foul(999, 1), 0);
        camp = new CampCards();
        camp.well(0, 1, 1);
        camp.drain(0);
        Due.is("27: no LATRINE", camp.foul(999, 1), 0);
        Due.is("28: no LATRINE", camp.drains(999), 0);
    }

    private static void drainsToTheLast() {
        CampCards camp = new CampCards();
        int[] cells = {0, 11, 132, 143, 1, 2, 3, 4, 5, 6};
        for (int i = 0; i < cells.length; i++) {
            Due.is("25: could be drained, " + i, camp.drain(cells[i]), i);
            Due.is("25: told so, " + i, camp.drain(cells[i]), -3);
        }
        Due.is("25: told so, ahead of 10", camp.drain(0), -3);
        Due.is("25: the 11th", camp.drain(7), -6);
        Due.is("25: no such, ahead of 10", camp.drain(144), -1);
    }

    private static void setsOfDrains() {
        CampCards camp = new CampCards();
        for (int told = 0; told <= 10; told++) {
            Due.is("27: all of " + told, camp.foul(1, (1 << told) - 1), 0);
            Due.is("27: one behind the " + told, camp.foul(1, 1 << told), -1);
            Due.is("27: one behind with all of " + told, camp.foul(1, (1 << told + 1) - 1), -1);
            Due.is("27: below 0 with " + told, camp.foul(1, -1), -1);
            Due.is("27: the highest bit with " + told, camp.foul(1, Integer.MIN_VALUE), -1);
            Due.is("27: the bit below with " + told, camp.foul(1, 1 << 30), -1);
            camp.drain(told);
        }
        Due.is("38: NOBODY", camp.total(11), 55);
    }

    private static void foulComesToADrainedOne() {
        CampCards camp = row(40, 39, 38, 37);
        camp.latrine(60, 1);
        for (int i = 0; i < 4; i++) {
            camp.well(60 + i, 1, 1);
            camp.drain(60 + i);
        }
        Due.is("27: none drained", camp.foul(1, 0), 15);
        Due.is("27: the LATRINE's", camp.foul(1, 1), 0);
        Due.is("27: FOUL comes to it, but goes no further", camp.foul(1, 2), 1 + 2);
        Due.is("27: the next", camp.foul(1, 4), 1 + 2 + 4);
        Due.is("27: the last", camp.foul(1, 8), 15);
        Due.is("27: the first of two stops it", camp.foul(1, 6), 1 + 2);
        Due.is("27: all", camp.foul(1, 15), 0);
    }

    private static void aDrainedOneStopsWhatComes() {
        CampCards camp = row(40, 39, 38, 37);
        // with their rows above and below: 60 gets 3, 61 gets 6, 62 gets 9, 63 gets 13 with that of 64
        Due.is("26: what comes", camp.flow(63, 1), 13);
        camp.latrine(63, 13);
        camp.well(63, 1, 1);
        camp.drain(60);
        camp.drain(62);
        Due.is("27: all comes", camp.foul(1, 0), 1);
        Due.is("27: 0 from the first", camp.foul(1, 1), 0);
        Due.is("27: 10 are left, twice 10 are enough", camp.foul(2, 1), 1);
        Due.is("27: 4 are left behind the last", camp.foul(3, 2), 0);
        Due.is("27: 4 times 4 are enough", camp.foul(4, 2), 1);
        Due.is("26: FLOW knows no drains", camp.flow(63, 1), 13);
    }

    private static void aLatrineOnADrainedOne() {
        CampCards camp = row(40, 39);
        camp.latrine(60, 1);
        camp.latrine(60, 2);
        camp.well(60, 1, 1);
        camp.well(61, 1, 1);
        camp.drain(60);
        Due.is("27: it overflows", camp.foul(999, 0), 3);
        Due.is("27: 0 comes to it", camp.foul(999, 1), 0);
        camp.latrine(61, 3);
        // 61 is left with its own, the ones above and below it, and 62
        Due.is("27: the one below is left with 4", camp.foul(1, 1), 2);
    }

    private static void drainsAtTheEndOfWays() {
        CampCards camp = slope();
        camp.latrine(143, 1);
        camp.well(0, 1, 1);
        camp.drain(0);
        Due.is("27: drained where it ends: FOUL has come", camp.foul(1, 1), 1);
        Due.is("28: by none", camp.drains(1), -9);
        camp.drain(1);
        Due.is("28: not on its way: it comes down the last column, and the first row", camp.drains(1), 2);
        camp.drain(12);
        camp.drain(143);
        Due.is("28: of several the least", camp.drains(1), 2);
    }

    private static void fewestIsNone() {
        CampCards camp = row(40, 39);
        camp.well(61, 1, 1);
        Due.is("28: no drains told", camp.drains(1), 0);
        camp.drain(60);
        Due.is("28: one told, none needed", camp.drains(1), 0);
        camp.latrine(60, 4);
        Due.is("28: 3 come, WALL 4", camp.drains(1), 0);
        Due.is("28: 6 come", camp.drains(2), 1);
    }

    private static void fewestByNone() {
        CampCards camp = row(40, 39);
        camp.well(60, 1, 1);
        camp.latrine(60, 1);
        Due.is("28: none told", camp.drains(1), -9);
        for (int i = 0; i < 10; i++) {
            camp.drain(61 + i);
        }
        Due.is("28: all ten in vain", camp.drains(1), -9);
        Due.is("28: no REFUSAL", camp.total(11) + camp.total(13), 0);
    }

    private static void fewestOfSeveral() {
        CampCards camp = row(40, 39, 38, 37);
        camp.latrine(60, 1);
        camp.well(63, 1, 1);
        camp.drain(64);
        camp.drain(62);
        camp.drain(61);
        camp.drain(60);
        Due.is("28: of several sets of one the least", camp.drains(1), 2);
        camp.well(62, 1, 1);
        Due.is("28: the least that helps both", camp.drains(1), 4);
        camp.well(61, 1, 1);
        Due.is("28: the highest bit alone", camp.drains(1), 8);
        camp.latrine(62, 1);
        // 62 itself must be drained too
        Due.is("28: two", camp.drains(1), 2 + 8);
    }

    private static void fewestOfTen() {
        CampCards camp = slope();
        camp.well(0, 1, 1);
        for (int i = 0; i < 10; i++) {
            camp.latrine(9 + 11 * i, 1);
            camp.drain(9 + 11 * i);
        }
        Due.is("27: nine are not enough", camp.foul(1, 1023 - 512), 1);
        Due.is("27: ten are", camp.foul(1, 1023), 0);
        Due.is("28: all ten", camp.drains(1), 1023);
        Due.is("28: all ten, the greatest RAIN", camp.drains(999), 1023);
        camp = slope();
        camp.well(0, 1, 1);
        for (int i = 0; i < 10; i++) {
            camp.latrine(9 + 11 * i, 1);
            camp.drain(i < 9 ? 9 + 11 * i : 1);
        }
        // the last LATRINE, on 108, comes DOWN the first column, where none is drained
        Due.is("28: one is left over", camp.drains(1), -9);
    }

    private static void landAsItIsNow() {
        CampCards camp = row(40, 39);
        Due.is("26: as it is", camp.flow(61, 1), 7);
        camp.height(61, 41);
        Due.is("26: raised: the other gets it", camp.flow(60, 1), 7);
        Due.is("26: and it itself less", camp.flow(61, 1), 4);
        camp.height(61, 39);
        Due.is("26: as it was", camp.flow(61, 1), 7);
    }
}
