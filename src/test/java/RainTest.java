/** Promises 24 to 28: latrines, drains, what rain brings, and the fewest drains. */
public final class RainTest {
    public static void main(String[] args) {
        latrine();
        drain();
        flow();
        flowFromHighest();
        foul();
        foulAtDrains();
        drains();
        drainsOfSeveral();
        Due.close("RainTest");
    }

    private static void latrine() {
        CampCards camp = new CampCards();
        Due.is("24: no such, ahead of -4", camp.latrine(144, 0), -1);
        Due.is("24: below 0", camp.latrine(-1, 1), -1);
        Due.is("24: below", camp.latrine(0, 0), -4);
        Due.is("24: above", camp.latrine(0, 100000), -6);
        for (int i = 0; i < 14; i++) {
            Due.is("24: the next, on one CELL", camp.latrine(143, 99999 - i), i);
        }
        Due.is("24: 14", camp.latrine(0, 1), -6);
        Due.is("24: -4 ahead of 14", camp.latrine(0, 0), -4);
        Due.is("24: LATRINES", camp.total(7), 14);
    }

    private static void drain() {
        CampCards camp = new CampCards();
        Due.is("25: no such", camp.drain(144), -1);
        Due.is("25: below 0", camp.drain(-1), -1);
        for (int i = 0; i < 10; i++) {
            Due.is("25: the next", camp.drain(i), i);
        }
        Due.is("25: told so, ahead of 10", camp.drain(9), -3);
        Due.is("25: 10", camp.drain(10), -6);
    }

    /** A row that falls from cell 60 to cell 71, between rows that are high. */
    private static CampCards valley() {
        CampCards camp = new CampCards();
        for (int x = 0; x < 12; x++) {
            camp.height(60 + x, 40 - x);
        }
        return camp;
    }

    private static void flow() {
        CampCards camp = new CampCards();
        Due.is("26: level land", camp.flow(0, 7), 7);
        camp = valley();
        // each cell of the row has its own rain, that of the cells above and below it, and what comes down the row
        for (int x = 0; x < 12; x++) {
            Due.is("26: down the valley " + x, camp.flow(60 + x, 2), 2 * 3 * (x + 1));
        }
        Due.is("26: beside it", camp.flow(49, 2), 2);
        Due.is("26: all RAIN", camp.flow(71, 999), 999 * 36);
        camp.height(66, 50);
        Due.is("26: ahead of a dam", camp.flow(65, 1), 18);
        Due.is("26: behind it, with its own RAIN", camp.flow(67, 1), 4);
        Due.is("26: the dam", camp.flow(66, 1), 1);
        Due.is("26: no such, ahead of -4", camp.flow(144, 0), -1);
        Due.is("26: below 0", camp.flow(-1, 1), -1);
        Due.is("26: below", camp.flow(0, 0), -4);
        Due.is("26: above", camp.flow(0, 1000), -6);
        camp.drain(60);
        Due.is("26: no drains in it", camp.flow(61, 1), 6);
    }

    /** Cells 132 .. 137, with the greatest and the least heights. */
    private static void flowFromHighest() {
        CampCards camp = new CampCards();
        int[] heights = {99, 98, 97, 2, 1, 0};
        for (int x = 0; x < heights.length; x++) {
            camp.height(132 + x, heights[x]);
        }
        for (int x = 0; x < 3; x++) {
            camp.height(120 + x, 99);
        }
        // those over 132 .. 134 go the other way; those over 135 .. 137, and 138, come down to the row
        int[] due = {1, 2, 3, 5, 7, 10};
        for (int x = 0; x < due.length; x++) {
            Due.is("26: from 99 to 0, " + x, camp.flow(132 + x, 1), due[x]);
        }
    }

    private static void foul() {
        CampCards camp = valley();
        camp.well(60, 1, 1);
        camp.well(62, 1, 1);
        camp.well(71, 1, 1);
        camp.well(50, 1, 1);
        camp.well(71, 1, 1);
        Due.is("27: no LATRINE", camp.foul(999, 0), 0);
        camp.latrine(62, 90);
        Due.is("27: 81 is less than WALL", camp.foul(9, 0), 0);
        Due.is("27: 90 is WALL: its CELL and all DOWN from it", camp.foul(10, 0), 2 + 4 + 16);
        camp.latrine(50, 7);
        Due.is("27: beside the valley", camp.foul(7, 0), 2 + 4 + 8 + 16);
        Due.is("27: not so much", camp.foul(6, 0), 0);
        camp.latrine(62, 18);
        Due.is("27: the lower of two", camp.foul(2, 0), 2 + 4 + 16);
        Due.is("27: below, ahead of -1", camp.foul(0, 1), -4);
        Due.is("27: above, ahead of -1", camp.foul(1000, -1), -6);
        Due.is("27: none told", camp.foul(1, 1), -1);
        Due.is("27: below 0", camp.foul(1, -1), -1);
        camp.drain(0);
        camp.drain(1);
        Due.is("27: others", camp.foul(1, 4), -1);
        Due.is("27: far off", camp.foul(2, 3), 2 + 4 + 16);
    }

    private static void foulAtDrains() {
        CampCards camp = valley();
        camp.latrine(62, 18);
        camp.latrine(65, 60);
        camp.well(63, 1, 1);
        camp.well(64, 1, 1);
        camp.well(65, 1, 1);
        camp.well(62, 1, 1);
        camp.drain(63);
        camp.drain(62);
        camp.drain(60);
        Due.is("27: FOUL comes to a drained one, but no further", camp.foul(3, 1), 1 + 8);
        Due.is("27: what comes no further stops one below", camp.foul(4, 1), 1 + 8);
        Due.is("27: 0 for a LATRINE there", camp.foul(3, 2), 0);
        Due.is("27: less comes from above", camp.foul(2, 4), 0);
        Due.is("27: but for 3 enough", camp.foul(3, 4), 1 + 2 + 4 + 8);
        // behind the drained 63 come 6 cells with 65 itself: 10 of RAIN are 60
        Due.is("27: the rest below overflows", camp.foul(10, 1), 1 + 4 + 8);
        Due.is("27: a drained one with its LATRINE, and one below", camp.foul(10, 3), 4);
        Due.is("27: 9 of RAIN", camp.foul(9, 3), 0);
    }

    private static void drains() {
        CampCards camp = valley();
        camp.latrine(62, 18);
        camp.well(71, 1, 1);
        Due.is("28: nothing overflows", camp.drains(1), 0);
        Due.is("28: by none", camp.drains(2), -9);
        camp.drain(0);
        Due.is("28: nor by one far off", camp.drains(2), -9);
        camp.drain(70);
        Due.is("28: one below", camp.drains(2), 2);
        camp.drain(61);
        Due.is("28: the least of several", camp.drains(2), 2);
        camp.latrine(71, 150);
        // 71 has 36 cells above it, 3 behind the drained 70, 30 behind the drained 61
        Due.is("28: less comes to it", camp.drains(5), 2);
        Due.is("28: it overflows too", camp.drains(50), -9);
        camp.drain(71);
        Due.is("28: FOUL comes to the drained one", camp.drains(50), 2 + 8);
        Due.is("28: below", camp.drains(0), -4);
        Due.is("28: above", camp.drains(1000), -6);
        Due.is("28: no REFUSAL in -9", camp.total(14) + camp.total(16), 2);
    }

    private static void drainsOfSeveral() {
        CampCards camp = new CampCards();
        camp.height(0, 40);
        camp.height(1, 30);
        camp.height(13, 20);
        camp.height(14, 10);
        camp.height(12, 35);
        camp.latrine(0, 1);
        camp.latrine(12, 1);
        camp.well(14, 1, 1);
        camp.drain(0);
        camp.drain(12);
        Due.is("28: both", camp.drains(1), 3);
        camp.drain(1);
        camp.drain(13);
        Due.is("28: one for both, though its bit is higher", camp.drains(1), 8);
    }
}
