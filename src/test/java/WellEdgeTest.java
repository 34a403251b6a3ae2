/** The boundary cases of wells and hours: the first half of part IV of the document, promises 20 to 23. */
public final class WellEdgeTest {
    public static void main(String[] args) {
        wellsToTheLast();
        yieldsAndDepths();
        theLeastFar();
        ofSeveralTheLeast();
        farByDifferences();
        needOfThoseHere();
        nothingLacking();
        noWell();
        hoursFromLeastToGreatest();
        servedByTheLastHour();
        asFarAsDepthLets();
        asFarAsYieldLets();
        whoGetsLessEndsTheHour();
        wellsApart();
        whoseBlockBegan();
        asManyEachDay();
        bestOfNothing();
        bestFromSixToThirteen();
        bestFewestNotServed();
        bestLeastSum();
        bestTheFirst();
        bestOfTwoThatCouldWait();
        bestIsOfNow();
        Due.close("WellEdgeTest");
    }

    private static void persons(CampCards camp, int house, int n) {
        for (int i = 0; i < n; i++) {
            camp.person(house, 0, 0);
        }
    }

    /** HOUSE i on CELL i, of BLOCK i, with so many PERSONS. */
    private static CampCards row(int... persons) {
        CampCards camp = new CampCards();
        for (int i = 0; i < persons.length; i++) {
            camp.house(i, i % 4);
            persons(camp, i, persons[i]);
        }
        return camp;
    }

    private static void servedIs(String what, CampCards camp, int... due) {
        for (int house = 0; house < due.length; house++) {
            Due.is("22: " + what + ", HOUSE " + house, camp.served(house), due[house]);
        }
    }

    private static void bestIs(String what, CampCards camp, int... due) {
        for (int i = 0; i < due.length; i++) {
            Due.is("23: " + what + ", best(" + i + ")", camp.best(i), due[i]);
        }
    }

    private static void wellsToTheLast() {
        CampCards camp = new CampCards();
        int[] cells = {0, 11, 132, 143, 143, 0};
        for (int i = 0; i < cells.length; i++) {
            Due.is("20: WELL " + i, camp.well(cells[i], 1, 1), i);
        }
        Due.is("20: the 7th", camp.well(0, 1, 1), -6);
        Due.is("38: WELLS", camp.total(6), 6);
    }

    private static void yieldsAndDepths() {
        CampCards camp = new CampCards();
        Due.is("20: the least", camp.well(0, 1, 1), 0);
        Due.is("20: the greatest", camp.well(0, 99, 9999), 1);
        Due.is("20: YIELD 0", camp.well(0, 0, 1), -4);
        Due.is("20: YIELD 100", camp.well(0, 100, 1), -6);
        Due.is("20: DEPTH 0", camp.well(0, 1, 0), -4);
        Due.is("20: DEPTH 10000", camp.well(0, 1, 10000), -6);
        Due.is("38: WELLS", camp.total(6), 2);
    }

    private static void theLeastFar() {
        CampCards camp = new CampCards();
        camp.house(0, 0);
        persons(camp, 0, 1);
        camp.well(143, 1, 99);
        servedIs("FAR 22, the only one", camp, 10);
        camp.well(142, 2, 99);
        servedIs("FAR 21", camp, 8);
        camp.well(12, 3, 99);
        servedIs("FAR 1", camp, 7);
        camp.well(0, 5, 99);
        servedIs("FAR 0", camp, 6);
        camp.well(1, 1, 4);
        servedIs("FAR 1 is no nearer", camp, 6);
    }

    private static void ofSeveralTheLeast() {
        int[] besides = {53, 64, 66, 77};
        CampCards camp = new CampCards();
        camp.house(65, 0);
        persons(camp, 0, 1);
        camp.well(65 + 24, 5, 99);
        for (int i = 0; i < besides.length; i++) {
            camp.well(besides[3 - i], i + 1, 99);
            servedIs("of as near ones the least number", camp, 10);
        }
    }

    private static void farByDifferences() {
        CampCards camp = new CampCards();
        camp.house(11, 0);
        persons(camp, 0, 1);
        camp.well(12, 1, 99);
        servedIs("FAR 12 to the next row's first", camp, 10);
        camp.well(0, 5, 99);
        servedIs("FAR 11 to its own row's first", camp, 6);
        camp = new CampCards();
        camp.house(132, 0);
        persons(camp, 0, 1);
        camp.well(143, 1, 99);
        servedIs("FAR 11 by the row", camp, 10);
        camp.well(0, 5, 99);
        servedIs("FAR 11 by the column: the least number", camp, 10);
        camp.well(12, 5, 99);
        servedIs("FAR 10 by the column", camp, 6);
    }

    private static void needOfThoseHere() {
        int[] due = {15, 10, 15, 10, 10};
        for (int state = 0; state < 5; state++) {
            CampCards camp = row(2);
            camp.well(0, 1, 99);
            servedIs("10 pails", camp, 15);
            camp.state(0, state);
            servedIs("NEED by STATE " + state, camp, due[state]);
        }
        CampCards camp = row(60);
        camp.well(0, 99, 300);
        servedIs("300 pails, 99 an HOUR", camp, 9);
    }

    private static void nothingLacking() {
        CampCards camp = row(0, 1);
        camp.well(0, 99, 9999);
        servedIs("0 lacking: its BLOCK's HOUR", camp, 6, 6);
        camp.block(0, 4);
        servedIs("the least HOUR", camp, 4, 6);
        camp.block(0, 20);
        servedIs("the greatest HOUR", camp, 20, 6);
        camp.state(0, 1);
        servedIs("0 lacking, as all are OUT", camp, 20, 6);
        camp.block(1, 7);
        servedIs("of its own BLOCK", camp, 20, 7);
    }

    private static void noWell() {
        CampCards camp = row(1, 0);
        servedIs("no WELL", camp, -9, 6);
        camp.state(0, 2);
        servedIs("no WELL, SICK", camp, -9, 6);
        camp.state(0, 3);
        servedIs("no WELL, nobody in need", camp, 6, 6);
        Due.is("22: -9 is no REFUSAL", camp.total(11), 0);
    }

    private static void hoursFromLeastToGreatest() {
        CampCards camp = new CampCards();
        for (int block = 0; block < 4; block++) {
            int was = 6;
            for (int hour = 4; hour <= 20; hour++) {
                Due.is("21: BLOCK " + block + " to " + hour, camp.block(block, hour), was);
                was = hour;
            }
            Due.is("21: HOUR 3", camp.block(block, 3), -4);
            Due.is("21: HOUR 21", camp.block(block, 21), -6);
            Due.is("21: as it was", camp.block(block, 4), 20);
        }
    }

    private static void servedByTheLastHour() {
        CampCards camp = row(1);
        camp.well(0, 1, 9999);
        camp.block(0, 19);
        servedIs("5 pails from 19 on", camp, 23);
        camp.block(0, 20);
        servedIs("5 pails from 20 on: not by the day's end", camp, -9);
        camp = row(4);
        camp.well(0, 1, 9999);
        camp.block(0, 4);
        servedIs("20 pails from 4 on", camp, 23);
        camp.block(0, 5);
        servedIs("20 pails from 5 on", camp, -9);
        camp = row(3, 3);
        camp.well(0, 5, 9999);
        camp.block(0, 18);
        camp.block(1, 18);
        servedIs("30 pails from 18 on", camp, 20, 23);
        camp.block(1, 19);
        servedIs("no later by the other's HOUR", camp, 20, 23);
        camp.block(0, 19);
        servedIs("30 pails from 19 on", camp, 21, -9);
    }

    private static void asFarAsDepthLets() {
        int[] depths = {1, 4, 5, 6, 9, 10, 11};
        int[] due = {-9, -9, 6, 6, 6, 6, 6};
        int[] dueNext = {-9, -9, -9, -9, -9, 6, 6};
        for (int i = 0; i < depths.length; i++) {
            CampCards camp = row(1, 1);
            camp.well(0, 99, depths[i]);
            servedIs("DEPTH " + depths[i], camp, due[i], dueNext[i]);
        }
        CampCards camp = row(1, 0, 1);
        camp.well(0, 1, 5);
        servedIs("pail by pail to the last", camp, 10, 6, -9);
        camp = row(1);
        camp.well(0, 1, 4);
        servedIs("pail by pail, one lacks", camp, -9);
        camp = row(1);
        camp.well(0, 4, 5);
        servedIs("the last pail in the next HOUR", camp, 7);
    }

    private static void asFarAsYieldLets() {
        int[] yields = {1, 2, 3, 4, 5, 9, 10, 99};
        int[] due = {10, 8, 7, 7, 6, 6, 6, 6};
        int[] dueNext = {15, 10, 9, 8, 7, 7, 6, 6};
        for (int i = 0; i < yields.length; i++) {
            CampCards camp = row(1, 1);
            camp.well(1, yields[i], 9999);
            servedIs("YIELD " + yields[i], camp, due[i], dueNext[i]);
        }
    }

    private static void whoGetsLessEndsTheHour() {
        CampCards camp = row(2, 1, 1);
        camp.well(0, 7, 9999);
        // 6: 7 to the first, who lacks 3; 7: 3, then 4 to the second, who lacks 1; 8: 1, then 5
        servedIs("what is left of an HOUR goes on", camp, 7, 8, 8);
        camp = row(2, 1);
        camp.well(0, 99, 9);
        servedIs("the first lacks 1, the second comes to nothing", camp, -9, -9);
        camp = row(2, 1);
        camp.well(0, 99, 14);
        servedIs("the second lacks 1", camp, 6, -9);
        camp = row(3, 1);
        camp.well(0, 5, 19);
        camp.block(0, 9);
        camp.block(1, 11);
        servedIs("who lacks first is first in each HOUR", camp, 11, -9);
        camp.block(1, 8);
        servedIs("who was served lets go on", camp, -9, 8);
    }

    private static void wellsApart() {
        CampCards camp = new CampCards();
        camp.house(0, 0);
        camp.house(143, 0);
        persons(camp, 0, 4);
        persons(camp, 1, 1);
        camp.well(0, 1, 3);
        camp.well(143, 5, 5);
        servedIs("who gets less ends the HOUR at its own WELL", camp, -9, 6);
    }

    private static void whoseBlockBegan() {
        CampCards camp = row(1, 1);
        camp.well(0, 5, 9999);
        camp.block(0, 7);
        servedIs("the second began ahead", camp, 7, 6);
        camp.block(1, 7);
        servedIs("both at 7", camp, 7, 8);
        camp.block(0, 8);
        servedIs("the first an HOUR behind", camp, 8, 7);
        camp.block(1, 20);
        camp.block(0, 20);
        servedIs("both at 20", camp, 20, 21);
        camp.block(2, 4);
        servedIs("a BLOCK without HOUSES", camp, 20, 21);
    }

    private static void asManyEachDay() {
        CampCards camp = row(1);
        camp.well(0, 5, 5);
        servedIs("DAY 0", camp, 6);
        servedIs("asked twice", camp, 6);
        camp.days(1);
        servedIs("DAY 1", camp, 6);
        camp.days(998);
        servedIs("DAY 999", camp, 6);
        bestIs("DAY 999", camp, 6, 6, 6, 6, 0, 6);
        servedIs("behind BEST", camp, 6);
    }

    private static void bestOfNothing() {
        CampCards camp = new CampCards();
        bestIs("no HOUSES", camp, 6, 6, 6, 6, 0, 0);
        camp.well(0, 1, 1);
        bestIs("a WELL, no HOUSES", camp, 6, 6, 6, 6, 0, 0);
        camp = row(0, 0, 0, 0, 0);
        bestIs("no NEED", camp, 6, 6, 6, 6, 0, 30);
        camp = row(1, 1, 1, 1, 1);
        bestIs("no WELL", camp, 6, 6, 6, 6, 5, 0);
        camp = new CampCards();
        for (int i = 0; i < 30; i++) {
            camp.house(i, i % 4);
            persons(camp, i, 2);
        }
        bestIs("30 HOUSES, none SERVED", camp, 6, 6, 6, 6, 30, 0);
        camp.well(0, 99, 9999);
        // 9 of 10 pails an HOUR and what is left: 9, 19, 29, 30 are served by the HOUR's end
        bestIs("30 HOUSES, all SERVED", camp, 6, 6, 6, 6, 0, 9 * 6 + 10 * 7 + 10 * 8 + 9);
    }

    /** 60 pails never come out of 59; 35 do in seven HOURS, if the others wait for as long. */
    private static void bestFromSixToThirteen() {
        for (int greedy = 0; greedy < 4; greedy++) {
            for (int other = 0; other < 4; other++) {
                if (other == greedy) {
                    continue;
                }
                int[] due = {6, 6, 6, 6, 1, 12};
                due[greedy] = 13;
                bestIs("BLOCK " + greedy + " waits for " + other, greedyAhead(greedy, other, 12, 7), due);
            }
            bestIs("14 is too late, " + greedy, greedyAhead(greedy, (greedy + 1) % 4, 12, 8), 6, 6, 6, 6, 2, 0);
        }
    }

    private static CampCards greedyAhead(int greedy, int other, int persons, int otherPersons) {
        CampCards camp = new CampCards();
        camp.house(0, greedy);
        camp.house(1, other);
        persons(camp, 0, persons);
        persons(camp, 1, otherPersons);
        camp.well(0, 5, 59);
        return camp;
    }

    private static void bestFewestNotServed() {
        CampCards camp = row(2, 1, 1);
        camp.well(0, 99, 14);
        // 10 of 14 leave 4 for two that lack 5: better that the first waits
        bestIs("two SERVED ahead of one", camp, 7, 6, 6, 6, 1, 12);
        camp = row(2, 1, 1);
        camp.well(0, 99, 15);
        bestIs("two of three in any way: at once", camp, 6, 6, 6, 6, 1, 12);
        camp = row(2, 1, 1);
        camp.well(0, 99, 20);
        bestIs("all", camp, 6, 6, 6, 6, 0, 18);
    }

    private static void bestLeastSum() {
        CampCards camp = row(3, 1);
        camp.well(0, 5, 9999);
        // 8 and 9 by numbers; 6 and 9 if the second is ahead
        bestIs("the small NEED first", camp, 7, 6, 6, 6, 0, 15);
        camp = row(0, 3, 1);
        camp.well(0, 5, 9999);
        bestIs("and one without NEED", camp, 6, 7, 6, 6, 0, 21);
        camp = row(1, 3);
        camp.well(0, 5, 9999);
        bestIs("the small NEED is first by number", camp, 6, 6, 6, 6, 0, 15);
    }

    private static void bestTheFirst() {
        CampCards camp = row(1, 1);
        camp.well(0, 5, 9999);
        // 6 and 7 as well as 7 and 6
        bestIs("of as good ones BLOCK 0's HOUR is least", camp, 6, 6, 6, 6, 0, 13);
        camp = new CampCards();
        camp.house(0, 3);
        camp.house(1, 1);
        persons(camp, 0, 2);
        persons(camp, 1, 1);
        camp.well(0, 4, 9999);
        // 8 and 9 at once; 10 and 7 if BLOCK 3 waits until 8
        bestIs("as good as a BLOCK that waits", camp, 6, 6, 6, 6, 0, 17);
        camp = new CampCards();
        camp.house(0, 0);
        camp.house(1, 0);
        persons(camp, 0, 2);
        persons(camp, 1, 1);
        camp.well(0, 5, 9999);
        bestIs("both of one BLOCK", camp, 6, 6, 6, 6, 0, 15);
    }

    /** At one WELL it is better that the one BLOCK waits, at the other WELL that the other does. */
    private static void bestOfTwoThatCouldWait() {
        for (int one = 0; one < 4; one++) {
            for (int other = one + 1; other < 4; other++) {
                CampCards camp = new CampCards();
                int[] cells = {0, 1, 142, 143};
                int[] blocks = {other, one, one, other};
                for (int i = 0; i < cells.length; i++) {
                    camp.house(cells[i], blocks[i]);
                    persons(camp, i, 2 - i % 2);
                }
                camp.well(0, 5, 9999);
                camp.well(143, 5, 9999);
                int[] due = {6, 6, 6, 6, 0, 29};
                due[other] = 7;
                bestIs("BLOCK " + one + " ahead of " + other, camp, due);
            }
        }
    }

    private static void bestIsOfNow() {
        CampCards camp = row(2, 1);
        camp.well(0, 5, 9999);
        bestIs("as it is", camp, 7, 6, 6, 6, 0, 14);
        for (int block = 0; block < 4; block++) {
            camp.block(block, 20);
        }
        bestIs("by any HOURS told", camp, 7, 6, 6, 6, 0, 14);
        Due.is("21: BEST tells no HOURS", camp.block(0, 6), 20);
        camp.days(1);
        camp.state(0, 1);
        bestIs("one is OUT", camp, 6, 6, 6, 6, 0, 13);
        camp.state(1, 4);
        bestIs("nobody of the first", camp, 6, 6, 6, 6, 0, 12);
        camp.state(2, 2);
        bestIs("SICK", camp, 6, 6, 6, 6, 0, 12);
    }
}
