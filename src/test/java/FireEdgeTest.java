/** The boundary cases of part V of the document and promises 29 to 31, sentence by sentence. */
public final class FireEdgeTest {
    public static void main(String[] args) {
        eachWindToEachSide();
        itself();
        notBeside();
        notAroundAnEdge();
        theLeastOfWays();
        theLongestWay();
        clearedOnes();
        lanesToTheLast();
        setsOfLanes();
        fewestOfNothing();
        numberFromLeastToGreatest();
        itToo();
        fromAnyThatIsNotCleared();
        fewestByNone();
        fewestOfSeveral();
        fewestOfEight();
        whateverTheWind();
        Due.close("FireEdgeTest");
    }

    private static CampCards on(int... cells) {
        CampCards camp = new CampCards();
        for (int cell : cells) {
            camp.house(cell, 0);
        }
        return camp;
    }

    private static void eachWindToEachSide() {
        int[] besides = {1, 12, -1, -12};
        int[] minutes = {1, 2, 4, 2};
        for (int from : new int[] {65, 13, 130}) {
            for (int wind = 0; wind < 4; wind++) {
                for (int side = 0; side < 4; side++) {
                    CampCards camp = on(from, from + besides[side]);
                    int due = minutes[(side - wind + 4) % 4];
                    Due.is("29: WIND " + wind + " to side " + side, camp.minutes(0, 1, wind, 0), due);
                    Due.is("29: back, WIND " + wind + " to side " + side, camp.minutes(1, 0, wind, 0), due == 2 ? 2 : 5 - due);
                }
            }
        }
    }

    private static void itself() {
        CampCards camp = on(0, 143);
        camp.lane(0);
        for (int wind = 0; wind < 4; wind++) {
            Due.is("29: of itself", camp.minutes(0, 0, wind, 0), 0);
            Due.is("29: of itself, the last CELL", camp.minutes(1, 1, wind, 1), 0);
            Due.is("29: of itself, cleared", camp.minutes(0, 0, wind, 1), -9);
        }
    }

    private static void notBeside() {
        CampCards camp = on(65, 52, 54, 76, 78, 67, 63, 41, 89);
        for (int house = 1; house < 9; house++) {
            for (int wind = 0; wind < 4; wind++) {
                Due.is("29: it doesn't come to " + house, camp.minutes(0, house, wind, 0), -9);
            }
        }
        Due.is("29: no REFUSAL", camp.total(11), 0);
    }

    private static void notAroundAnEdge() {
        CampCards camp = on(0, 11, 12, 131, 132, 143);
        Due.is("29: a column", camp.minutes(0, 2, 0, 0), 2);
        Due.is("29: a row's end and the next row", camp.minutes(1, 2, 0, 0), -9);
        Due.is("29: and back", camp.minutes(2, 1, 2, 0), -9);
        Due.is("29: the ends of a row", camp.minutes(0, 1, 2, 0), -9);
        Due.is("29: the ends of a column", camp.minutes(0, 4, 3, 0), -9);
        Due.is("29: the last rows", camp.minutes(3, 4, 0, 0), -9);
        Due.is("29: the last column", camp.minutes(3, 5, 1, 0), 1);
        Due.is("29: the last column against the WIND", camp.minutes(3, 5, 3, 0), 4);
    }

    private static void theLeastOfWays() {
        // around 65: against the WIND it is 4 and 4; around by the row below 2 and 4 and 4 and 2
        CampCards camp = on(66, 65, 64, 76, 77, 78);
        camp.lane(1);
        Due.is("29: straight", camp.minutes(0, 2, 0, 0), 8);
        Due.is("29: around", camp.minutes(0, 2, 0, 1), 12);
        Due.is("29: with the WIND, straight", camp.minutes(2, 0, 0, 0), 2);
        Due.is("29: with the WIND, around", camp.minutes(2, 0, 0, 1), 6);
        Due.is("29: across the WIND, straight", camp.minutes(0, 2, 1, 0), 4);
        Due.is("29: across the WIND, around", camp.minutes(0, 2, 1, 1), 1 + 2 + 2 + 4);
        // 25 by 13 or by 0, 12, 24: the one has fewer steps
        CampCards far = on(1, 0, 12, 24, 25, 13);
        far.lane(5);
        Due.is("29: two against the WIND", far.minutes(0, 4, 3, 0), 8);
        Due.is("29: two across it more, by the only one left", far.minutes(0, 4, 3, 1), 2 + 4 + 4 + 2);
    }

    /** 30 HOUSES, each beside the ones ahead of it and behind it alone. */
    private static CampCards snake() {
        CampCards camp = new CampCards();
        for (int x = 0; x < 12; x++) {
            camp.house(x, 0);
        }
        camp.house(23, 0);
        for (int x = 11; x >= 0; x--) {
            camp.house(24 + x, 0);
        }
        camp.house(36, 0);
        for (int x = 0; x < 4; x++) {
            camp.house(48 + x, 0);
        }
        return camp;
    }

    private static void theLongestWay() {
        CampCards camp = snake();
        Due.is("38: 30 HOUSES", camp.total(1), 30);
        // 11 and 3 to x more, 11 to x less, 4 to y more
        Due.is("29: WIND to x more", camp.minutes(0, 29, 0, 0), 14 + 44 + 8);
        Due.is("29: WIND to y more", camp.minutes(0, 29, 1, 0), 28 + 22 + 4);
        Due.is("29: WIND to x less", camp.minutes(0, 29, 2, 0), 56 + 11 + 8);
        Due.is("29: WIND to y less", camp.minutes(0, 29, 3, 0), 28 + 22 + 16);
        Due.is("29: back, WIND to x more", camp.minutes(29, 0, 0, 0), 56 + 11 + 8);
        Due.is("29: back, WIND to y less", camp.minutes(29, 0, 3, 0), 28 + 22 + 4);
        camp.lane(28);
        Due.is("29: cut off ahead of its end", camp.minutes(0, 29, 0, 1), -9);
        Due.is("29: up to there", camp.minutes(0, 27, 0, 1), 12 + 44 + 8);
    }

    private static void clearedOnes() {
        CampCards camp = on(0, 1, 2, 3);
        camp.lane(1);
        camp.lane(3);
        int[][] due = {{0, 1, 2, 3}, {0, -9, -9, -9}, {0, 1, 2, -9}, {0, -9, -9, -9}};
        for (int set = 0; set < 4; set++) {
            for (int to = 0; to < 4; to++) {
                Due.is("29: set " + set + " to " + to, camp.minutes(0, to, 0, set), due[set][to]);
            }
        }
        Due.is("29: from a cleared one", camp.minutes(1, 2, 0, 1), -9);
        Due.is("29: both cleared", camp.minutes(1, 3, 0, 3), -9);
        Due.is("29: behind a cleared one", camp.minutes(2, 3, 0, 1), 1);
        Due.is("29: cleared in no other call", camp.minutes(0, 3, 0, 0), 3);
    }

    private static void lanesToTheLast() {
        CampCards camp = snake();
        int[] houses = {29, 0, 5, 7, 9, 11, 13, 15};
        for (int i = 0; i < houses.length; i++) {
            Due.is("30: could be cleared, " + i, camp.lane(houses[i]), i);
            Due.is("30: told so, " + i, camp.lane(houses[i]), -3);
        }
        Due.is("30: told so, ahead of 8", camp.lane(29), -3);
        Due.is("30: the 9th", camp.lane(1), -6);
        Due.is("30: no such, ahead of 8", camp.lane(30), -1);
        Due.is("29: the last is cleared by its bit", camp.minutes(14, 15, 0, 128), -9);
        Due.is("29: and by no other", camp.minutes(14, 15, 0, 127), 4);
    }

    private static void setsOfLanes() {
        CampCards camp = snake();
        for (int told = 0; told <= 8; told++) {
            Due.is("29: all of " + told, camp.minutes(28, 29, 0, (1 << told) - 1), 1);
            Due.is("29: one behind the " + told, camp.minutes(28, 29, 0, 1 << told), -1);
            Due.is("29: one behind with all of " + told, camp.minutes(28, 29, 0, (1 << told + 1) - 1), -1);
            Due.is("29: below 0 with " + told, camp.minutes(28, 29, 0, -1), -1);
            Due.is("29: the highest bit with " + told, camp.minutes(28, 29, 0, Integer.MIN_VALUE), -1);
            Due.is("29: the bit below with " + told, camp.minutes(28, 29, 0, 1 << 30), -1);
            camp.lane(told);
        }
        Due.is("38: NOBODY", camp.total(11), 45);
        Due.is("38: ROOM by the 9th", camp.total(16), 1);
    }

    private static void fewestOfNothing() {
        CampCards camp = new CampCards();
        Due.is("31: no HOUSES", camp.lanes(0, 1), 0);
        Due.is("31: no HOUSES, 30", camp.lanes(3, 30), 0);
        camp.house(0, 0);
        Due.is("31: one HOUSE, no LANES", camp.lanes(0, 1), 0);
        camp.house(2, 0);
        Due.is("31: two that are not beside", camp.lanes(0, 1), 0);
        camp.lane(0);
        Due.is("31: a LANE that is not needed", camp.lanes(0, 1), 0);
    }

    private static void numberFromLeastToGreatest() {
        CampCards camp = snake();
        Due.is("31: 30 of 30", camp.lanes(0, 30), 0);
        Due.is("31: 29 of 30, no LANES", camp.lanes(0, 29), -9);
        camp.lane(29);
        Due.is("31: 29 of 30", camp.lanes(0, 29), 1);
        Due.is("31: 28 of 30", camp.lanes(0, 28), -9);
        camp.lane(14);
        Due.is("31: 15 by the one in the middle", camp.lanes(0, 15), 2);
        Due.is("31: 14 by both no more", camp.lanes(0, 14), 3);
        Due.is("31: 13", camp.lanes(0, 13), -9);
        Due.is("31: 1", camp.lanes(0, 1), -9);
        Due.is("31: number 0", camp.lanes(0, 0), -4);
        Due.is("31: number 31", camp.lanes(0, 31), -6);
    }

    private static void itToo() {
        CampCards camp = on(0, 1);
        camp.lane(1);
        Due.is("31: two burn, it too", camp.lanes(0, 2), 0);
        Due.is("31: one burns, it itself", camp.lanes(0, 1), 1);
        Due.is("29: what is left", camp.minutes(0, 0, 0, 1), 0);
    }

    private static void fromAnyThatIsNotCleared() {
        CampCards camp = on(0, 1, 2);
        camp.lane(0);
        camp.lane(1);
        camp.lane(2);
        Due.is("31: the middle one", camp.lanes(0, 1), 2);
        CampCards all = on(0, 1);
        all.lane(1);
        all.lane(0);
        Due.is("31: one of two", all.lanes(0, 1), 1);
        CampCards apart = on(0, 1, 143, 142);
        apart.lane(0);
        Due.is("31: the last two burn as well", apart.lanes(0, 1), -9);
        apart.lane(2);
        Due.is("31: one of each", apart.lanes(0, 1), 3);
    }

    private static void fewestByNone() {
        CampCards camp = on(0, 1, 2, 3);
        Due.is("31: no LANES", camp.lanes(0, 3), -9);
        camp.lane(0);
        Due.is("31: 3 are left", camp.lanes(0, 3), 1);
        Due.is("31: 2", camp.lanes(0, 2), -9);
        camp.lane(1);
        Due.is("31: the first two", camp.lanes(0, 1), -9);
        Due.is("31: the second alone leaves 2", camp.lanes(0, 2), 2);
        Due.is("31: no REFUSAL", camp.total(11) + camp.total(13), 0);
    }

    private static void fewestOfSeveral() {
        CampCards camp = on(0, 1, 2, 3, 4);
        camp.lane(1);
        camp.lane(3);
        camp.lane(2);
        Due.is("31: 4, of three sets of one the least", camp.lanes(0, 4), 1);
        Due.is("31: 3, of three sets of one the least", camp.lanes(0, 3), 1);
        Due.is("31: 2, the highest bit alone", camp.lanes(0, 2), 4);
        Due.is("31: 1, of sets of two the only one", camp.lanes(0, 1), 3);
    }

    private static void fewestOfEight() {
        CampCards camp = on(0, 1, 2, 3, 4, 5, 6, 7);
        for (int house = 0; house < 8; house++) {
            camp.lane(house);
        }
        Due.is("31: 8", camp.lanes(0, 8), 0);
        Due.is("31: 7", camp.lanes(0, 7), 1);
        Due.is("31: 4", camp.lanes(0, 4), 8);
        Due.is("31: 3, none and 3 and 3 are left", camp.lanes(0, 3), 1 + 16);
        Due.is("31: 2, three times 2 are left", camp.lanes(0, 2), 4 + 32);
        Due.is("31: 1, each second one", camp.lanes(0, 1), 1 + 4 + 16 + 64);
        CampCards cross = on(64, 66, 53, 77, 63, 67, 41, 89, 52, 54, 76, 78);
        for (int house = 0; house < 8; house++) {
            cross.lane(house);
        }
        // a ring of 8 with 4 tips: 64, 66, 53, 77 hold it together
        Due.is("31: all four", cross.lanes(0, 1), 15);
    }

    private static void whateverTheWind() {
        CampCards camp = snake();
        camp.lane(7);
        camp.lane(14);
        for (int wind = 0; wind < 4; wind++) {
            Due.is("31: 30, WIND " + wind, camp.lanes(wind, 30), 0);
            Due.is("31: 22, WIND " + wind, camp.lanes(wind, 22), 1);
            Due.is("31: 15, WIND " + wind, camp.lanes(wind, 15), 2);
            Due.is("31: 14, WIND " + wind, camp.lanes(wind, 14), -9);
        }
    }
}
