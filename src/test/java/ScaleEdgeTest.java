/** The boundary cases of part III of the document and promises 16 to 19, sentence by sentence. */
public final class ScaleEdgeTest {
    public static void main(String[] args) {
        kilosFromLeastToGreatest();
        handedToTheLast();
        differsByOne();
        trueIsCut();
        leanedFromLeastToGreatest();
        noneHanded();
        noneFromDayOn();
        firstDayNotLet();
        aDayWithATrueOne();
        oneLeanForAll();
        truthBehind();
        threeDaysApart();
        sameTongue();
        pairsOfThoseHere();
        eachInOnePair();
        theLeastFreeOne();
        pairsOfFullHouses();
        pairsOfOneHouse();
        sureByOneHouse();
        sureByPairs();
        sureByAllOfTheSmaller();
        sureByFar();
        mayBe();
        Due.close("ScaleEdgeTest");
    }

    private static CampCards withCard() {
        CampCards camp = new CampCards();
        camp.house(0, 0);
        camp.card(0);
        return camp;
    }

    private static void sinceIs(String what, CampCards camp, int day, int lean) {
        Due.is("17: SINCE, " + what, camp.since(0), day);
        Due.is("17: L, " + what, camp.since(1), lean);
    }

    private static void kilosFromLeastToGreatest() {
        CampCards camp = withCard();
        Due.is("16: the least", camp.handed(0, 1, 0), 1);
        Due.is("16: the greatest", camp.handed(0, 9999, 9999), 2);
        Due.is("16: the least kilos, the greatest weighed", camp.handed(0, 1, 9999), 3);
        Due.is("16: the greatest kilos, the least weighed", camp.handed(0, 9999, 0), 4);
        Due.is("16: kilos 0", camp.handed(0, 0, 0), -4);
        Due.is("16: kilos 10000", camp.handed(0, 10000, 0), -6);
        Due.is("16: weighed -1", camp.handed(0, 1, -1), -4);
        Due.is("16: weighed 10000", camp.handed(0, 1, 10000), -6);
        Due.is("38: HANDED", camp.total(5), 4);
    }

    private static void handedToTheLast() {
        CampCards camp = withCard();
        camp.card(0);
        for (int i = 1; i <= 59; i++) {
            Due.is("16: HANDED " + i, camp.handed(i % 2, 1000, 1000), i);
        }
        camp.days(1);
        Due.is("16: the 60th", camp.handed(0, 1000, 900), 60);
        Due.is("16: 61st", camp.handed(1, 1, 1), -6);
        sinceIs("by the 60th", camp, 1, 99);
        camp.end(0);
        camp.end(1);
        Due.is("16: ENDED ahead of 60", camp.handed(0, 1, 1), -3);
        sinceIs("of ENDED CARDS too", camp, 1, 99);
    }

    private static int leanOf(int kilos, int weighed) {
        CampCards camp = withCard();
        camp.handed(0, kilos, weighed);
        return camp.since(1);
    }

    private static void differsByOne() {
        int[] weighed = {998, 999, 1000, 1001, 1002};
        int[] due = {1, 0, 0, 0, -9};
        for (int i = 0; i < weighed.length; i++) {
            Due.is("17: 1000 kilos weighed as " + weighed[i], leanOf(1000, weighed[i]), due[i]);
        }
        Due.is("17: 1 kilo weighed as 0", leanOf(1, 0), 0);
        Due.is("17: 1 kilo weighed as 2", leanOf(1, 2), 0);
        Due.is("17: 1 kilo weighed as 3", leanOf(1, 3), -9);
    }

    private static void trueIsCut() {
        Due.is("17: 2 kilos are 1 by 1 thousandth", leanOf(2, 0), 1);
        Due.is("17: 9999 kilos are 9989 by 1, within 1 of 9988", leanOf(9999, 9988), 1);
        Due.is("17: and of 9990", leanOf(9999, 9990), 1);
        Due.is("17: not of 9987, which is far from 9979 too", leanOf(9999, 9987), -9);
        Due.is("17: 9980 is within 1 of 9979", leanOf(9999, 9980), 2);
        Due.is("17: 3 kilos are 2, down to 300", leanOf(3, 0), -9);
        Due.is("17: 4 kilos are 3 by 1, 2 by 251", leanOf(4, 1), 251);
        Due.is("17: 4 kilos weighed as 2", leanOf(4, 2), 1);
    }

    private static void leanedFromLeastToGreatest() {
        Due.is("17: 300", leanOf(9999, 6998), 300);
        Due.is("17: more than 300", leanOf(9999, 6997), -9);
        Due.is("17: 301 of 1000 kilos, within 1", leanOf(1000, 699), 300);
        Due.is("17: 302 of 1000 kilos", leanOf(1000, 698), -9);
        Due.is("17: 299", leanOf(1000, 700), 299);
        Due.is("17: 1", leanOf(1000, 998), 1);
        Due.is("17: all is gone", leanOf(9999, 0), -9);
        Due.is("17: 6999 is true by 300, within 1 of 7000", leanOf(9999, 7000), 300);
    }

    private static void noneHanded() {
        CampCards camp = new CampCards();
        sinceIs("DAY 0", camp, 1, 0);
        camp.days(998);
        sinceIs("DAY 998", camp, 999, 0);
        camp.days(1);
        sinceIs("the last DAY and 1", camp, 1000, 0);
        Due.is("17: no REFUSAL", camp.total(12), 0);
    }

    private static void noneFromDayOn() {
        CampCards camp = withCard();
        camp.handed(0, 500, 500);
        sinceIs("one that 0 lets, now", camp, 1, 0);
        camp.days(7);
        sinceIs("long ago", camp, 8, 0);
        camp.handed(0, 500, 499);
        camp.handed(0, 500, 501);
        sinceIs("three that 0 lets", camp, 8, 0);
    }

    private static void firstDayNotLet() {
        CampCards camp = withCard();
        camp.handed(0, 1000, 900);
        sinceIs("from DAY 0 on", camp, 0, 99);
        camp.days(3);
        sinceIs("and it stays", camp, 0, 99);
        camp = withCard();
        camp.days(999);
        camp.handed(0, 1000, 900);
        sinceIs("on the last DAY", camp, 999, 99);
        camp = withCard();
        camp.handed(0, 1000, 1000);
        camp.days(1);
        camp.handed(0, 1000, 900);
        camp.days(1);
        camp.handed(0, 1000, 901);
        sinceIs("the first that 0 doesn't let", camp, 1, 99);
    }

    private static void aDayWithATrueOne() {
        CampCards camp = withCard();
        camp.days(2);
        camp.handed(0, 1000, 1000);
        camp.handed(0, 1000, 900);
        sinceIs("one of the DAY is true", camp, -9, -9);
        camp = withCard();
        camp.days(2);
        camp.handed(0, 1000, 900);
        camp.handed(0, 1000, 1000);
        sinceIs("in other order", camp, -9, -9);
        camp = withCard();
        camp.days(2);
        camp.handed(0, 5, 5);
        camp.handed(0, 1000, 900);
        sinceIs("a small one is let by both", camp, 2, 99);
    }

    private static void oneLeanForAll() {
        int[] second = {900, 899, 898, 897, 902, 903};
        int[] due = {99, 100, 101, -9, 99, -9};
        for (int i = 0; i < second.length; i++) {
            CampCards camp = withCard();
            camp.handed(0, 1000, 900);
            camp.days(1);
            camp.handed(0, 1000, second[i]);
            sinceIs("99 .. 101 and " + second[i], camp, due[i] == -9 ? -9 : 0, due[i]);
        }
    }

    private static void truthBehind() {
        CampCards camp = withCard();
        camp.handed(0, 1000, 900);
        camp.days(1);
        camp.handed(0, 1000, 1000);
        sinceIs("true again behind it", camp, -9, -9);
        camp = withCard();
        camp.handed(0, 1000, 998);
        camp.days(1);
        camp.handed(0, 1000, 999);
        sinceIs("let by 1 too", camp, 0, 1);
        camp.handed(0, 1000, 1001);
        sinceIs("too much", camp, -9, -9);
    }

    private static int pairsOf(int born, int tongue, int otherBorn, int otherTongue) {
        CampCards camp = new CampCards();
        camp.house(0, 0);
        camp.house(1, 0);
        camp.person(0, born, tongue);
        camp.person(1, otherBorn, otherTongue);
        camp.card(0);
        camp.card(1);
        Due.is("18: as many the other way", camp.pairs(1, 0), camp.pairs(0, 1));
        return camp.pairs(0, 1);
    }

    private static void threeDaysApart() {
        for (int apart = -5; apart <= 5; apart++) {
            int due = apart >= -3 && apart <= 3 ? 1 : 0;
            Due.is("18: BORN " + apart + " DAYS apart", pairsOf(-500, 1, -500 + apart, 1), due);
        }
        Due.is("18: as far apart as can be", pairsOf(-36500, 1, 0, 1), 0);
        Due.is("18: over DAY 0", pairsOf(-3, 1, 0, 1), 1);
        Due.is("18: over DAY 0, 4", pairsOf(-4, 1, 0, 1), 0);
        Due.is("18: the earliest", pairsOf(-36500, 1, -36497, 1), 1);
    }

    private static void sameTongue() {
        for (int tongue = 0; tongue < 6; tongue++) {
            for (int other = 0; other < 6; other++) {
                Due.is("18: TONGUES " + tongue + " and " + other, pairsOf(0, tongue, 0, other), tongue == other ? 1 : 0);
            }
        }
    }

    private static void pairsOfThoseHere() {
        int[] due = {1, 0, 1, 0, 0};
        for (int state = 0; state < 5; state++) {
            for (int person = 0; person < 2; person++) {
                CampCards camp = new CampCards();
                camp.house(0, 0);
                camp.house(1, 0);
                camp.person(0, 0, 0);
                camp.person(1, 0, 0);
                camp.card(0);
                camp.card(1);
                camp.days(1);
                Due.is("18: HERE both", camp.pairs(0, 1), 1);
                camp.state(person, state);
                Due.is("18: HERE now by STATE " + state + " of " + person, camp.pairs(0, 1), due[state]);
                Due.is("19: HERE now by STATE " + state + " of " + person, camp.alike(0, 1), due[state]);
            }
        }
    }

    private static CampCards twoHouses(int... born) {
        CampCards camp = new CampCards();
        camp.house(0, 0);
        camp.house(1, 0);
        camp.card(0);
        camp.card(1);
        for (int i = 0; i < born.length; i += 2) {
            camp.person(born[i], born[i + 1], 1);
        }
        return camp;
    }

    private static void eachInOnePair() {
        CampCards camp = twoHouses(1, -100, 0, -100, 0, -100, 0, -100);
        Due.is("18: one for three", camp.pairs(0, 1), 1);
        Due.is("18: three for one", camp.pairs(1, 0), 1);
        Due.is("18: the same asked twice", camp.pairs(1, 0), 1);
        camp.person(1, -100, 1);
        Due.is("18: two for three", camp.pairs(0, 1), 2);
        Due.is("18: three for two", camp.pairs(1, 0), 2);
    }

    private static void theLeastFreeOne() {
        // by numbers the first takes -98, though it could have had -103, and leaves none to the second
        Due.is("18: the least free one is taken", twoHouses(0, -100, 0, -96, 1, -98, 1, -103).pairs(0, 1), 1);
        Due.is("18: in other order it would be 2", twoHouses(0, -100, 0, -96, 1, -103, 1, -98).pairs(0, 1), 2);
        Due.is("18: by numbers of the one's", twoHouses(0, -96, 0, -100, 1, -98, 1, -103).pairs(0, 1), 2);
    }

    private static void pairsOfFullHouses() {
        CampCards camp = new CampCards();
        camp.house(0, 0);
        camp.house(3, 0);
        for (int i = 0; i < 60; i++) {
            camp.person(i % 2, -i / 2 * 4, 0);
        }
        camp.card(0);
        camp.card(1);
        Due.is("18: 30 and 30", camp.pairs(0, 1), 30);
        Due.is("19: SURE", camp.alike(0, 1), 2);
        camp.state(59, 1);
        Due.is("18: 30 and 29", camp.pairs(0, 1), 29);
        Due.is("19: all of the smaller", camp.alike(0, 1), 2);
    }

    private static void pairsOfOneHouse() {
        CampCards camp = new CampCards();
        camp.house(0, 0);
        camp.card(0);
        camp.card(0);
        Due.is("18: an empty HOUSE", camp.pairs(0, 1), 0);
        for (int i = 0; i < 60; i++) {
            camp.person(0, -i * 600, i % 6);
        }
        Due.is("18: 60 with themselves", camp.pairs(0, 1), 60);
        for (int i = 0; i < 30; i++) {
            camp.state(i, 1);
        }
        Due.is("18: 30 are HERE", camp.pairs(1, 0), 30);
    }

    private static void sureByOneHouse() {
        CampCards camp = new CampCards();
        camp.house(0, 0);
        camp.card(0);
        camp.card(0);
        Due.is("19: one HOUSE, and empty", camp.alike(0, 1), 2);
        camp.person(0, 0, 0);
        Due.is("19: one HOUSE with 1 PERSON", camp.alike(0, 1), 2);
        camp.state(0, 4);
        Due.is("19: one HOUSE with nobody HERE", camp.alike(1, 0), 2);
    }

    private static void sureByPairs() {
        Due.is("19: both empty", twoHouses().alike(0, 1), 0);
        Due.is("19: one empty", twoHouses(0, 0, 0, 0).alike(0, 1), 0);
        Due.is("19: 1 PAIR, all of both", twoHouses(0, 0, 1, 0).alike(0, 1), 1);
        Due.is("19: 1 PAIR, all of the smaller", twoHouses(0, 0, 0, 0, 1, 0).alike(0, 1), 1);
        Due.is("19: 2 PAIRS, all of both", twoHouses(0, 0, 0, 0, 1, 0, 1, 0).alike(0, 1), 2);
    }

    private static void sureByAllOfTheSmaller() {
        CampCards camp = twoHouses(0, 0, 0, 0, 1, 0, 1, 0, 0, -900);
        Due.is("19: all of the smaller", camp.alike(0, 1), 2);
        Due.is("19: the other way", camp.alike(1, 0), 2);
        camp.person(1, -5000, 1);
        Due.is("19: as many, 1 in no PAIR", camp.alike(0, 1), 1);
        camp.person(1, -9000, 1);
        Due.is("19: 1 of the smaller in no PAIR", camp.alike(0, 1), 1);
        Due.is("19: 1 of the smaller in no PAIR, the other way", camp.alike(1, 0), 1);
        camp.state(4, 1);
        Due.is("19: that one is OUT", camp.alike(0, 1), 2);
    }

    private static int alikeOn(int cell, int otherCell) {
        CampCards camp = new CampCards();
        camp.house(cell, 0);
        camp.house(otherCell, 0);
        for (int i = 0; i < 4; i++) {
            camp.person(i % 2, 0, 0);
        }
        camp.card(0);
        camp.card(1);
        return camp.alike(0, 1);
    }

    private static void sureByFar() {
        int[] near = {66, 77, 78, 68, 101, 79, 90, 52, 62, 29};
        for (int cell : near) {
            Due.is("19: FAR of 65 and " + cell + " is 3 or less", alikeOn(65, cell), 2);
            Due.is("19: and back", alikeOn(cell, 65), 2);
        }
        int[] far = {69, 61, 113, 17, 80, 91, 102, 0, 143};
        for (int cell : far) {
            Due.is("19: FAR of 65 and " + cell + " is 4 or more", alikeOn(65, cell), 1);
            Due.is("19: and back", alikeOn(cell, 65), 1);
        }
        Due.is("19: a row's end is far from the next row", alikeOn(11, 12), 1);
        Due.is("19: the first row is far from the last", alikeOn(0, 132), 1);
    }

    private static void mayBe() {
        CampCards camp = twoHouses(0, 0, 0, -900, 1, -900, 1, -5000);
        Due.is("19: a PAIR", camp.alike(0, 1), 1);
        camp.state(1, 3);
        Due.is("19: no PAIR any more", camp.alike(0, 1), 0);
        Due.is("19: 2 PAIRS, but FAR", alikeOn(0, 143), 1);
    }
}
