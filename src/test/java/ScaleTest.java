/** Promises 16 to 19: what was handed out, since when the scale leans, and two cards. */
public final class ScaleTest {
    public static void main(String[] args) {
        handed();
        since();
        sinceNone();
        leans();
        pairs();
        pairsOfOneHouse();
        alike();
        Due.close("ScaleTest");
    }

    private static CampCards withCards() {
        CampCards camp = new CampCards();
        camp.house(0, 0);
        camp.card(0);
        camp.card(0);
        camp.end(1);
        return camp;
    }

    private static void handed() {
        CampCards camp = withCards();
        Due.is("16: no such, ahead of -4", camp.handed(2, 0, 0), -1);
        Due.is("16: below 0", camp.handed(-1, 1, 0), -1);
        Due.is("16: ENDED, ahead of -4", camp.handed(1, 0, 0), -3);
        Due.is("16: kilos below, ahead of -6", camp.handed(0, 0, 10000), -4);
        Due.is("16: weighed below, ahead of -6", camp.handed(0, 10000, -1), -4);
        Due.is("16: kilos above", camp.handed(0, 10000, 0), -6);
        Due.is("16: weighed above", camp.handed(0, 1, 10000), -6);
        Due.is("16: none yet", camp.total(5), 0);
        for (int i = 1; i <= 60; i++) {
            Due.is("16: the next", camp.handed(0, i % 2 == 0 ? 1 : 9999, i % 2 == 0 ? 0 : 9999), i);
        }
        Due.is("16: 60", camp.handed(0, 1, 1), -6);
        Due.is("16: -4 ahead of 60", camp.handed(0, 1, -1), -4);
        Due.is("16: HANDED", camp.total(5), 60);
        Due.is("16: they all let 0", camp.since(0), 1);
    }

    private static void since() {
        CampCards camp = withCards();
        Due.is("17: what", camp.since(2), -2);
        Due.is("17: what below", camp.since(-1), -2);
        camp.days(4);
        Due.is("17: none HANDED", camp.since(0), 5);
        Due.is("17: any L", camp.since(1), 0);
        camp.handed(0, 1000, 999);
        camp.handed(0, 1000, 1001);
        Due.is("17: within 1", camp.since(0), 5);
        camp.days(1);
        camp.handed(0, 1000, 1000);
        camp.handed(0, 1000, 899);
        Due.is("17: the true one of that DAY can't be with it", camp.since(0), -9);
        camp = withCards();
        camp.handed(0, 1000, 1000);
        camp.days(3);
        camp.handed(0, 5, 5);
        camp.handed(0, 1000, 899);
        camp.days(2);
        camp.handed(0, 9, 8);
        camp.days(1);
        Due.is("17: SINCE", camp.since(0), 3);
        Due.is("17: the least L", camp.since(1), 100);
        camp.end(0);
        Due.is("17: of ENDED ones too", camp.since(0), 3);
        Due.is("17: OTHER", camp.total(12), 0);
    }

    private static void sinceNone() {
        CampCards camp = withCards();
        camp.handed(0, 1000, 1002);
        Due.is("17: none leans upward", camp.since(0), -9);
        Due.is("17: nor has L", camp.since(1), -9);
        Due.is("17: -9 is no REFUSAL", camp.total(12), 0);
        camp = withCards();
        camp.days(2);
        camp.handed(0, 1000, 900);
        camp.days(1);
        camp.handed(0, 1000, 1000);
        Due.is("17: true again behind it", camp.since(0), -9);
    }

    private static int leanOf(int kilos, int weighed) {
        CampCards camp = withCards();
        camp.handed(0, kilos, weighed);
        return camp.since(1);
    }

    private static void leans() {
        Due.is("17: 300 at most", leanOf(1000, 699), 300);
        Due.is("17: 700 less 1 is let, less 2 not", leanOf(1000, 698), -9);
        Due.is("17: 1498 and a half is cut", leanOf(1500, 1497), 1);
        Due.is("17: not so far", leanOf(9999, 9997), -9);
        Due.is("17: 2", leanOf(1000, 997), 2);
        Due.is("17: small", leanOf(3, 1), 1);
        Due.is("17: thousandths", leanOf(9999, 8998), 100);
        Due.is("17: too small", leanOf(3, 0), -9);
    }

    private static void pairs() {
        CampCards camp = new CampCards();
        camp.house(0, 0);
        camp.house(1, 0);
        camp.person(0, -100, 1);
        camp.person(0, -98, 1);
        camp.person(1, -101, 1);
        camp.person(1, -104, 2);
        camp.card(0);
        camp.card(1);
        camp.card(1);
        Due.is("18: 3 DAYS, the TONGUE", camp.pairs(0, 1), 1);
        camp.person(1, -103, 1);
        Due.is("18: the least free one, though another would leave more", camp.pairs(0, 1), 1);
        Due.is("18: the other way", camp.pairs(1, 0), 1);
        camp.person(1, -94, 1);
        Due.is("18: 4 DAYS later", camp.pairs(0, 1), 1);
        camp.state(5, 1);
        camp.person(1, -95, 1);
        Due.is("18: 3 DAYS later", camp.pairs(0, 1), 2);
        camp.state(0, 1);
        Due.is("18: OUT", camp.pairs(0, 1), 1);
        camp.state(0, 2);
        Due.is("18: SICK", camp.pairs(0, 1), 2);
        camp.state(2, 3);
        camp.state(6, 4);
        Due.is("18: of the other's too", camp.pairs(0, 1), 1);
        Due.is("18: one twice", camp.pairs(0, 0), -1);
        Due.is("18: no such", camp.pairs(0, 3), -1);
        Due.is("18: below", camp.pairs(-1, 0), -1);
        camp.end(2);
        Due.is("18: ENDED", camp.pairs(0, 2), -3);
        Due.is("18: ENDED, the one", camp.pairs(2, 0), -3);
        Due.is("18: one twice, ahead of -3", camp.pairs(2, 2), -1);
        Due.is("18: no such, ahead of -3", camp.pairs(2, 3), -1);
    }

    private static void pairsOfOneHouse() {
        CampCards camp = new CampCards();
        camp.house(0, 0);
        camp.card(0);
        camp.card(0);
        Due.is("18: nobody", camp.pairs(0, 1), 0);
        camp.house(1, 0);
        camp.card(1);
        camp.person(1, 0, 0);
        Due.is("18: nobody there", camp.pairs(2, 0), 0);
        Due.is("18: nobody here", camp.pairs(0, 2), 0);
        Due.is("19: one HOUSE, though nobody", camp.alike(0, 1), 2);
        camp.person(0, -1, 0);
        camp.person(0, -900, 0);
        camp.person(0, -902, 0);
        Due.is("18: each with itself", camp.pairs(0, 1), 3);
        camp.state(2, 1);
        Due.is("18: if HERE", camp.pairs(1, 0), 2);
    }

    private static void alike() {
        CampCards camp = new CampCards();
        camp.house(0, 0);
        camp.house(3, 0);
        camp.house(25, 0);
        camp.house(37, 0);
        for (int house = 0; house < 4; house++) {
            camp.card(house);
        }
        Due.is("19: no PAIR", camp.alike(0, 1), 0);
        camp.person(0, -100, 1);
        camp.person(1, -100, 1);
        Due.is("19: 1 PAIR of all is not 2", camp.alike(0, 1), 1);
        camp.person(0, -900, 1);
        camp.person(1, -900, 1);
        camp.person(2, -900, 1);
        camp.person(2, -100, 1);
        camp.person(3, -900, 1);
        camp.person(3, -100, 1);
        Due.is("19: FAR 3", camp.alike(0, 1), 2);
        Due.is("19: FAR 3 by x and y", camp.alike(0, 2), 2);
        Due.is("19: FAR 4", camp.alike(0, 3), 1);
        camp.person(0, -5000, 1);
        Due.is("19: all of the smaller", camp.alike(0, 1), 2);
        Due.is("19: all of the smaller, the other way", camp.alike(1, 0), 2);
        camp.person(1, -7000, 1);
        Due.is("19: not all", camp.alike(0, 1), 1);
        camp.state(9, 1);
        Due.is("19: all that are HERE", camp.alike(0, 1), 2);
        CampCards low = new CampCards();
        low.house(130, 0);
        low.house(142, 0);
        for (int i = 0; i < 4; i++) {
            low.person(i % 2, 0, i / 2);
        }
        low.card(0);
        low.card(1);
        Due.is("19: FAR by differences", low.alike(0, 1), 2);
        Due.is("19: one twice", camp.alike(0, 0), -1);
        Due.is("19: no such", camp.alike(0, 4), -1);
        Due.is("19: below", camp.alike(-1, 0), -1);
        camp.end(3);
        Due.is("19: ENDED", camp.alike(3, 0), -3);
        Due.is("19: the other ENDED", camp.alike(0, 3), -3);
        Due.is("19: no such, ahead of -3", camp.alike(3, 4), -1);
    }
}
