/** Everything filled to its limit, and every call on it: no row is a place too short. */
public final class FullTest {
    public static void main(String[] args) {
        CampCards camp = filled();
        ask(camp);
        oneWithAllStates();
        Due.close("FullTest");
    }

    private static CampCards filled() {
        CampCards camp = new CampCards();
        for (int i = 0; i < 30; i++) {
            Due.is("house", camp.house(114 + i, i % 4), i);
        }
        for (int i = 0; i < 60; i++) {
            Due.is("person", camp.person(i % 30, -i, 0), i);
            Due.is("queue", camp.queue(i, true), 1);
        }
        for (int i = 0; i < 40; i++) {
            Due.is("card", camp.card(i % 30), i);
            Due.is("count", camp.count(i % 4, 0, i), i + 1);
        }
        for (int i = 0; i < 30; i++) {
            Due.is("rule", Due.rule(camp, i < 29 ? "n" : "(((((a-c*(c>0)))))+1-1+1-1+1-1+1-1+1-1+1-1+1-1+1-1+1-1+1-1+00", 1, i), i == 29 ? -29 : i + 1);
        }
        Due.is("the last rule", Due.rule(camp, "((((a-c*(c>0)))))+1-1+1-1+1-1+1-1+1-1+1-1+1-1+1-1+1-1+1-1+00", 1, 29), 30);
        for (int i = 0; i < 60; i++) {
            Due.is("handed", camp.handed(0, 1000, 800), i + 1);
        }
        for (int i = 0; i < 6; i++) {
            Due.is("well", camp.well(138 + i, 10, 9999), i);
        }
        for (int i = 0; i < 14; i++) {
            Due.is("latrine", camp.latrine(143 - i, 1), i);
        }
        for (int i = 0; i < 10; i++) {
            Due.is("drain", camp.drain(143 - i), i);
        }
        for (int i = 0; i < 8; i++) {
            Due.is("lane", camp.lane(29 - i), i);
        }
        camp.feed(8, 0);
        for (int i = 0; i < 6; i++) {
            camp.feed(8, 0);
        }
        Due.is("feed", camp.feed(4, 0), 60);
        return camp;
    }

    private static void ask(CampCards camp) {
        Due.is("here", camp.here(29, 0), 2);
        Due.is("total(3)", camp.total(3), 60);
        Due.is("draw", camp.draw(39, 999), 0);
        Due.is("points", camp.points(59, 999), 2 - 999);
        Due.is("since(0)", camp.since(0), 0);
        Due.is("since(1)", camp.since(1), 199);
        Due.is("pairs", camp.pairs(29, 28), 2);
        Due.is("alike", camp.alike(29, 28), 2);
        Due.is("served", camp.served(29), 8);
        Due.is("best(4)", camp.best(4), 0);
        Due.is("foul", camp.foul(999, 0), 63);
        Due.is("foul, all drained", camp.foul(999, 1023), 0);
        Due.is("foul, one drained", camp.foul(1, 1), 31);
        Due.is("drains", camp.drains(1), 63);
        // the row 132 .. 143 and the half row 114 .. 119 with the row between are one fire
        Due.is("minutes", camp.minutes(0, 29, 1, 0), 12);
        Due.is("lanes", camp.lanes(0, 30), 0);
        Due.is("lanes, one less", camp.lanes(0, 29), 1);
        Due.is("lanes, by none", camp.lanes(0, 1), -9);
        Due.is("list", camp.list(0, 59), 59);
        Due.is("list, none", camp.list(0, 60), -9);
        Due.is("counted", camp.counted(3, 999, 999), 39);
        Due.is("off", camp.off(3, 0), 39 - 14);
        Due.is("rule", camp.rule(0, 0), -6);
        Due.is("goes", camp.goes(60), 60);
        Due.is("nobody HERE", camp.total(3), 0);
        Due.is("nobody asks", camp.total(8), 0);
        for (int i = 61; i <= 120; i++) {
            Due.is("state", camp.state(59, i % 3), i);
        }
        camp.days(999);
        Due.is("SINCE on the last DAY", camp.since(0), 0);
        Due.is("state of the last", camp.stateOf(59, 999), 0);
    }

    private static void oneWithAllStates() {
        CampCards camp = new CampCards();
        camp.house(0, 0);
        camp.person(0, 0, 0);
        camp.state(0, 1);
        camp.days(1);
        for (int i = 0; i < 149; i++) {
            camp.state(0, 2);
        }
        Due.is("the first of 150", camp.stateOf(0, 0), 1);
        Due.is("the last of 150", camp.stateOf(0, 1), 2);
        Due.is("151", camp.state(0, 0), -6);
    }
}
