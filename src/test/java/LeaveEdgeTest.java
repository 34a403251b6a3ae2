/** The boundary cases of part VI of the document and promises 32 to 38, sentence by sentence. */
public final class LeaveEdgeTest {
    public static void main(String[] args) {
        queueToTheLast();
        asksAnew();
        notAnyMore();
        whoeverAsks();
        listOfNone();
        iFromLeastToGreatest();
        listOnTheFirstAndLastDay();
        hereOnTheDay();
        greatestPointsFirst();
        whoAskedFirst();
        goesNoneAndAll();
        goesMoreThanThereAre();
        goesNow();
        goesByRoom();
        countsToTheLast();
        countedDaysAndNumbers();
        notToBeRead();
        knownByThen();
        latestDayNotBehind();
        toldLastOfSeveral();
        countsOfEachBlock();
        offBelowZero();
        offOnTheDay();
        totals();
        Due.close("LeaveEdgeTest");
    }

    private static CampCards withPersons(int n) {
        CampCards camp = new CampCards();
        camp.house(0, 0);
        for (int i = 0; i < n; i++) {
            camp.person(0, 0, i % 6);
        }
        return camp;
    }

    private static CampCards withAsking(int n) {
        CampCards camp = withPersons(n);
        for (int i = 0; i < n; i++) {
            camp.queue(i, true);
        }
        return camp;
    }

    private static void listIs(String what, CampCards camp, int day, int... due) {
        for (int i = 0; i < due.length; i++) {
            Due.is("33: " + what + ", " + i, camp.list(day, i), due[i]);
        }
        Due.is("33: " + what + ", no more", camp.list(day, due.length), -9);
    }

    private static void queueToTheLast() {
        CampCards camp = withPersons(60);
        Due.is("32: nobody asks", camp.total(8), 0);
        for (int i = 59; i >= 0; i--) {
            Due.is("32: PERSON " + i, camp.queue(i, true), 1);
        }
        Due.is("32: 60 ask", camp.total(8), 60);
        Due.is("32: no such", camp.queue(60, true), -1);
        Due.is("33: the first", camp.list(0, 0), 59);
        Due.is("33: the last", camp.list(0, 59), 0);
        for (int i = 0; i < 60; i++) {
            Due.is("32: not any more, " + i, camp.queue(i, false), 1);
        }
        Due.is("32: nobody asks any more", camp.total(8), 0);
        Due.is("32: the first asks anew", camp.queue(0, true), 1);
        listIs("one", camp, 0, 0);
    }

    private static void asksAnew() {
        CampCards camp = withAsking(3);
        Due.is("32: it was so", camp.queue(0, true), 0);
        listIs("and it stays where it was", camp, 0, 0, 1, 2);
        camp.queue(0, false);
        Due.is("32: anew", camp.queue(0, true), 1);
        listIs("the last", camp, 0, 1, 2, 0);
        camp.queue(2, false);
        camp.queue(2, true);
        listIs("the last again", camp, 0, 1, 0, 2);
        camp.queue(2, false);
        camp.queue(2, true);
        listIs("who was the last is the last", camp, 0, 1, 0, 2);
    }

    private static void notAnyMore() {
        CampCards camp = withPersons(3);
        Due.is("32: it was so from the first", camp.queue(0, false), 0);
        camp.queue(0, true);
        camp.queue(1, true);
        camp.queue(2, true);
        Due.is("32: one of between", camp.queue(1, false), 1);
        Due.is("32: it was so", camp.queue(1, false), 0);
        listIs("the others stay", camp, 0, 0, 2);
        Due.is("32: the first", camp.queue(0, false), 1);
        listIs("the last stays", camp, 0, 2);
        Due.is("32: the last", camp.queue(2, false), 1);
        listIs("none", camp, 0);
        Due.is("38: none", camp.total(8), 0);
    }

    private static void whoeverAsks() {
        for (int state = 0; state < 5; state++) {
            CampCards camp = withPersons(1);
            camp.state(0, state);
            Due.is("32: asks in STATE " + state, camp.queue(0, true), 1);
            Due.is("38: is in the QUEUE", camp.total(8), 1);
            Due.is("33: and in THE LIST if HERE", camp.list(0, 0), state == 0 || state == 2 ? 0 : -9);
            Due.is("34: and goes if HERE", camp.goes(1), state == 0 || state == 2 ? 1 : 0);
            Due.is("38: is in the QUEUE still if not", camp.total(8), state == 0 || state == 2 ? 0 : 1);
        }
    }

    private static void listOfNone() {
        CampCards camp = new CampCards();
        Due.is("33: nobody in the camp", camp.list(0, 0), -9);
        camp = withPersons(2);
        Due.is("33: nobody asks", camp.list(0, 0), -9);
        Due.is("33: on the last DAY", camp.list(999, 0), -9);
        Due.is("38: no REFUSAL", camp.total(14) + camp.total(16), 0);
    }

    private static void iFromLeastToGreatest() {
        CampCards camp = withAsking(2);
        int[] i = {Integer.MIN_VALUE, -1, 0, 1, 2, 60, Integer.MAX_VALUE};
        int[] due = {-9, -9, 0, 1, -9, -9, -9};
        for (int at = 0; at < i.length; at++) {
            Due.is("33: i " + i[at], camp.list(0, i[at]), due[at]);
        }
        for (int what = 11; what <= 16; what++) {
            Due.is("38: none of them a REFUSAL", camp.total(what), 0);
        }
    }

    private static void listOnTheFirstAndLastDay() {
        CampCards camp = withAsking(2);
        camp.days(999);
        camp.person(0, 0, 0);
        camp.queue(2, true);
        listIs("DAY 0", camp, 0, 0, 1);
        listIs("DAY 998", camp, 998, 0, 1);
        listIs("DAY 999", camp, 999, 0, 1, 2);
        Due.is("33: DAY -1", camp.list(-1, 0), -4);
        Due.is("33: DAY 1000", camp.list(1000, 0), -6);
    }

    private static void hereOnTheDay() {
        CampCards camp = withAsking(5);
        camp.days(1);
        for (int i = 0; i < 5; i++) {
            camp.state(i, i);
        }
        listIs("IN and SICK", camp, 1, 0, 2);
        listIs("all the DAY ahead", camp, 0, 0, 1, 2, 3, 4);
        listIs("as from now on", camp, 999, 0, 2);
        camp.state(1, 0);
        listIs("one that is IN again is where it was", camp, 1, 0, 1, 2);
    }

    private static void greatestPointsFirst() {
        CampCards camp = withAsking(6);
        Due.rule(camp, "t*t-6*t", 1, 1);
        // 0, -5, -8, -9, -8, -5
        listIs("by POINTS", camp, 1, 0, 1, 5, 2, 4, 3);
        listIs("without a RULE all are worth 0", camp, 0, 0, 1, 2, 3, 4, 5);
        Due.rule(camp, "(t=2)*9999*9999*9999-(t=4)*9999*9999*9999", 1, 2);
        listIs("the greatest and the least worth", camp, 2, 2, 0, 1, 3, 5, 4);
        Due.rule(camp, "c", 1, 3);
        camp.days(2);
        camp.person(0, 0, 0);
        camp.queue(6, true);
        listIs("one that came later", camp, 3, 0, 1, 2, 3, 4, 5, 6);
    }

    private static void whoAskedFirst() {
        CampCards camp = withPersons(4);
        int[] order = {2, 0, 3, 1};
        for (int person : order) {
            camp.queue(person, true);
        }
        Due.rule(camp, "(t>1)", 1, 0);
        listIs("of as many POINTS who asked first", camp, 0, 2, 3, 0, 1);
        camp.queue(2, false);
        camp.queue(2, true);
        listIs("who asked anew is behind", camp, 0, 3, 2, 0, 1);
    }

    private static void goesNoneAndAll() {
        CampCards camp = withAsking(60);
        Due.is("34: n -1", camp.goes(-1), -4);
        Due.is("34: n 61", camp.goes(61), -6);
        Due.is("34: n 0", camp.goes(0), 0);
        Due.is("34: none went", camp.total(3), 60);
        Due.is("34: n 60", camp.goes(60), 60);
        Due.is("34: all went", camp.total(3), 0);
        Due.is("34: none is left in the QUEUE", camp.total(8), 0);
        Due.is("34: their STATES were told", camp.state(0, 0), 61);
    }

    private static void goesMoreThanThereAre() {
        CampCards camp = new CampCards();
        Due.is("34: nobody in the camp", camp.goes(60), 0);
        camp = withAsking(3);
        camp.state(1, 1);
        Due.is("34: as many as are HERE", camp.goes(3), 2);
        Due.is("34: none is HERE", camp.goes(1), 0);
        Due.is("34: the one that is OUT asks still", camp.total(8), 1);
        camp.state(1, 2);
        Due.is("34: SICK, it goes", camp.goes(60), 1);
    }

    private static void goesNow() {
        CampCards camp = withAsking(4);
        Due.rule(camp, "t", 1, 2);
        camp.days(2);
        Due.is("34: by THE LIST of now", camp.goes(2), 2);
        int[] due = {0, 0, 3, 3};
        for (int i = 0; i < 4; i++) {
            Due.is("34: GONE ON now, " + i, camp.stateOf(i, 2), due[i]);
            Due.is("34: not ahead of now, " + i, camp.stateOf(i, 1), 0);
        }
        listIs("those left", camp, 2, 1, 0);
        listIs("they are in the QUEUE no more, on no DAY", camp, 0, 0, 1);
        Due.is("32: who went can ask", camp.queue(3, true), 1);
        listIs("but is not HERE", camp, 2, 1, 0);
        camp.state(3, 0);
        listIs("until it is IN", camp, 2, 3, 1, 0);
    }

    private static void goesByRoom() {
        for (int room = 0; room <= 3; room++) {
            CampCards camp = withAsking(4);
            camp.state(3, 1);
            for (int i = 1; i < 150 - room; i++) {
                camp.state(3, 1);
            }
            for (int n = 3; n > room; n--) {
                Due.is("34: room for " + room + ", not for " + n, camp.goes(n), -6);
                Due.is("34: all are in the QUEUE still", camp.total(8), 4);
                Due.is("34: all are HERE still", camp.total(3), 3);
            }
            Due.is("34: room for " + room, camp.goes(room), room);
            Due.is("34: no room is left", camp.state(0, 0), -6);
            Due.is("34: the rest of the QUEUE", camp.total(8), 4 - room);
            Due.is("34: room for none", camp.goes(0), 0);
        }
    }

    private static void countsToTheLast() {
        CampCards camp = new CampCards();
        for (int i = 1; i <= 40; i++) {
            Due.is("35: COUNT " + i, camp.count(3, 0, i), i);
            Due.is("36: is known", camp.counted(3, 0, 0), i);
        }
        Due.is("35: the 41st", camp.count(0, 0, 0), -6);
        Due.is("36: the 40th stays", camp.counted(3, 0, 0), 40);
        camp = new CampCards();
        for (int i = 1; i <= 40; i++) {
            Due.is("35: those not to be read count", camp.count(i % 4, 0, -1), i);
        }
        Due.is("35: the 41st behind them", camp.count(0, 0, 0), -6);
    }

    private static void countedDaysAndNumbers() {
        CampCards camp = new CampCards();
        Due.is("35: DAY 0, the least number", camp.count(0, 0, 0), 1);
        Due.is("36: 0", camp.counted(0, 0, 0), 0);
        Due.is("35: the greatest number", camp.count(0, 0, 9999), 2);
        Due.is("36: 9999", camp.counted(0, 999, 999), 9999);
        Due.is("35: 10000", camp.count(0, 0, 10000), -6);
        Due.is("35: -1", camp.count(0, 0, -1), 3);
        Due.is("35: -2", camp.count(0, 0, -2), -4);
        Due.is("35: tomorrow", camp.count(0, 1, 0), -6);
        Due.is("35: DAY -1", camp.count(0, -1, 0), -4);
        camp.days(999);
        Due.is("35: the last DAY", camp.count(0, 999, 7), 4);
        Due.is("35: a DAY more", camp.count(0, 1000, 7), -6);
        Due.is("36: the last DAY", camp.counted(0, 999, 999), 7);
        Due.is("36: the DAY ahead", camp.counted(0, 998, 999), 9999);
        Due.is("36: known on the DAY ahead", camp.counted(0, 999, 998), 9999);
    }

    private static void notToBeRead() {
        CampCards camp = new CampCards();
        Due.is("36: none told", camp.counted(0, 0, 0), -9);
        camp.count(0, 0, -1);
        Due.is("36: one not to be read", camp.counted(0, 0, 0), -9);
        Due.is("37: one not to be read is no COUNT", camp.off(0, 0), 1000000003);
        camp.days(2);
        camp.count(0, 1, 5);
        camp.count(0, 1, -1);
        camp.count(0, 2, -1);
        Due.is("36: the one that could be read", camp.counted(0, 2, 2), 5);
        Due.is("36: of the same DAY too", camp.counted(0, 1, 2), 5);
        Due.is("37: OFF of it", camp.off(0, 2), 5);
        camp.count(0, 0, 0);
        Due.is("36: 0 could be read", camp.counted(0, 0, 2), 0);
        Due.is("38: -9 is no REFUSAL", camp.total(13), 1);
    }

    private static void knownByThen() {
        CampCards camp = new CampCards();
        camp.days(3);
        camp.count(0, 1, 11);
        camp.days(3);
        camp.count(0, 1, 12);
        int[] due = {-9, -9, -9, 11, 11, 11, 12, 12};
        for (int k = 0; k < due.length; k++) {
            Due.is("36: as known on " + k, camp.counted(0, 1, k), due[k]);
        }
        Due.is("36: as known on the last DAY", camp.counted(0, 1, 999), 12);
        Due.is("37: as known now", camp.off(0, 1), 12);
    }

    private static void latestDayNotBehind() {
        CampCards camp = new CampCards();
        camp.days(9);
        camp.count(0, 7, 70);
        camp.count(0, 2, 20);
        camp.count(0, 5, 50);
        int[] due = {-9, -9, 20, 20, 20, 50, 50, 70, 70, 70};
        for (int day = 0; day < due.length; day++) {
            Due.is("36: on " + day, camp.counted(0, day, 9), due[day]);
            Due.is("36: on " + day + " as known the DAY ahead", camp.counted(0, day, 8), -9);
        }
    }

    private static void toldLastOfSeveral() {
        CampCards camp = new CampCards();
        for (int v = 3; v >= 0; v--) {
            camp.count(0, 0, v);
            Due.is("36: the one told last", camp.counted(0, 0, 0), v);
        }
        camp.days(1);
        camp.count(0, 1, 8);
        camp.count(0, 0, 9);
        Due.is("36: not one of an earlier DAY", camp.counted(0, 1, 1), 8);
        Due.is("36: on the earlier DAY", camp.counted(0, 0, 1), 9);
        Due.is("36: and as known ahead", camp.counted(0, 0, 0), 0);
    }

    private static void countsOfEachBlock() {
        CampCards camp = new CampCards();
        for (int block = 0; block < 4; block++) {
            Due.is("36: BLOCK " + block + " has none", camp.counted(block, 999, 999), -9);
            camp.count(block, 0, 100 + block);
            for (int other = 0; other <= block; other++) {
                Due.is("36: BLOCK " + other, camp.counted(other, 0, 0), 100 + other);
            }
        }
    }

    private static void offBelowZero() {
        CampCards camp = withPersons(60);
        for (int v = 0; v <= 60; v += 3) {
            camp.count(0, 0, v);
            Due.is("37: OFF by " + v, camp.off(0, 0), v - 60);
        }
        camp.count(0, 0, 51);
        Due.is("37: -9 as well", camp.off(0, 0), -9);
        camp.count(0, 0, 9999);
        Due.is("37: the greatest", camp.off(0, 0), 9939);
        Due.is("37: no such", camp.off(4, 0), 1000000001);
        Due.is("37: no COUNT", camp.off(1, 0), 1000000003);
        Due.is("37: DAY below", camp.off(0, -1), 1000000004);
        Due.is("37: DAY above", camp.off(0, 1000), 1000000006);
        Due.is("38: each a REFUSAL, and none else", camp.total(11) + camp.total(13) + camp.total(14) + camp.total(16), 4);
    }

    private static void offOnTheDay() {
        CampCards camp = new CampCards();
        camp.house(0, 2);
        camp.house(1, 2);
        camp.house(2, 3);
        camp.count(2, 0, 0);
        Due.is("37: nobody HERE, none counted", camp.off(2, 0), 0);
        camp.days(1);
        for (int i = 0; i < 6; i++) {
            camp.person(i % 3, 0, 0);
        }
        Due.is("37: ahead of their coming", camp.off(2, 0), 0);
        Due.is("37: the DAY they came", camp.off(2, 1), -4);
        Due.is("37: the last DAY", camp.off(2, 999), -4);
        camp.state(0, 2);
        camp.state(1, 3);
        Due.is("37: one SICK, one GONE ON", camp.off(2, 1), -3);
        camp.state(2, 4);
        Due.is("37: one DEAD of another BLOCK", camp.off(2, 1), -3);
    }

    private static void totals() {
        CampCards camp = new CampCards();
        int[] none = {Integer.MIN_VALUE, -1, 17, 18, Integer.MAX_VALUE};
        for (int what : none) {
            Due.is("38: what " + what, camp.total(what), -9);
        }
        for (int what = 0; what <= 16; what++) {
            Due.is("38: what " + what + " of a new one, and -9 is no REFUSAL", camp.total(what), 0);
        }
        for (int i = 1; i <= 200; i++) {
            camp.down(-1);
            Due.is("38: REFUSALS -1", camp.total(11), i);
        }
        Due.is("38: there is no -5", camp.total(15), 0);
    }
}
