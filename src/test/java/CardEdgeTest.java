/** The boundary cases of letters, rules in force, cards, draws and points: the rest of part II, promises 11 to 15. */
public final class CardEdgeTest {
    private static final String LETTERS = "nkosdatc";

    public static void main(String[] args) {
        lettersOfACard();
        lettersOfAPerson();
        youngAndOld();
        nobodyHere();
        daysSinceTheCard();
        ageByYears();
        daysSinceItCame();
        sickOrNot();
        rulesToTheLast();
        ruleFromNowOn();
        aRuleBehindNowOnly();
        latestDayNotBehind();
        toldLastOfSeveral();
        withoutOne();
        cardsToTheLast();
        endedOnce();
        drawAheadOfTheCard();
        drawFromItsEndOn();
        drawBounds();
        pointsBounds();
        Due.close("CardEdgeTest");
    }

    /** HOUSE 0 with PERSONS BORN on those DAYS, and a CARD. */
    private static CampCards household(int... born) {
        CampCards camp = new CampCards();
        camp.house(0, 0);
        for (int day : born) {
            camp.person(0, day, 5);
        }
        camp.card(0);
        return camp;
    }

    private static void lettersOfACard() {
        CampCards camp = household(-1000, -25000, -25000, -10000);
        camp.days(5);
        camp.state(3, 2);
        int[] due = {4, 1, 2, 1, 5, 0, 0, 0};
        for (int i = 0; i < due.length; i++) {
            Due.rule(camp, LETTERS.substring(i, i + 1), 0, 5);
            Due.is("14: letter " + LETTERS.charAt(i), camp.draw(0, 5), due[i]);
        }
    }

    private static void lettersOfAPerson() {
        CampCards camp = household(-1000, -25000, -25000, -10000);
        camp.days(5);
        camp.state(3, 2);
        int[] due = {4, 0, 0, 1, 0, 27, 5, 5};
        for (int i = 0; i < due.length; i++) {
            Due.rule(camp, LETTERS.substring(i, i + 1), 1, 5);
            Due.is("14: a DRAW between", camp.draw(0, 5), 0);
            Due.is("15: letter " + LETTERS.charAt(i), camp.points(3, 5), due[i]);
        }
    }

    private static void youngAndOld() {
        CampCards camp = household(0, -1823, -1824, -1825, -21899, -21900, -21901, -36500);
        Due.rule(camp, "k*100+o", 0, 0);
        // below 1825: 0, 1823, 1824; above 21900: 21901, 36500
        Due.is("14: on DAY 0", camp.draw(0, 0), 302);
        Due.is("14: on DAY 1", camp.draw(0, 1), 203);
        Due.is("14: on DAY 2", camp.draw(0, 2), 104);
        Due.is("14: on DAY 999", camp.draw(0, 999), 104);
        CampCards last = household();
        last.days(999);
        last.person(0, 999 - 1824, 0);
        last.person(0, 999 - 1825, 0);
        Due.rule(last, "k", 0, 999);
        Due.is("14: on the last DAY", last.draw(0, 999), 1);
    }

    private static void nobodyHere() {
        CampCards camp = household();
        Due.rule(camp, "n+k+o+s+7", 0, 0);
        Due.is("14: of an empty HOUSE", camp.draw(0, 0), 7);
        camp.person(0, 0, 0);
        Due.is("14: of one PERSON, young", camp.draw(0, 0), 9);
        camp.state(0, 2);
        Due.is("14: SICK", camp.draw(0, 0), 10);
        camp.state(0, 1);
        Due.is("14: nobody HERE", camp.draw(0, 0), 7);
        camp.state(0, 3);
        Due.is("14: GONE ON", camp.draw(0, 0), 7);
        camp.state(0, 4);
        Due.is("14: DEAD", camp.draw(0, 0), 7);
    }

    private static void daysSinceTheCard() {
        CampCards camp = household(0);
        camp.days(3);
        camp.card(0);
        Due.rule(camp, "d+1", 0, 3);
        Due.is("14: 0 DAYS since it", camp.draw(1, 3), 1);
        Due.is("14: 1 DAY", camp.draw(1, 4), 2);
        Due.is("14: 3 DAYS since the other", camp.draw(0, 3), 4);
        Due.is("14: to the last DAY", camp.draw(0, 999), 1000);
    }

    private static void ageByYears() {
        CampCards camp = household(0, -364, -365, -36500, -729, -730);
        Due.rule(camp, "a", 1, 0);
        int[] due = {0, 0, 1, 100, 1, 2};
        int[] dueNext = {0, 1, 1, 100, 2, 2};
        for (int person = 0; person < due.length; person++) {
            Due.is("15: age by 365, cut, " + person, camp.points(person, 0), due[person]);
            Due.is("15: the next DAY, " + person, camp.points(person, 1), dueNext[person]);
        }
        Due.is("15: 999 DAYS old", camp.points(0, 999), 2);
        Due.is("15: 37499 DAYS old", camp.points(3, 999), 102);
        Due.is("15: 364 DAYS old", camp.points(0, 364), 0);
        Due.is("15: 365 DAYS old", camp.points(0, 365), 1);
    }

    private static void daysSinceItCame() {
        CampCards camp = household(0);
        camp.days(9);
        camp.person(0, 0, 0);
        Due.rule(camp, "c*10+t", 1, 9);
        Due.is("15: 0 DAYS since it came", camp.points(1, 9), 0);
        Due.is("15: 1 DAY", camp.points(1, 10), 10);
        Due.is("15: 9 DAYS of the other", camp.points(0, 9), 95);
        Due.is("15: to the last DAY", camp.points(0, 999), 9995);
    }

    private static void sickOrNot() {
        int[] due = {20, 10, 21, 10, 10};
        int[] dueOther = {20, 10, 20, 10, 10};
        for (int state = 0; state < 5; state++) {
            CampCards camp = household(0, 0);
            Due.rule(camp, "n*10+s", 1, 0);
            camp.state(0, state);
            Due.is("15: n and s by STATE " + state, camp.points(0, 0), due[state]);
            Due.is("15: of the other of the HOUSE", camp.points(1, 0), dueOther[state]);
        }
    }

    private static void rulesToTheLast() {
        for (int purpose = 0; purpose < 2; purpose++) {
            CampCards camp = household(0);
            for (int i = 1; i <= 30; i++) {
                Due.is("11: a FAULT between", Due.rule(camp, "n+", purpose, 0), -22);
                Due.is("11: RULE " + i, Due.rule(camp, "" + (i + 100), purpose, 0), i);
            }
            Due.is("38: RULES", camp.total(10), 30);
            Due.is("11: 31st", Due.rule(camp, "1", purpose, 0), -6);
            Due.is("11: nor for the other PURPOSE", camp.rule(1 - purpose, 0), -6);
            Due.is("11: THE TAPE stays", camp.total(9), 1);
            Due.is("11: the 30th is in force", purpose == 0 ? camp.draw(0, 0) : camp.points(0, 0), 130);
        }
        CampCards camp = new CampCards();
        for (int i = 1; i <= 30; i++) {
            Due.is("11: in all, of both", Due.rule(camp, "1", i % 2, 999), i);
        }
        Due.is("11: 31st of both", Due.rule(camp, "1", 0, 999), -6);
    }

    private static void ruleFromNowOn() {
        CampCards camp = household(0);
        camp.days(4);
        Due.is("11: from yesterday on", Due.rule(camp, "6", 0, 3), -4);
        Due.is("11: from now on, with THE TAPE that stayed", camp.rule(0, 4), 1);
        Due.is("14: yesterday", camp.draw(0, 3), 0);
        Due.is("14: now", camp.draw(0, 4), 6);
        Due.is("11: from the last DAY on", Due.rule(camp, "8", 0, 999), 2);
        Due.is("14: the DAY ahead", camp.draw(0, 998), 6);
        Due.is("14: the last DAY", camp.draw(0, 999), 8);
        Due.is("11: a DAY more", Due.rule(camp, "9", 0, 1000), -6);
    }

    private static void aRuleBehindNowOnly() {
        CampCards camp = household(0);
        Due.rule(camp, "6", 0, 10);
        Due.is("14: not yet", camp.draw(0, 9), 0);
        Due.is("14: then", camp.draw(0, 10), 6);
        camp.days(9);
        Due.is("14: not yet, the DAY ahead", camp.draw(0, 9), 0);
        camp.days(1);
        Due.is("14: now", camp.draw(0, 10), 6);
        Due.is("14: and as ever ahead", camp.draw(0, 9), 0);
    }

    private static void latestDayNotBehind() {
        CampCards camp = household(0);
        int[] from = {8, 2, 5};
        for (int day : from) {
            Due.rule(camp, "" + 11 * day, 0, day);
            Due.rule(camp, "" + 10 * day, 1, day);
        }
        int[] due = {0, 0, 2, 2, 2, 5, 5, 5, 8, 8};
        for (int day = 0; day < due.length; day++) {
            Due.is("14: the latest DAY not behind " + day, camp.draw(0, day), 11 * due[day]);
            Due.is("15: the latest DAY not behind " + day, camp.points(0, day), 10 * due[day]);
        }
    }

    private static void toldLastOfSeveral() {
        CampCards camp = household(0);
        Due.rule(camp, "9", 0, 7);
        for (int i = 1; i <= 3; i++) {
            Due.rule(camp, "" + i, 0, 4);
            Due.rule(camp, "50", 1, 4);
            Due.is("14: the one told last", camp.draw(0, 4), i);
            Due.is("14: not from its DAY on that is later", camp.draw(0, 7), 9);
        }
        camp.days(4);
        Due.rule(camp, "5", 0, 4);
        Due.is("14: told on the DAY itself", camp.draw(0, 6), 5);
    }

    private static void withoutOne() {
        CampCards camp = household(0);
        Due.is("14: without one", camp.draw(0, 0), 0);
        Due.is("15: without one", camp.points(0, 0), 0);
        Due.rule(camp, "5", 0, 0);
        Due.is("15: one of the other PURPOSE", camp.points(0, 0), 0);
        camp = household(0);
        Due.rule(camp, "5", 1, 0);
        Due.is("14: one of the other PURPOSE", camp.draw(0, 0), 0);
    }

    private static void cardsToTheLast() {
        CampCards camp = new CampCards();
        Due.is("12: no HOUSE yet", camp.card(0), -1);
        camp.house(0, 0);
        for (int i = 0; i < 40; i++) {
            Due.is("12: CARD " + i, camp.card(0), i);
            Due.is("13: ENDED at once", i % 2 == 0 ? camp.end(i) : 1, 1);
        }
        Due.is("12: 41st, though 20 are ENDED", camp.card(0), -6);
        Due.is("38: CARDS not ENDED", camp.total(4), 20);
        Due.is("14: the last is known", camp.draw(39, 0), 0);
        Due.is("14: one behind it is not", camp.draw(40, 0), -1);
    }

    private static void endedOnce() {
        CampCards camp = household(0);
        camp.card(0);
        Due.is("13: ENDED", camp.end(0), 1);
        Due.is("13: it was", camp.end(0), -3);
        Due.is("13: the other is not", camp.end(1), 1);
        Due.is("13: none is left", camp.total(4), 0);
        camp.days(999);
        Due.is("13: nor on the last DAY", camp.end(0), -3);
        Due.is("12: a new one on it", camp.card(0), 2);
        Due.is("13: and its end", camp.end(2), 1);
    }

    private static void drawAheadOfTheCard() {
        CampCards camp = household(0);
        Due.rule(camp, "4", 0, 0);
        camp.days(5);
        camp.card(0);
        Due.is("14: DAY 0", camp.draw(1, 0), 0);
        Due.is("14: the DAY ahead of it", camp.draw(1, 4), 0);
        Due.is("14: its DAY", camp.draw(1, 5), 4);
        Due.is("14: the last DAY", camp.draw(1, 999), 4);
        Due.is("14: an older one on the DAY ahead", camp.draw(0, 4), 4);
    }

    private static void drawFromItsEndOn() {
        CampCards camp = household(0);
        camp.card(0);
        camp.card(0);
        Due.rule(camp, "4", 0, 0);
        camp.end(0);
        Due.is("14: ENDED on its first DAY", camp.draw(0, 0), 0);
        Due.is("14: and later", camp.draw(0, 999), 0);
        camp.days(3);
        camp.end(1);
        Due.is("14: the DAY ahead of its end", camp.draw(1, 2), 4);
        Due.is("14: the DAY of its end", camp.draw(1, 3), 0);
        Due.is("14: the DAY behind its end", camp.draw(1, 4), 0);
        Due.is("14: one not ENDED", camp.draw(2, 4), 4);
    }

    private static void drawBounds() {
        String[] texts = {"0-1", "0", "1", "9998", "9999", "9999+1", "9999*9999*9999", "0-9999*9999*9999"};
        int[] due = {0, 0, 1, 9998, 9999, 9999, 9999, 0};
        CampCards camp = household(0);
        for (int i = 0; i < texts.length; i++) {
            Due.rule(camp, texts[i], 0, 0);
            Due.is("14: DRAW by " + texts[i], camp.draw(0, 0), due[i]);
        }
    }

    private static void pointsBounds() {
        String[] texts = {"0-1", "0-9", "9999+1", "9999*9999*9999", "0-9999*9999*9999"};
        int[] due = {-1, -9, 10000, 1000000000, -1000000000};
        CampCards camp = household(0);
        for (int i = 0; i < texts.length; i++) {
            Due.rule(camp, texts[i], 1, 0);
            Due.is("15: POINTS are not cut, " + texts[i], camp.points(0, 0), due[i]);
        }
        Due.is("38: POINTS below 0 are no REFUSAL", camp.total(11), 0);
    }
}
