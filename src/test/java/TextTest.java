/** Promises 10 to 15: the tape, rules, cards, draws and points. */
public final class TextTest {
    public static void main(String[] args) {
        feed();
        faults();
        rule();
        inForce();
        worths();
        card();
        end();
        draw();
        points();
        Due.close("TextTest");
    }

    private static void feed() {
        CampCards camp = new CampCards();
        Due.is("10: one", camp.feed(1, 'n'), 1);
        Due.is("10: none", camp.feed(0, 0), -4);
        Due.is("10: below", camp.feed(Integer.MIN_VALUE, 0), -4);
        Due.is("10: nine", camp.feed(9, 0), -6);
        Due.is("10: greatest", camp.feed(Integer.MAX_VALUE, 0), -6);
        for (int i = 1; i <= 29; i++) {
            Due.is("10: more", camp.feed(2, '+' | 'k' << 8), 1 + 2 * i);
        }
        Due.is("10: above 60", camp.feed(2, 0), -6);
        Due.is("10: nothing changed", camp.total(9), 59);
        Due.is("10: 60", camp.feed(1, '+'), 60);
        Due.is("10: full", camp.feed(1, '+'), -6);
        Due.is("10: the end lacks something", camp.rule(0, 0), -80);
        Due.is("10: the lowest first", camp.feed(3, 'n' | '*' << 8 | '(' << 16 | '7' << 24), 3);
        Due.is("10: only n of them", camp.rule(0, 0), -23);
        Due.is("10: the highest of eight", camp.feed(8, 0xff29316e2b6e2b28L), 8);
        Due.is("10: place", camp.rule(0, 0), -21);
    }

    private static void faultIn(String text, int place) {
        CampCards camp = new CampCards();
        Due.is("11: " + text, Due.rule(camp, text, 0, 0), place < 0 ? 1 : -20 - place);
        Due.is("11: no byte is left of " + text, camp.total(9), 0);
        Due.is("11: RULES by " + text, camp.total(10), place < 0 ? 1 : 0);
        for (int what = 11; what <= 16; what++) {
            Due.is("11: a FAULT is no REFUSAL", camp.total(what), 0);
        }
    }

    private static void faults() {
        faultIn("", 0);
        faultIn("n", -1);
        faultIn("nkosdatc", 1);
        faultIn("n+k+o+s+d+a+t+c", -1);
        faultIn("N", 0);
        faultIn("b", 0);
        faultIn("+n", 0);
        faultIn("-1", 0);
        faultIn("n+", 2);
        faultIn("n--1", 2);
        faultIn("n n", 1);
        faultIn(" n", 0);
        faultIn("0000", -1);
        faultIn("12345", 4);
        faultIn("n1", 1);
        faultIn("1n", 1);
        faultIn("(n)1", 3);
        faultIn("(n)n", 3);
        faultIn("(n)(n)", 3);
        faultIn("n<k", 1);
        faultIn("n)", 1);
        faultIn("()", 1);
        faultIn("(n", 2);
        faultIn("(n<", 3);
        faultIn("(<n)", 1);
        faultIn("(n<)", 3);
        faultIn("(n<k", 4);
        faultIn("(n<k<o)", 4);
        faultIn("(n<=k)", 3);
        faultIn("(n+(k>o)=1)", -1);
        faultIn("((n<k)<(k<o))", -1);
        faultIn("(((((n)))))", -1);
        faultIn("((((((n))))))", 5);
        faultIn("(((((n+(", 7);
        faultIn("(((((n)+(n)))))", -1);
        faultIn("n+\u0000", 2);
        faultIn("\u0000", 0);
        faultIn("n\u00ab", 1);
        faultIn("\u00ee", 0);
        faultIn("1+1+1+1+1+1+1+1+1+1+1+1+1+1+1+1+1+1+1+1+1+1+1+1+1+1+1+1+11", -1);
        faultIn("n*k/o*2/3-1", -1);
        faultIn("n//k", 2);
    }

    private static void rule() {
        CampCards camp = new CampCards();
        camp.days(3);
        Due.type(camp, "n+");
        Due.is("11: purpose, ahead of -4", camp.rule(2, 2), -2);
        Due.is("11: purpose below, ahead of -6", camp.rule(-1, 1000), -2);
        Due.is("11: ahead of now", camp.rule(1, 2), -4);
        Due.is("11: above 999", camp.rule(1, 1000), -6);
        Due.is("11: refused, THE TAPE stays", camp.total(9), 2);
        Due.is("11: and goes on", Due.rule(camp, "1", 1, 999), 1);
        for (int i = 2; i <= 30; i++) {
            Due.is("11: the next", Due.rule(camp, "1", i % 2, 3), i);
        }
        Due.type(camp, "n+");
        Due.is("11: 30, ahead of a FAULT", camp.rule(0, 3), -6);
        Due.is("11: -4 ahead of 30", camp.rule(0, 0), -4);
        Due.is("11: THE TAPE stays by 30", camp.total(9), 2);
        Due.is("11: RULES", camp.total(10), 30);
    }

    private static void inForce() {
        CampCards camp = new CampCards();
        camp.house(0, 0);
        camp.person(0, 0, 0);
        camp.card(0);
        Due.rule(camp, "5", 0, 7);
        Due.rule(camp, "3", 0, 2);
        Due.rule(camp, "4", 0, 2);
        Due.rule(camp, "9", 1, 4);
        Due.is("14: without one", camp.draw(0, 1), 0);
        Due.is("14: the one told last of several", camp.draw(0, 2), 4);
        Due.is("14: of its PURPOSE", camp.draw(0, 6), 4);
        Due.is("14: the latest DAY, though told first", camp.draw(0, 7), 5);
        Due.is("14: to the end", camp.draw(0, 999), 5);
        Due.is("15: without one", camp.points(0, 3), 0);
        Due.is("15: of its PURPOSE", camp.points(0, 7), 9);
    }

    private static void worth(String text, int want) {
        CampCards camp = new CampCards();
        camp.house(0, 0);
        camp.person(0, 0, 0);
        Due.rule(camp, text, 1, 0);
        Due.is("15: " + text, camp.points(0, 0), want);
    }

    private static void worths() {
        worth("7-2-1", 4);
        worth("2+3*4", 14);
        worth("(2+3)*4", 20);
        worth("20/3/2", 3);
        worth("20/3*2", 12);
        worth("(0-7)/2", -3);
        worth("7/(0-2)", -3);
        worth("7/0", 0);
        worth("1+7/0*3", 1);
        worth("(0-9)", -9);
        worth("(2<3)+(3<3)*10", 1);
        worth("(3=3)+(2=3)*10", 1);
        worth("(3>2)+(3>3)*10", 1);
        worth("(1+1=4/2)", 1);
        worth("((2>1)=1)*6", 6);
        worth("9999*9999", 99980001);
        worth("9999*9999*9999", 1000000000);
        worth("9999*9999*9999-1", 999999999);
        worth("9999*9999*9999+1-1", 999999999);
        worth("0-9999*9999*9999-5", -1000000000);
        worth("0-9999*9999*9999-5+5", -999999995);
        worth("(0-9999)*9999*9999/9999", -100010);
        worth("9999*9999*9999*(9999*9999*9999)", 1000000000);
        worth("9999*9999*9999*(0-9999*9999*9999)", -1000000000);
        worth("0010*0001", 10);
    }

    private static void card() {
        CampCards camp = new CampCards();
        camp.house(0, 0);
        Due.is("12: no such", camp.card(1), -1);
        Due.is("12: below", camp.card(-1), -1);
        for (int i = 0; i < 40; i++) {
            Due.is("12: the next", camp.card(0), i);
        }
        Due.is("12: 40", camp.card(0), -6);
        Due.is("12: -1 ahead of 40", camp.card(1), -1);
        Due.is("12: CARDS", camp.total(4), 40);
    }

    private static void end() {
        CampCards camp = new CampCards();
        camp.house(0, 0);
        camp.card(0);
        camp.card(0);
        Due.is("13: no such", camp.end(2), -1);
        Due.is("13: below", camp.end(-1), -1);
        Due.is("13: ENDED", camp.end(1), 1);
        Due.is("13: it was", camp.end(1), -3);
        Due.is("13: one is not", camp.total(4), 1);
        camp.days(1);
        Due.is("13: and stays so", camp.end(1), -3);
    }

    private static CampCards household() {
        CampCards camp = new CampCards();
        camp.days(10);
        camp.house(0, 0);
        camp.house(1, 0);
        camp.person(0, 10 - 1824, 1);
        camp.person(0, 10 - 21900, 2);
        camp.person(0, 10 - 9000, 3);
        camp.person(1, 10 - 100, 4);
        camp.days(2);
        camp.card(0);
        camp.days(1);
        camp.state(2, 2);
        camp.state(1, 1);
        return camp;
    }

    private static void draw() {
        CampCards camp = household();
        camp.card(0);
        camp.card(1);
        Due.rule(camp, "n*1000+k*100+o*10+s+d*0", 0, 13);
        Due.is("14: one is OUT, one SICK", camp.draw(0, 13), 2001);
        Due.is("14: ahead of the RULE", camp.draw(0, 12), 0);
        Due.is("14: ahead of the CARD", camp.draw(1, 12), 0);
        Due.is("14: another HOUSE", camp.draw(2, 13), 1100);
        camp.state(1, 0);
        Due.is("14: 21903 DAYS old", camp.draw(0, 13), 3011);
        camp.days(1);
        Due.rule(camp, "d*10", 0, 14);
        Due.is("14: DAYS since the CARD", camp.draw(0, 14), 20);
        Due.is("14: DAYS ahead", camp.draw(0, 999), 9870);
        Due.rule(camp, "a+t+c+5", 0, 15);
        Due.is("14: letters of POINTS", camp.draw(0, 15), 5);
        Due.rule(camp, "0-1", 0, 16);
        Due.is("14: 0 at least", camp.draw(0, 16), 0);
        Due.rule(camp, "9999+1", 0, 17);
        Due.is("14: 9999 at most", camp.draw(0, 17), 9999);
        camp.end(0);
        Due.is("14: from its end on", camp.draw(0, 14), 0);
        Due.is("14: and later", camp.draw(0, 17), 0);
        Due.is("14: ahead of its end", camp.draw(0, 13), 3011);
        Due.is("14: no such", camp.draw(3, -1), -1);
        Due.is("14: below", camp.draw(0, -1), -4);
        Due.is("14: above", camp.draw(0, 1000), -6);
        ages();
    }

    private static void ages() {
        CampCards camp = new CampCards();
        camp.house(0, 0);
        camp.person(0, -1824, 0);
        camp.person(0, -21900, 0);
        camp.card(0);
        Due.rule(camp, "k*10+o", 0, 0);
        Due.is("14: 1824 and 21900 DAYS old", camp.draw(0, 0), 10);
        Due.is("14: 1825 and 21901 DAYS old", camp.draw(0, 1), 1);
    }

    private static void points() {
        CampCards camp = household();
        Due.rule(camp, "n*1000+s*100+t*10+c", 1, 13);
        Due.is("15: SICK", camp.points(2, 13), 2133);
        Due.is("15: OUT", camp.points(1, 13), 2023);
        Due.is("15: later", camp.points(0, 20), 2020);
        Due.rule(camp, "k+o+d+6", 1, 14);
        Due.is("15: letters of DRAW", camp.points(0, 14), 6);
        Due.rule(camp, "k+o+d", 0, 14);
        Due.is("15: after a DRAW", camp.draw(0, 20) * 1000 + camp.points(0, 14), 8006);
        camp.days(2);
        Due.rule(camp, "a", 1, 15);
        Due.is("15: 1829 DAYS by 365", camp.points(0, 15), 5);
        Due.is("15: 21905 DAYS by 365", camp.points(1, 15), 60);
        Due.is("15: 105 DAYS by 365", camp.points(3, 15), 0);
        Due.is("15: 365 DAYS", camp.points(3, 275), 1);
        Due.is("15: 364 DAYS", camp.points(3, 274), 0);
        Due.rule(camp, "c*100", 1, 15);
        camp.days(30);
        camp.person(1, 0, 0);
        Due.is("15: ahead of its coming", camp.points(4, 15), -3000);
        Due.is("15: no such", camp.points(5, -1), 1000000001);
        Due.is("15: below 0", camp.points(-1, 0), 1000000001);
        Due.is("15: below", camp.points(0, -1), 1000000004);
        Due.is("15: above", camp.points(0, 1000), 1000000006);
        Due.is("15: NOBODY counted", camp.total(11), 2);
        Due.is("15: BELOW counted", camp.total(14), 1);
        Due.is("15: ROOM counted", camp.total(16), 1);
    }
}
