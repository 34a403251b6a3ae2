/** The boundary cases of part II of the document and promises 10 to 15, sentence by sentence. */
public final class TextEdgeTest {
    private static final String LETTERS = "nkosdatc";
    private static final String FULL = "1+1+1+1+1+1+1+1+1+1+1+1+1+1+1+1+1+1+1+1+1+1+1+1+1+1+1+1+1+";

    public static void main(String[] args) {
        bytesFromOneToEight();
        bytesOfALong();
        tapeToTheLast();
        emptyTape();
        sixtyBytes();
        eachByteFirst();
        eachByteBehindAUnit();
        eachByteInABracket();
        eachByteBehindABracket();
        digitsFromOneToFour();
        bracketsFiveDeep();
        bracketsThatLack();
        comparisons();
        signsFromTheLeft();
        divisions();
        heldAbove();
        heldBelow();
        heldInside();
        Due.close("TextEdgeTest");
    }

    private static CampCards withOne() {
        CampCards camp = new CampCards();
        camp.house(0, 0);
        camp.person(0, 0, 0);
        return camp;
    }

    private static void faultIn(String text, int place) {
        CampCards camp = new CampCards();
        Due.is("11: the FAULT of " + text, Due.rule(camp, text, 0, 0), -20 - place);
        Due.is("11: THE TAPE has none, " + text, camp.total(9), 0);
        Due.is("11: nothing is counted, " + text, camp.total(10), 0);
    }

    private static void sound(String text) {
        CampCards camp = new CampCards();
        Due.is("11: no FAULT in " + text, Due.rule(camp, text, 1, 999), 1);
        Due.is("11: THE TAPE has none behind " + text, camp.total(9), 0);
    }

    private static void worth(String text, int due) {
        CampCards camp = withOne();
        Due.is("15: no FAULT in " + text, Due.rule(camp, text, 1, 0), 1);
        Due.is("15: the worth of " + text, camp.points(0, 0), due);
    }

    private static void bytesFromOneToEight() {
        CampCards camp = new CampCards();
        int sum = 0;
        for (int n = 1; n <= 8; n++) {
            sum += n;
            Due.is("10: n " + n, camp.feed(n, 0x2b6e2b6e2b6e2b6eL), sum);
            Due.is("38: bytes on THE TAPE", camp.total(9), sum);
        }
        Due.is("10: n 0", camp.feed(0, 0), -4);
        Due.is("10: n 9", camp.feed(9, 0), -6);
        Due.is("10: refused, as many", camp.total(9), sum);
    }

    private static void bytesOfALong() {
        for (int n = 1; n <= 8; n++) {
            CampCards camp = withOne();
            Due.is("10: the lowest " + n + " of a long below 0", camp.feed(n, 0xb1b2b3b4b5b6b7b8L), n);
            Due.is("11: none of them stands", camp.rule(0, 0), -20);
            // the digits 1 2 3 4 + + + +, the lowest first
            camp.feed(n, 0x2b2b2b2b34333231L);
            int answer = camp.rule(1, 0);
            Due.is("10: only " + n + " come", answer, n <= 4 ? 1 : -25);
            Due.is("10: 1 first, " + n, camp.points(0, 0), n <= 4 ? 1234 / (int) Math.pow(10, 4 - n) : 0);
        }
        CampCards camp = withOne();
        Due.is("10: the highest of eight comes last", camp.feed(8, 0x372b302b302b302bL), 8);
        Due.is("11: + stands not first", camp.rule(1, 0), -20);
        Due.is("10: eight", camp.feed(8, 0x30302b302b302b37L), 8);
        Due.is("11: 7+0+0+00", camp.rule(1, 0), 1);
        Due.is("15: 7", camp.points(0, 0), 7);
    }

    private static void tapeToTheLast() {
        CampCards camp = new CampCards();
        for (int i = 1; i <= 60; i++) {
            Due.is("10: byte by byte", camp.feed(1, 'n'), i);
        }
        for (int n = 1; n <= 8; n++) {
            Due.is("10: above 60 by " + n, camp.feed(n, 0), -6);
        }
        Due.is("10: 60 stay", camp.total(9), 60);
        for (int n = 1; n <= 8; n++) {
            camp = new CampCards();
            for (int i = 0; i < 60 - n; i++) {
                camp.feed(1, 'n');
            }
            Due.is("10: 60 by the last " + n, camp.feed(n, 0), 60);
        }
    }

    private static void emptyTape() {
        CampCards camp = withOne();
        Due.is("11: an empty TAPE lacks something", camp.rule(0, 0), -20);
        Due.is("11: and again", camp.rule(1, 0), -20);
        Due.is("11: nothing is counted", camp.total(10), 0);
        for (int what = 11; what <= 16; what++) {
            Due.is("38: a FAULT is no REFUSAL", camp.total(what), 0);
        }
        Due.rule(camp, "5", 1, 0);
        Due.is("11: empty behind a RULE", camp.rule(1, 0), -20);
        Due.is("15: the RULE stays in force", camp.points(0, 0), 5);
    }

    private static void sixtyBytes() {
        worth(FULL.substring(0, 58) + "25", 54);
        worth("(((((" + FULL.substring(0, 48) + "99)))))", 24 + 99);
        faultIn(FULL + "1+", 60);
        faultIn(FULL + "1)", 59);
        faultIn(FULL + "(1", 60);
        faultIn("(" + FULL + "1", 60);
        faultIn("N" + FULL + "1", 0);
        CampCards camp = withOne();
        Due.rule(camp, FULL + "1", 1, 0);
        Due.rule(camp, "3", 1, 0);
        Due.is("11: a short text behind a long one", camp.points(0, 0), 3);
        Due.rule(camp, FULL + "44", 1, 0);
        Due.is("11: and a long one behind it", camp.points(0, 0), 29 + 44);
    }

    private static void eachByteFirst() {
        for (int b = 0; b < 256; b++) {
            String sign = String.valueOf((char) b);
            if (sign.equals("(")) {
                faultIn(sign, 1);
            } else if (b != 0 && (LETTERS + "0123456789").contains(sign)) {
                sound(sign);
            } else {
                faultIn(sign, 0);
            }
        }
    }

    private static void eachByteBehindAUnit() {
        for (int b = 0; b < 256; b++) {
            char sign = (char) b;
            boolean stands = b != 0 && "+-*/".indexOf(sign) >= 0;
            faultIn("n" + sign, stands ? 2 : 1);
            faultIn("1234" + sign, stands ? 5 : 4);
            faultIn("(n)" + sign, stands ? 4 : 3);
            if (b >= '0' && b <= '9') {
                sound("123" + sign);
            } else {
                faultIn("123" + sign, stands ? 4 : 3);
            }
        }
    }

    private static void eachByteInABracket() {
        for (int b = 0; b < 256; b++) {
            char sign = (char) b;
            boolean unit = b != 0 && (LETTERS + "0123456789(").indexOf(sign) >= 0;
            faultIn("(" + sign, unit ? 2 : 1);
            faultIn("(n<" + sign, unit ? 4 : 3);
            if (sign == ')') {
                sound("(n" + sign);
                sound("(n<k" + sign);
            } else {
                faultIn("(n" + sign, b != 0 && "+-*/<=>".indexOf(sign) >= 0 ? 3 : 2);
                faultIn("(n<k" + sign, b != 0 && "+-*/".indexOf(sign) >= 0 ? 5 : 4);
            }
        }
    }

    private static void eachByteBehindABracket() {
        for (int b = 0; b < 256; b++) {
            char sign = (char) b;
            if (sign == ')') {
                sound("((n)" + sign);
            } else {
                faultIn("((n)" + sign, b != 0 && "+-*/<=>".indexOf(sign) >= 0 ? 5 : 4);
            }
        }
    }

    private static void digitsFromOneToFour() {
        worth("0", 0);
        worth("9", 9);
        worth("00", 0);
        worth("099", 99);
        worth("0000", 0);
        worth("9999", 9999);
        faultIn("00000", 4);
        faultIn("99999", 4);
        faultIn("1+99999", 6);
        faultIn("(99999)", 5);
        faultIn("(1<99999)", 7);
    }

    private static void bracketsFiveDeep() {
        worth("(((((7)))))", 7);
        worth("(((((7)))))+(((((8)))))", 15);
        faultIn("((((((7", 5);
        worth("(((((7)+(8)))))", 15);
        faultIn("(((((n)+((", 9);
        faultIn("((((((", 5);
        faultIn("((((((((((", 5);
        faultIn("(1+(1+(1+(1+(1+(1", 15);
        faultIn("(n<(n<(n<(n<(n<(n", 15);
        faultIn("(((((n*(n)))))))", 7);
        worth("(0<(0<(0<(0<(0<1)))))", 1);
        faultIn("(((((1<2)<(1", 12);
        worth("((((1<2)<((1<2)+1))))", 1);
    }

    private static void bracketsThatLack() {
        String open = "";
        for (int depth = 1; depth <= 5; depth++) {
            open = open + "(";
            faultIn(open, depth);
            faultIn(open + ")", depth);
            faultIn(open + "n", depth + 1);
            faultIn(open + "n" + ")))))".substring(0, depth - 1), 2 * depth);
            faultIn(open + "n" + ")))))".substring(0, depth) + ")", 2 * depth + 1);
        }
        faultIn(")", 0);
        faultIn("()", 1);
        faultIn("n()", 1);
    }

    private static void comparisons() {
        int[][] rows = {{1, 2, 1, 0, 0}, {2, 2, 0, 1, 0}, {3, 2, 0, 0, 1}, {0, 0, 0, 1, 0}};
        for (int[] row : rows) {
            for (int sign = 0; sign < 3; sign++) {
                worth("(" + row[0] + "<=>".charAt(sign) + row[1] + ")", row[2 + sign]);
                worth("(0-" + row[1] + "<=>".charAt(sign) + "0-" + row[0] + ")", row[2 + sign]);
            }
        }
        faultIn("n<k", 1);
        faultIn("n=k", 1);
        faultIn("n>k", 1);
        faultIn("(n<k=o)", 4);
        faultIn("(n)<k", 3);
        faultIn("(<k)", 1);
        faultIn("(n<)", 3);
        faultIn("(n<<k)", 3);
    }

    private static void signsFromTheLeft() {
        worth("9-3-2", 4);
        worth("9-3+2", 8);
        worth("9-(3-2)", 8);
        worth("100/10/5", 2);
        worth("100/10*5", 50);
        worth("100*10/5", 200);
        worth("7/2*2", 6);
        worth("2*7/2", 7);
        worth("1+2*3-4/2", 5);
        faultIn("+", 0);
        faultIn("-1", 0);
        faultIn("1-", 2);
        faultIn("1*", 2);
        faultIn("1/", 2);
        faultIn("1+-1", 2);
        faultIn("1**1", 2);
    }

    private static void divisions() {
        worth("1/2", 0);
        worth("3/2", 1);
        worth("4/2", 2);
        worth("(0-1)/2", 0);
        worth("(0-3)/2", -1);
        worth("3/(0-2)", -1);
        worth("(0-3)/(0-2)", 1);
        worth("5/0", 0);
        worth("0/0", 0);
        worth("(0-5)/0", 0);
        worth("5/(1-1)", 0);
        worth("5/0+3", 3);
        worth("5/0*3+1", 1);
        worth("0/5", 0);
        worth("9999*9999*9999/0", 0);
    }

    /** 9999*9999*10 is 999800010: 199990 less than the bound. */
    private static void heldAbove() {
        worth("9999*9999*10+9999*20+9", 999999999);
        worth("9999*9999*10+9999*20+10", 1000000000);
        worth("9999*9999*10+9999*20+10-1", 999999999);
        worth("9999*9999*10+9999*20+11", 1000000000);
        worth("9999*9999*10+9999*20+11-1", 999999999);
        worth("9999*9999*10+9999*20+9999-9999", 999990001);
        worth("9999*9999*11", 1000000000);
        worth("9999*9999*9999*9999*9999*9999*9999*9999*9999*9999", 1000000000);
        worth("9999*9999*9999*(9999*9999*9999)*(9999*9999*9999)", 1000000000);
        worth("9999*9999*9999-(0-9999*9999*9999)", 1000000000);
        worth("(0-9999*9999*9999)*(0-9999*9999*9999)", 1000000000);
    }

    private static void heldBelow() {
        worth("0-9999*9999*10-9999*20-9", -999999999);
        worth("0-9999*9999*10-9999*20-10", -1000000000);
        worth("0-9999*9999*10-9999*20-10+1", -999999999);
        worth("0-9999*9999*10-9999*20-11", -1000000000);
        worth("0-9999*9999*10-9999*20-11+1", -999999999);
        worth("0-9999*9999*10-9999*20-9999+9999", -999990001);
        worth("(0-9999)*9999*11", -1000000000);
        worth("0-9999*9999*9999-9999*9999*9999", -1000000000);
        worth("(0-9999*9999*9999)*(9999*9999*9999)", -1000000000);
    }

    private static void heldInside() {
        worth("9999*9999*9999/9999", 100010);
        worth("9999*9999*9999/(0-9999)", -100010);
        worth("9999*(9999*9999*9999)/9999/9999", 10);
        worth("(9999*9999*9999=9999*9999*11)", 1);
        worth("(9999*9999*9999>9999*9999*11)", 0);
        worth("(9999*9999*9999+1=9999*9999*9999)", 1);
        worth("(9999*9999*10<9999*9999*11)", 1);
        worth("1-9999*9999*9999", -999999999);
    }
}
