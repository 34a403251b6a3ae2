import java.util.Random;

/** Random runs of calls, the same each time, on CampCards and on PlainCamp: every answer must be the same. */
public final class RandomRunsTest {
    private static final int RUNS = 700;
    /** The last act may go some calls beyond, and all totals are asked then: 512 in all at most. */
    private static final int CALLS = 484;
    private static final String UNITS = "nkosdatc";

    private final Random random;
    private final CampCards camp = new CampCards();
    private final PlainCamp plain = new PlainCamp();
    private final int run;
    /** The land of a run is a square of so many cells a side, so that things meet. */
    private final int side;
    private final int[] weights;
    private int calls = 0;
    private int dear = 0;

    private RandomRunsTest(int run) {
        this.run = run;
        random = new Random(7919L * run + 1);
        side = 2 + random.nextInt(11);
        weights = new int[41];
        for (int i = 0; i < weights.length; i++) {
            weights[i] = random.nextInt(4) == 0 ? 12 : 1 + random.nextInt(4);
        }
    }

    public static void main(String[] args) {
        for (int run = 0; run < RUNS && !Due.anyWrong(); run++) {
            new RandomRunsTest(run).play();
        }
        Due.close("RandomRunsTest");
    }

    private void play() {
        while (calls < CALLS && !Due.anyWrong()) {
            act(pick());
        }
        for (int what = -1; what <= 17; what++) {
            same("total " + what, camp.total(what), plain.total(what));
        }
    }

    private int pick() {
        int sum = 0;
        for (int weight : weights) sum += weight;
        int at = random.nextInt(sum);
        for (int i = 0; i < weights.length; i++) {
            at -= weights[i];
            if (at < 0) return i;
        }
        return 0;
    }

    private void same(String call, int got, int want) {
        calls++;
        if (got != want) {
            Due.is("run " + run + ", call " + calls + ": " + call, got, want);
        } else {
            Due.is("", 0, 0);
        }
    }

    private static String told(String name, int... args) {
        StringBuilder text = new StringBuilder(name);
        for (int arg : args) text.append(' ').append(arg);
        return text.toString();
    }

    /** Now and then a number outside, mostly one from least to most. */
    private int among(int least, int most) {
        int odd = random.nextInt(60);
        if (odd == 0) return least - 1;
        if (odd == 1) return most + 1;
        if (odd == 2) return random.nextBoolean() ? Integer.MIN_VALUE : Integer.MAX_VALUE;
        if (odd == 3) return random.nextBoolean() ? least : most;
        return most < least ? least : least + random.nextInt(most - least + 1);
    }

    private int cell() {
        return random.nextInt(60) == 0 ? among(0, 143) : 12 * random.nextInt(side) + random.nextInt(side) + (run % 2) * 13 * (12 - side);
    }

    private int house() {
        return among(0, plain.total(1) - 1);
    }

    private int person() {
        return among(0, plain.total(2) - 1);
    }

    private int day() {
        int now = plain.total(0);
        return random.nextInt(3) == 0 ? among(0, 999) : Math.min(999, among(Math.max(0, now - 6), now + 3));
    }

    private int born() {
        int now = plain.total(0);
        switch (random.nextInt(6)) {
            case 0: return now - 1825 - random.nextInt(8) + 4;
            case 1: return now - 21900 - random.nextInt(8) + 4;
            case 2: return among(-36500, now);
            case 3: return now - random.nextInt(800);
            default: return -9000 + random.nextInt(8);
        }
    }

    private int kilos;

    private int weighed() {
        if (random.nextInt(9) == 0) return among(0, 9999);
        int lean = plain.total(0) < 12 ? 0 : run * 37 % 301;
        return Math.max(0, kilos * (1000 - lean) / 1000 + random.nextInt(3) - 1);
    }

    private String text(int depth) {
        StringBuilder text = new StringBuilder(unit(depth));
        for (int i = random.nextInt(3); i > 0; i--) {
            text.append("+-*/".charAt(random.nextInt(4))).append(unit(depth));
        }
        return text.toString();
    }

    private String unit(int depth) {
        int kind = random.nextInt(10);
        if (kind < 3) return Integer.toString(random.nextInt(random.nextBoolean() ? 10 : 10000));
        if (kind < 7 || depth > 5) return "" + UNITS.charAt(random.nextInt(8));
        if (kind == 7) return "(" + text(depth + 1) + ")";
        return "(" + text(depth + 1) + "<=>".charAt(random.nextInt(3)) + text(depth + 1) + ")";
    }

    private String someText() {
        String text = text(0);
        if (random.nextInt(20) == 0) text = "((((((".substring(random.nextInt(3)) + text + "))))";
        if (random.nextInt(5) == 0) {
            int at = random.nextInt(text.length() + 1);
            String odd = "" + "nkosdatc0123456789+-*/()<=>xbN \u00ff\u0000".charAt(random.nextInt(31));
            text = text.substring(0, at) + odd + text.substring(random.nextBoolean() ? at : Math.min(text.length(), at + 1));
        }
        return text.length() > 60 ? text.substring(0, 60) : text;
    }

    private void type() {
        String text = someText();
        for (int from = 0; from < text.length(); from += 8) {
            int n = Math.min(8, text.length() - from);
            long bytes = random.nextLong();
            for (int i = 0; i < n; i++) {
                bytes = bytes & ~(255L << 8 * i) | (long) (text.charAt(from + i) & 255) << 8 * i;
            }
            same("feed " + n + " " + bytes, camp.feed(n, bytes), plain.feed(n, bytes));
        }
    }

    private void act(int kind) {
        if (kind < 10) actOnCamp(kind);
        else if (kind < 20) actOnCards(kind);
        else if (kind < 30) actOnLand(kind);
        else actOnLeave(kind);
    }

    private void actOnCamp(int kind) {
        int a;
        int b;
        int c;
        switch (kind) {
            case 0: a = random.nextInt(40) == 0 ? among(-3, 999) : 1 + random.nextInt(4);
                same(told("days", a), camp.days(a), plain.days(a)); break;
            case 1: case 2: a = cell(); b = random.nextBoolean() ? among(0, 99) : among(40, 55);
                same(told("height", a, b), camp.height(a, b), plain.height(a, b)); break;
            case 3: a = cell(); same(told("down", a), camp.down(a), plain.down(a)); break;
            case 4: case 5: a = cell(); b = among(0, 3);
                same(told("house", a, b), camp.house(a, b), plain.house(a, b)); break;
            case 6: case 7: a = house(); b = born(); c = random.nextInt(4) == 0 ? among(0, 5) : 1;
                same(told("person", a, b, c), camp.person(a, b, c), plain.person(a, b, c)); break;
            case 8: a = person(); b = random.nextInt(3) == 0 ? among(0, 4) : random.nextInt(3);
                same(told("state", a, b), camp.state(a, b), plain.state(a, b)); break;
            default: a = person(); b = day(); c = house();
                same(told("stateOf", a, b), camp.stateOf(a, b), plain.stateOf(a, b));
                same(told("here", c, b), camp.here(c, b), plain.here(c, b)); break;
        }
    }

    private void actOnCards(int kind) {
        int a;
        int b;
        switch (kind) {
            case 10: case 11: type(); a = among(0, 1); b = Math.min(1000, plain.total(0) + random.nextInt(5));
                if (random.nextInt(30) == 0) b = day();
                same(told("rule", a, b), camp.rule(a, b), plain.rule(a, b)); break;
            case 12: a = among(0, 9); same(told("feed", a), camp.feed(a, 0x6e2b6e2b6e2b6e2bL), plain.feed(a, 0x6e2b6e2b6e2b6e2bL)); break;
            case 13: a = house(); same(told("card", a), camp.card(a), plain.card(a)); break;
            case 14: if (random.nextInt(4) > 0) break;
                a = card(); same(told("end", a), camp.end(a), plain.end(a)); break;
            case 15: a = card(); b = day(); same(told("draw", a, b), camp.draw(a, b), plain.draw(a, b)); break;
            case 16: a = person(); b = day(); same(told("points", a, b), camp.points(a, b), plain.points(a, b)); break;
            case 17: a = card(); kilos = among(1, 9999); b = weighed();
                same(told("handed", a, kilos, b), camp.handed(a, kilos, b), plain.handed(a, kilos, b)); break;
            case 18: a = among(0, 1); same(told("since", a), camp.since(a), plain.since(a)); break;
            default: a = card(); b = card(); same(told("pairs", a, b), camp.pairs(a, b), plain.pairs(a, b));
                same(told("alike", a, b), camp.alike(a, b), plain.alike(a, b)); break;
        }
    }

    /** Those that aren't ended, and a few more: ended ones, or none. */
    private int card() {
        return among(0, plain.total(4) + 3);
    }

    private void actOnLand(int kind) {
        int a;
        int b;
        int c;
        switch (kind) {
            case 20: a = cell(); b = random.nextBoolean() ? among(1, 9) : among(1, 99);
                c = random.nextBoolean() ? among(1, 60) : among(1, 9999);
                same(told("well", a, b, c), camp.well(a, b, c), plain.well(a, b, c)); break;
            case 21: a = among(0, 3); b = among(4, 20); same(told("block", a, b), camp.block(a, b), plain.block(a, b)); break;
            case 22: a = house(); same(told("served", a), camp.served(a), plain.served(a)); break;
            case 23: if (dear++ > 5) break;
                for (a = -1; a <= 6; a += 1 + random.nextInt(4)) same(told("best", a), camp.best(a), plain.best(a));
                break;
            case 24: a = cell(); b = random.nextBoolean() ? among(1, 60) : among(1, 99999);
                same(told("latrine", a, b), camp.latrine(a, b), plain.latrine(a, b)); break;
            case 25: a = cell(); same(told("drain", a), camp.drain(a), plain.drain(a)); break;
            case 26: a = cell(); b = among(1, 999); same(told("flow", a, b), camp.flow(a, b), plain.flow(a, b)); break;
            case 27: case 28: a = rain(); b = random.nextInt(3) == 0 ? among(0, 1023) : random.nextInt(16);
                same(told("foul", a, b), camp.foul(a, b), plain.foul(a, b)); break;
            default: a = rain(); same(told("drains", a), camp.drains(a), plain.drains(a)); break;
        }
    }

    private int rain() {
        return random.nextBoolean() ? among(1, 20) : among(1, 999);
    }

    private void actOnLeave(int kind) {
        int a;
        int b;
        int c;
        switch (kind) {
            case 30: case 31: a = house(); b = house(); c = among(0, 3);
                int set = random.nextInt(3) == 0 ? among(0, 255) : random.nextInt(8);
                same(told("minutes", a, b, c, set), camp.minutes(a, b, c, set), plain.minutes(a, b, c, set)); break;
            case 32: a = house(); same(told("lane", a), camp.lane(a), plain.lane(a)); break;
            case 33: if (random.nextInt(4) > 0) break;
                a = among(0, 3); b = random.nextBoolean() ? among(1, 6) : among(1, 30);
                same(told("lanes", a, b), camp.lanes(a, b), plain.lanes(a, b)); break;
            case 34: case 35: a = person(); boolean on = random.nextInt(4) > 0;
                same(told("queue" + on, a), camp.queue(a, on), plain.queue(a, on)); break;
            case 36: a = day(); b = among(-1, plain.total(8)); same(told("list", a, b), camp.list(a, b), plain.list(a, b)); break;
            case 37: a = random.nextInt(6) == 0 ? among(0, 60) : random.nextInt(3);
                same(told("goes", a), camp.goes(a), plain.goes(a)); break;
            case 38: a = among(0, 3); b = Math.max(0, day() - random.nextInt(6)); c = random.nextInt(4) == 0 ? -1 : among(0, 9999);
                same(told("count", a, b, c), camp.count(a, b, c), plain.count(a, b, c)); break;
            case 39: a = among(0, 3); b = day(); c = day();
                same(told("counted", a, b, c), camp.counted(a, b, c), plain.counted(a, b, c));
                same(told("off", a, b), camp.off(a, b), plain.off(a, b)); break;
            default: a = among(0, 16); same(told("total", a), camp.total(a), plain.total(a)); break;
        }
    }
}
