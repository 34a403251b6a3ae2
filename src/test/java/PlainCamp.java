import java.util.ArrayDeque;
import java.util.ArrayList;
import java.util.Arrays;
import java.util.Deque;
import java.util.List;

/**
 * The document once more, word by word and by trying everything, for comparing.
 * It shares no code and, where there is a choice, no way of working with CampCards.
 */
final class PlainCamp {
    private int now = 0;
    private final int[] refused = new int[7];
    private final int[] heights = new int[144];
    private final List<int[]> houses = new ArrayList<>();   // cell, block
    private final List<int[]> persons = new ArrayList<>();  // house, born, tongue, came
    private final List<int[]> states = new ArrayList<>();   // person, state, day
    private final StringBuilder tape = new StringBuilder();
    private final List<String> texts = new ArrayList<>();
    private final List<int[]> rules = new ArrayList<>();    // purpose, day
    private final List<int[]> cards = new ArrayList<>();    // house, since, end (or 5000)
    private final List<int[]> handed = new ArrayList<>();   // day, kilos, weighed
    private final List<int[]> wells = new ArrayList<>();    // cell, yield, depth
    private final int[] hours = {6, 6, 6, 6};
    private final List<int[]> latrines = new ArrayList<>(); // cell, wall
    private final List<Integer> drains = new ArrayList<>();
    private final List<Integer> lanes = new ArrayList<>();
    private final List<Integer> queue = new ArrayList<>();
    private final List<int[]> counts = new ArrayList<>();   // block, day, v, told

    PlainCamp() {
        Arrays.fill(heights, 50);
    }

    private int no(int why) {
        refused[-why]++;
        return why;
    }

    private int no9(int why) {
        refused[-why]++;
        return 1000000000 - why;
    }

    private static boolean has(List<?> all, int i) {
        return i >= 0 && i < all.size();
    }

    private static boolean cell(int c) {
        return c >= 0 && c <= 143;
    }

    private static int far(int a, int b) {
        int dx = a % 12 - b % 12;
        int dy = a / 12 - b / 12;
        return Math.abs(dx) + Math.abs(dy);
    }

    int days(int n) {
        if (n < 1) return no(-4);
        if ((long) now + n > 999) return no(-6);
        return now += n;
    }

    int height(int c, int v) {
        if (!cell(c)) return no(-1);
        if (v < 0) return no(-4);
        if (v > 99) return no(-6);
        int was = heights[c];
        heights[c] = v;
        return was;
    }

    private int downOf(int c) {
        int found = -9;
        for (int other = 0; other < 144; other++) {
            if (far(c, other) != 1 || heights[other] >= heights[c]) continue;
            if (found == -9 || heights[other] < heights[found]) found = other;
        }
        return found;
    }

    int down(int c) {
        return cell(c) ? downOf(c) : no(-1);
    }

    int house(int c, int b) {
        if (!cell(c) || b < 0 || b > 3) return no(-1);
        for (int[] h : houses) if (h[0] == c) return no(-3);
        if (houses.size() == 30) return no(-6);
        houses.add(new int[] {c, b});
        return houses.size() - 1;
    }

    int person(int h, int born, int tongue) {
        if (!has(houses, h)) return no(-1);
        if (tongue < 0 || tongue > 5) return no(-2);
        if (born < -36500) return no(-4);
        if (born > now || persons.size() == 60) return no(-6);
        persons.add(new int[] {h, born, tongue, now});
        return persons.size() - 1;
    }

    private int stateAt(int p, int day) {
        if (persons.get(p)[3] > day) return -9;
        int state = 0;
        for (int[] s : states) if (s[0] == p && s[2] <= day) state = s[1];
        return state;
    }

    private boolean isHere(int p, int day) {
        int s = stateAt(p, day);
        return s == 0 || s == 2;
    }

    private List<Integer> hereOf(int h, int day) {
        List<Integer> found = new ArrayList<>();
        for (int p = 0; p < persons.size(); p++) if (persons.get(p)[0] == h && isHere(p, day)) found.add(p);
        return found;
    }

    int state(int p, int s) {
        if (!has(persons, p)) return no(-1);
        if (s < 0 || s > 4) return no(-2);
        if (stateAt(p, now) == 4) return no(-3);
        if (states.size() == 150) return no(-6);
        states.add(new int[] {p, s, now});
        return states.size();
    }

    private int noDay(int day) {
        return day < 0 ? -4 : day > 999 ? -6 : 0;
    }

    int stateOf(int p, int day) {
        if (!has(persons, p)) return no(-1);
        return noDay(day) != 0 ? no(noDay(day)) : stateAt(p, day);
    }

    int here(int h, int day) {
        if (!has(houses, h)) return no(-1);
        return noDay(day) != 0 ? no(noDay(day)) : hereOf(h, day).size();
    }

    int feed(int n, long bytes) {
        if (n < 1) return no(-4);
        if (n > 8 || tape.length() + n > 60) return no(-6);
        for (int i = 0; i < n; i++) {
            tape.append((char) (bytes & 255));
            bytes >>= 8;
        }
        return tape.length();
    }

    /** A machine with a stack: which byte can stand next depends on what it expects and on the open brackets. */
    static int faultOf(String text) {
        Deque<Boolean> open = new ArrayDeque<>();
        boolean wantsUnit = true;
        int digits = 0;
        for (int i = 0; i < text.length(); i++) {
            char c = text.charAt(i);
            if (wantsUnit) {
                if (c >= '0' && c <= '9') {
                    digits = 1;
                    wantsUnit = false;
                } else if (c != 0 && "nkosdatc".indexOf(c) >= 0) {
                    digits = 0;
                    wantsUnit = false;
                } else if (c == '(' && open.size() < 5) {
                    open.push(false);
                } else {
                    return i;
                }
            } else if (c >= '0' && c <= '9' && digits >= 1 && digits <= 3) {
                digits++;
            } else if (c == '+' || c == '-' || c == '*' || c == '/') {
                wantsUnit = true;
            } else if ((c == '<' || c == '=' || c == '>') && !open.isEmpty() && !open.peek()) {
                open.pop();
                open.push(true);
                wantsUnit = true;
            } else if (c == ')' && !open.isEmpty()) {
                open.pop();
                digits = 0;
            } else {
                return i;
            }
        }
        return wantsUnit || !open.isEmpty() ? text.length() : -1;
    }

    int rule(int purpose, int day) {
        if (purpose != 0 && purpose != 1) return no(-2);
        if (day < now) return no(-4);
        if (day > 999 || rules.size() == 30) return no(-6);
        String text = tape.toString();
        tape.setLength(0);
        int fault = faultOf(text);
        if (fault >= 0) return -20 - fault;
        rules.add(new int[] {purpose, day});
        texts.add(text);
        return rules.size();
    }

    private static int rankOf(char sign) {
        return sign == '(' ? 0 : "<=>".indexOf(sign) >= 0 ? 1 : "+-".indexOf(sign) >= 0 ? 2 : 3;
    }

    private static void step(Deque<Long> worths, char sign) {
        long right = worths.pop();
        long left = worths.pop();
        long worth;
        if (sign == '+') worth = left + right;
        else if (sign == '-') worth = left - right;
        else if (sign == '*') worth = left * right;
        else if (sign == '/') worth = right == 0 ? 0 : left / right;
        else if (sign == '<') worth = left < right ? 1 : 0;
        else if (sign == '=') worth = left == right ? 1 : 0;
        else worth = left > right ? 1 : 0;
        worths.push(Math.max(-1000000000L, Math.min(1000000000L, worth)));
    }

    /** By two stacks, signs and worths; letters as in "nkosdatc". */
    static int worthOf(String text, int[] letters) {
        Deque<Character> signs = new ArrayDeque<>();
        Deque<Long> worths = new ArrayDeque<>();
        for (int i = 0; i < text.length(); i++) {
            char c = text.charAt(i);
            if (c >= '0' && c <= '9') {
                boolean goesOn = i > 0 && text.charAt(i - 1) >= '0' && text.charAt(i - 1) <= '9';
                worths.push((goesOn ? worths.pop() * 10 : 0) + c - '0');
            } else if ("nkosdatc".indexOf(c) >= 0) {
                worths.push((long) letters["nkosdatc".indexOf(c)]);
            } else if (c == '(') {
                signs.push(c);
            } else if (c == ')') {
                while (signs.peek() != '(') step(worths, signs.pop());
                signs.pop();
            } else {
                while (!signs.isEmpty() && rankOf(signs.peek()) >= rankOf(c)) step(worths, signs.pop());
                signs.push(c);
            }
        }
        while (!signs.isEmpty()) step(worths, signs.pop());
        return (int) (long) worths.pop();
    }

    private int worthOn(int purpose, int day, int[] letters) {
        for (int d = day; d >= 0; d--) {
            for (int r = rules.size() - 1; r >= 0; r--) {
                if (rules.get(r)[0] == purpose && rules.get(r)[1] == d) return worthOf(texts.get(r), letters);
            }
        }
        return 0;
    }

    int card(int h) {
        if (!has(houses, h)) return no(-1);
        if (cards.size() == 40) return no(-6);
        cards.add(new int[] {h, now, 5000});
        return cards.size() - 1;
    }

    int end(int c) {
        if (!has(cards, c)) return no(-1);
        if (cards.get(c)[2] != 5000) return no(-3);
        cards.get(c)[2] = now;
        return 1;
    }

    int draw(int c, int day) {
        if (!has(cards, c)) return no(-1);
        if (noDay(day) != 0) return no(noDay(day));
        int[] card = cards.get(c);
        if (day < card[1] || day >= card[2]) return 0;
        int young = 0;
        int old = 0;
        int sick = 0;
        List<Integer> all = hereOf(card[0], day);
        for (int p : all) {
            int age = day - persons.get(p)[1];
            if (age < 1825) young++;
            if (age > 21900) old++;
            if (stateAt(p, day) == 2) sick++;
        }
        int worth = worthOn(0, day, new int[] {all.size(), young, old, sick, day - card[1], 0, 0, 0});
        return worth < 0 ? 0 : worth > 9999 ? 9999 : worth;
    }

    private int pointsOn(int p, int day) {
        int[] one = persons.get(p);
        int sick = stateAt(p, day) == 2 ? 1 : 0;
        int age = (day - one[1]) / 365;
        return worthOn(1, day, new int[] {hereOf(one[0], day).size(), 0, 0, sick, 0, age, one[2], day - one[3]});
    }

    int points(int p, int day) {
        if (!has(persons, p)) return no9(-1);
        return noDay(day) != 0 ? no9(noDay(day)) : pointsOn(p, day);
    }

    int handed(int c, int kilos, int weighed) {
        if (!has(cards, c)) return no(-1);
        if (cards.get(c)[2] != 5000) return no(-3);
        if (kilos < 1 || weighed < 0) return no(-4);
        if (kilos > 9999 || weighed > 9999 || handed.size() == 60) return no(-6);
        handed.add(new int[] {now, kilos, weighed});
        return handed.size();
    }

    private static boolean lets(int[] h, int lean) {
        int real = h[1] * (1000 - lean) / 1000;
        return real - h[2] <= 1 && h[2] - real <= 1;
    }

    int since(int what) {
        if (what < 0 || what > 1) return no(-2);
        for (int d = now + 1; d >= 0; d--) {
            for (int lean = 0; lean <= 300; lean++) {
                boolean fits = true;
                for (int[] h : handed) fits = fits && (h[0] < d ? lets(h, 0) : lets(h, lean));
                if (fits) return what == 0 ? d : lean;
            }
        }
        return -9;
    }

    private int pairsOf(int h, int g) {
        int pairs = 0;
        List<Integer> free = hereOf(g, now);
        for (int p : hereOf(h, now)) {
            for (int q : free) {
                int[] a = persons.get(p);
                int[] b = persons.get(q);
                if (a[2] != b[2] || a[1] - b[1] > 3 || b[1] - a[1] > 3) continue;
                pairs++;
                free.remove((Integer) q);
                break;
            }
        }
        return pairs;
    }

    private int noTwo(int a, int b) {
        if (!has(cards, a) || !has(cards, b) || a == b) return -1;
        return cards.get(a)[2] != 5000 || cards.get(b)[2] != 5000 ? -3 : 0;
    }

    int pairs(int a, int b) {
        if (noTwo(a, b) != 0) return no(noTwo(a, b));
        return pairsOf(cards.get(a)[0], cards.get(b)[0]);
    }

    int alike(int a, int b) {
        if (noTwo(a, b) != 0) return no(noTwo(a, b));
        int h = cards.get(a)[0];
        int g = cards.get(b)[0];
        if (h == g) return 2;
        int pairs = pairsOf(h, g);
        boolean all = pairs == hereOf(h, now).size() || pairs == hereOf(g, now).size();
        if (pairs > 1 && all && far(houses.get(h)[0], houses.get(g)[0]) < 4) return 2;
        return pairs == 0 ? 0 : 1;
    }

    int well(int c, int yield, int depth) {
        if (!cell(c)) return no(-1);
        if (yield < 1 || depth < 1) return no(-4);
        if (yield > 99 || depth > 9999 || wells.size() == 6) return no(-6);
        wells.add(new int[] {c, yield, depth});
        return wells.size() - 1;
    }

    int block(int b, int hour) {
        if (b < 0 || b > 3) return no(-1);
        if (hour < 4) return no(-4);
        if (hour > 20) return no(-6);
        int was = hours[b];
        hours[b] = hour;
        return was;
    }

    private int[] needs() {
        int[] need = new int[houses.size()];
        for (int h = 0; h < need.length; h++) need[h] = 5 * hereOf(h, now).size();
        return need;
    }

    private int[] wellsOf() {
        int[] at = new int[houses.size()];
        for (int h = 0; h < at.length; h++) {
            at[h] = -1;
            int least = 99;
            for (int w = 0; w < wells.size(); w++) {
                int f = far(houses.get(h)[0], wells.get(w)[0]);
                if (f < least) {
                    least = f;
                    at[h] = w;
                }
            }
        }
        return at;
    }

    private int[] servedAll(int[] begins, int[] need, int[] at) {
        int n = need.length;
        int[] got = new int[n];
        int[] hour = new int[n];
        Arrays.fill(hour, -9);
        for (int h = 0; h < n; h++) if (need[h] == 0) hour[h] = begins[houses.get(h)[1]];
        int[] left = new int[wells.size()];
        for (int w = 0; w < left.length; w++) left[w] = wells.get(w)[2];
        for (int t = 0; t <= 23; t++) {
            for (int w = 0; w < left.length; w++) {
                int spout = wells.get(w)[1];
                for (int h = 0; h < n; h++) {
                    if (at[h] != w || begins[houses.get(h)[1]] > t || got[h] >= need[h]) continue;
                    int lack = need[h] - got[h];
                    int takes = Math.min(lack, Math.min(spout, left[w]));
                    got[h] += takes;
                    spout -= takes;
                    left[w] -= takes;
                    if (takes < lack) break;
                    hour[h] = t;
                }
            }
        }
        return hour;
    }

    int served(int h) {
        return has(houses, h) ? servedAll(hours, needs(), wellsOf())[h] : no(-1);
    }

    int best(int what) {
        if (what < 0 || what > 5) return no(-2);
        int[] need = needs();
        int[] at = wellsOf();
        int[] best = null;
        for (int a = 6; a < 14; a++) for (int b = 6; b < 14; b++) for (int c = 6; c < 14; c++) for (int d = 6; d < 14; d++) {
            int not = 0;
            int sum = 0;
            for (int hour : servedAll(new int[] {a, b, c, d}, need, at)) {
                if (hour == -9) not++;
                else sum += hour;
            }
            if (best == null || not < best[4] || not == best[4] && sum < best[5]) best = new int[] {a, b, c, d, not, sum};
        }
        return best[what];
    }

    int latrine(int c, int wall) {
        if (!cell(c)) return no(-1);
        if (wall < 1) return no(-4);
        if (wall > 99999 || latrines.size() == 14) return no(-6);
        latrines.add(new int[] {c, wall});
        return latrines.size() - 1;
    }

    int drain(int c) {
        if (!cell(c)) return no(-1);
        if (drains.contains(c)) return no(-3);
        if (drains.size() == 10) return no(-6);
        drains.add(c);
        return drains.size() - 1;
    }

    private boolean drained(int c, int set) {
        int i = drains.indexOf(c);
        return i >= 0 && (set & 1 << i) != 0;
    }

    /** For each cell its own rain walks down from it until a drain. */
    private int[] comes(int rain, int set, int[] downs) {
        int[] comes = new int[144];
        for (int c = 0; c < 144; c++) {
            int at = c;
            comes[at] += rain;
            while (!drained(at, set) && downs[at] >= 0) {
                at = downs[at];
                comes[at] += rain;
            }
        }
        return comes;
    }

    private int[] downs() {
        int[] downs = new int[144];
        for (int c = 0; c < 144; c++) downs[c] = downOf(c);
        return downs;
    }

    int flow(int c, int rain) {
        if (!cell(c)) return no(-1);
        if (rain < 1) return no(-4);
        if (rain > 999) return no(-6);
        return comes(rain, 0, downs())[c];
    }

    private int foulWells(int rain, int set, int[] downs) {
        int[] comes = comes(rain, set, downs);
        int bits = 0;
        for (int[] l : latrines) {
            if (drained(l[0], set) || comes[l[0]] < l[1]) continue;
            for (int at = l[0]; at >= 0; at = drained(at, set) ? -1 : downs[at]) {
                for (int w = 0; w < wells.size(); w++) if (wells.get(w)[0] == at) bits |= 1 << w;
            }
        }
        return bits;
    }

    int foul(int rain, int set) {
        if (rain < 1) return no(-4);
        if (rain > 999) return no(-6);
        if (set < 0 || set >= 1 << drains.size()) return no(-1);
        return foulWells(rain, set, downs());
    }

    int drains(int rain) {
        if (rain < 1) return no(-4);
        if (rain > 999) return no(-6);
        int[] downs = downs();
        int found = -9;
        for (int set = 0; set < 1 << drains.size(); set++) {
            if (foulWells(rain, set, downs) != 0) continue;
            if (found == -9 || Integer.bitCount(set) < Integer.bitCount(found)) found = set;
        }
        return found;
    }

    private boolean cleared(int h, int set) {
        int i = lanes.indexOf(h);
        return i >= 0 && (set & 1 << i) != 0;
    }

    private static int spreads(int from, int to, int wind) {
        int way = to == from + 1 ? 0 : to == from + 12 ? 1 : to == from - 1 ? 2 : 3;
        return way == wind ? 1 : (way ^ 2) == wind ? 4 : 2;
    }

    /** Minute by minute: who burns lights its neighbours when their minute has come. */
    private int[] burn(int from, int wind, int set) {
        int[] at = new int[houses.size()];
        Arrays.fill(at, -9);
        if (cleared(from, set)) return at;
        at[from] = 0;
        for (int minute = 0; minute <= 130; minute++) {
            for (int h = 0; h < at.length; h++) {
                if (at[h] < 0 || at[h] > minute) continue;
                for (int g = 0; g < at.length; g++) {
                    if (at[g] >= 0 || cleared(g, set) || far(houses.get(h)[0], houses.get(g)[0]) != 1) continue;
                    if (at[h] + spreads(houses.get(h)[0], houses.get(g)[0], wind) == minute) at[g] = minute;
                }
            }
        }
        return at;
    }

    int minutes(int from, int to, int wind, int set) {
        if (!has(houses, from) || !has(houses, to) || set < 0 || set >= 1 << lanes.size()) return no(-1);
        if (wind < 0 || wind > 3) return no(-2);
        return burn(from, wind, set)[to];
    }

    int lane(int h) {
        if (!has(houses, h)) return no(-1);
        if (lanes.contains(h)) return no(-3);
        if (lanes.size() == 8) return no(-6);
        lanes.add(h);
        return lanes.size() - 1;
    }

    int lanes(int wind, int most) {
        if (wind < 0 || wind > 3) return no(-2);
        if (most < 1) return no(-4);
        if (most > 30) return no(-6);
        int found = -9;
        for (int set = 0; set < 1 << lanes.size(); set++) {
            if (found != -9 && Integer.bitCount(set) >= Integer.bitCount(found)) continue;
            boolean holds = true;
            for (int h = 0; h < houses.size() && holds; h++) {
                int burnt = 0;
                for (int minute : burn(h, wind, set)) if (minute >= 0) burnt++;
                holds = burnt <= most;
            }
            if (holds) found = set;
        }
        return found;
    }

    int queue(int p, boolean on) {
        if (!has(persons, p)) return no(-1);
        if (queue.contains(p) == on) return 0;
        if (on) queue.add(p);
        else queue.remove((Integer) p);
        return 1;
    }

    private List<Integer> listOn(int day) {
        List<Integer> list = new ArrayList<>();
        for (int p : queue) if (isHere(p, day)) list.add(p);
        list.sort((p, q) -> Integer.compare(pointsOn(q, day), pointsOn(p, day)));
        return list;
    }

    int list(int day, int i) {
        if (noDay(day) != 0) return no(noDay(day));
        List<Integer> list = listOn(day);
        return has(list, i) ? list.get(i) : -9;
    }

    int goes(int n) {
        if (n < 0) return no(-4);
        if (n > 60) return no(-6);
        List<Integer> list = listOn(now);
        List<Integer> first = list.subList(0, Math.min(n, list.size()));
        if (states.size() + first.size() > 150) return no(-6);
        for (int p : first) {
            states.add(new int[] {p, 3, now});
            queue.remove((Integer) p);
        }
        return first.size();
    }

    int count(int b, int day, int v) {
        if (b < 0 || b > 3) return no(-1);
        if (day < 0 || v < -1) return no(-4);
        if (day > now || v > 9999 || counts.size() == 40) return no(-6);
        counts.add(new int[] {b, day, v, now});
        return counts.size();
    }

    private int known(int b, int day, int k) {
        for (int d = day; d >= 0; d--) {
            for (int i = counts.size() - 1; i >= 0; i--) {
                int[] c = counts.get(i);
                if (c[0] == b && c[1] == d && c[2] != -1 && c[3] <= k) return c[2];
            }
        }
        return -9;
    }

    int counted(int b, int day, int k) {
        if (b < 0 || b > 3) return no(-1);
        if (day < 0 || k < 0) return no(-4);
        if (day > 999 || k > 999) return no(-6);
        return known(b, day, k);
    }

    int off(int b, int day) {
        if (b < 0 || b > 3) return no9(-1);
        if (noDay(day) != 0) return no9(noDay(day));
        if (known(b, day, now) == -9) return no9(-3);
        int here = 0;
        for (int h = 0; h < houses.size(); h++) if (houses.get(h)[1] == b) here += hereOf(h, day).size();
        return known(b, day, now) - here;
    }

    int total(int what) {
        if (what >= 11 && what <= 16) return refused[what - 10];
        int here = 0;
        for (int p = 0; p < persons.size(); p++) if (isHere(p, now)) here++;
        int open = 0;
        for (int[] c : cards) if (c[2] == 5000) open++;
        int[] all = {now, houses.size(), persons.size(), here, open, handed.size(), wells.size(), latrines.size(),
            queue.size(), tape.length(), rules.size()};
        return what >= 0 && what < all.length ? all[what] : -9;
    }
}
