import java.lang.management.ManagementFactory;
import java.lang.reflect.Method;
import java.lang.reflect.Modifier;
import java.util.ArrayList;
import java.util.Arrays;
import java.util.List;

/** What holds for all calls: 512 of them, none that throws, objects that don't know of one another, little room. */
public final class CallsTest {
    private static final int CALLS = 512;
    private static final int[] NUMBERS = {Integer.MIN_VALUE, Integer.MIN_VALUE + 1, -36501, -1000, -4, -1, 0, 1, 2, 3, 5, 8,
        29, 59, 143, 255, 999, 1000, 10000, 100000, Integer.MAX_VALUE - 1, Integer.MAX_VALUE};
    private static final long[] LONGS = {Long.MIN_VALUE, -1, 0, 'n', 0x6e2b6e2b6e2b6e2bL, Long.MAX_VALUE};
    private static final int MOST_FIELDS = 20000;

    public static void main(String[] args) throws ReflectiveOperationException {
        fiveHundredAndTwelveRefused();
        fiveHundredAndTwelveOfAll();
        objectsApart();
        noCallThrows(new CampCards());
        noCallThrows(LivedIn.camp());
        noCallThrows(full());
        room();
        Due.close("CallsTest");
    }

    private static void fiveHundredAndTwelveRefused() {
        CampCards camp = new CampCards();
        for (int i = 1; i < CALLS; i++) {
            camp.days(0);
        }
        Due.is("the 512th call answers as due", camp.total(14), CALLS - 1);
    }

    private static void fiveHundredAndTwelveOfAll() {
        CampCards camp = new CampCards();
        camp.house(0, 0);
        camp.person(0, 0, 0);
        camp.queue(0, true);
        for (int i = 4; i < CALLS; i++) {
            Due.is("call " + i, i % 2 == 0 ? camp.list(0, 0) : camp.best(5), 0);
        }
        Due.is("the 512th call answers as due", camp.best(4), 1);
    }

    private static void objectsApart() {
        CampCards camp = LivedIn.camp();
        CampCards other = new CampCards();
        other.days(500);
        other.height(77, 99);
        other.block(0, 20);
        Due.rule(other, "(((((9999*9999)))))", 0, 500);
        other.best(0);
        other.drains(999);
        Due.so("what another object is told changes nothing", Arrays.equals(LivedIn.probe(camp), LivedIn.probe(LivedIn.camp())));
        Due.is("nor the other way", other.total(1), 0);
    }

    private static CampCards full() {
        CampCards camp = new CampCards();
        for (int i = 0; i < 30; i++) {
            camp.house(i * 4, i % 4);
        }
        for (int i = 0; i < 60; i++) {
            camp.person(i % 30, 0, i % 6);
            camp.queue(i, true);
            camp.card(i % 30);
            camp.handed(0, 9999, 6999);
            camp.count(i % 4, 0, 9999);
            camp.latrine(i, 1);
            camp.drain(i);
            camp.lane(i);
            camp.well(i, 99, 9999);
            Due.rule(camp, "((((9999*9999*9999-n-t))))", i % 2, 0);
        }
        for (int i = 0; i < 150; i++) {
            camp.state(i % 60, 2);
        }
        Due.type(camp, "n+n+n+n+n+n+n+n+n+n+n+n+n+n+n+n+n+n+n+n+n+n+n+n+n+n+n+n+n+n+");
        return camp;
    }

    /** Ever more calls than 512, so no answer is looked at: a thrown one ends the test. */
    private static void noCallThrows(CampCards camp) throws ReflectiveOperationException {
        for (Method method : CampCards.class.getDeclaredMethods()) {
            if (Modifier.isPublic(method.getModifiers())) {
                for (Object[] arguments : argumentsFor(method.getParameterTypes())) {
                    Due.so(method.getName() + " answers", method.invoke(camp, arguments) instanceof Integer);
                }
            }
        }
    }

    private static List<Object[]> argumentsFor(Class<?>[] types) {
        List<Object[]> rows = new ArrayList<>();
        rows.add(new Object[0]);
        for (Class<?> type : types) {
            List<Object[]> longer = new ArrayList<>();
            for (Object[] row : rows) {
                for (Object value : valuesOf(type, types.length)) {
                    Object[] next = Arrays.copyOf(row, row.length + 1);
                    next[row.length] = value;
                    longer.add(next);
                }
            }
            rows = longer;
        }
        return rows;
    }

    private static List<Object> valuesOf(Class<?> type, int parameters) {
        List<Object> values = new ArrayList<>();
        if (type == boolean.class) {
            values.add(true);
            values.add(false);
        } else if (type == long.class) {
            for (long value : LONGS) {
                values.add(value);
            }
        } else {
            for (int i = 0; i < NUMBERS.length; i++) {
                if (parameters < 4 || i % 2 == 1) {
                    values.add(NUMBERS[i]);
                }
            }
        }
        return values;
    }

    /** An object and all its calls keep to a few rows: the room of a run is shared by all that it calls. */
    private static void room() {
        com.sun.management.ThreadMXBean meter = (com.sun.management.ThreadMXBean) ManagementFactory.getThreadMXBean();
        long thread = Thread.currentThread().getId();
        LivedIn.probe(LivedIn.camp());
        long before = meter.getThreadAllocatedBytes(thread);
        CampCards camp = new CampCards();
        camp.house(0, 0);
        camp.person(0, 0, 0);
        camp.card(0);
        camp.card(0);
        camp.well(0, 1, 9999);
        camp.latrine(0, 1);
        camp.queue(0, true);
        camp.drain(0);
        camp.lane(0);
        camp.feed(1, 'n');
        camp.rule(0, 0);
        for (int i = 0; i < 20; i++) {
            camp.best(i % 6);
            camp.days(1);
            camp.state(0, i % 2);
            camp.drains(1);
            camp.foul(1, 1);
            camp.flow(1, 1);
            camp.lanes(0, 1);
            camp.minutes(0, 0, 0, 0);
            camp.served(0);
            camp.list(0, 0);
            camp.goes(0);
            camp.draw(0, i);
            camp.points(0, i);
            camp.since(1);
            camp.alike(0, 1);
            camp.pairs(0, 1);
            camp.feed(2, 'n');
            camp.rule(0, i + 1);
            camp.count(0, 0, i);
            camp.off(0, i);
            camp.counted(0, i, i);
        }
        long bytes = meter.getThreadAllocatedBytes(thread) - before;
        Due.so("an object with 431 calls takes up " + bytes + " bytes", bytes < 4 * MOST_FIELDS);
    }
}
