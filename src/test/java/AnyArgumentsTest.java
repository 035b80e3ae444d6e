import java.lang.management.ManagementFactory;
import java.lang.reflect.Method;
import java.util.ArrayList;
import java.util.List;
import java.util.Random;

/**
 * Any arguments in any state: no call throws, a refused one changes nothing but the refusals, one that only tells
 * changes nothing at all, the same calls always give the same answers, and no call makes objects.
 */
final class AnyArgumentsTest {
    private static final int[] ODD = {-1, 0, 1, 47, 48, 255, 256, Integer.MAX_VALUE, Integer.MIN_VALUE, -2, 99, 12, 40, 41};
    private static final String TELL = " element holds says candOf paperOf time plan sits does measure best lawful watch duty"
        + " pieces roomOf left whatIf both relief retime hoursFor kinds judge together status ";
    private static final String BOOK = "paper 0 4 6;paper 0 6 8;paper 0 40 9;paper 1 3 3;paper 2 47 12;cand 4 7;cand 3 2;cand 0 0;"
        + "takes 0 0;takes 0 1;takes 0 2;takes 1 0;takes 1 2;takes 1 3;takes 2 4;night 0;night 2;room 2;room 1;turn 2";

    public static void main(String[] args) throws Exception {
        for (int i = 0; i < 150; i++) {
            long first = run(i, true);
            Due.due("run " + i + " again", run(i, false), first);
        }
        makesNothing();
        Due.finish();
    }

    private static List<Method> face() {
        List<Method> l = new ArrayList<>();
        for (Method m : ClashDays.class.getDeclaredMethods()) {
            if ((m.getModifiers() & java.lang.reflect.Modifier.PUBLIC) != 0) {
                l.add(m);
            }
        }
        l.sort((x, y) -> x.getName().compareTo(y.getName()));
        return l;
    }

    private static Object[] drawn(Method m, Random random) {
        Object[] with = new Object[m.getParameterCount()];
        for (int k = 0; k < with.length; k++) {
            int odd = ODD[random.nextInt(ODD.length)];
            int v = random.nextInt(4) == 0 ? odd : random.nextInt(random.nextInt(3) == 0 ? 50 : 6);
            with[k] = m.getParameterTypes()[k] == long.class ? (Object) Long.valueOf(v) : (Object) Integer.valueOf(v);
        }
        return with;
    }

    private static long run(int i, boolean look) throws Exception {
        Random random = new Random(i);
        ClashDays x = i % 3 == 0 ? new ClashDays() : Due.withBook(BOOK);
        long all = 0;
        for (int k = 0; k < 250; k++) {
            Method m = face().get(random.nextInt(45));
            Object[] with = drawn(m, random);
            long before = look ? seen(x) : 0;
            long answer = ((Number) m.invoke(x, with)).longValue();
            all = all * 31 + answer;
            boolean refused = answer <= -52 && answer >= -56 && !m.getName().equals("seed") && !m.getName().equals("element");
            if (look && (refused || TELL.contains(" " + m.getName() + " "))) {
                Due.due("what is behind " + m.getName() + " in run " + i, seen(x), before);
            }
        }
        return all;
    }

    /** All that can be seen of an object, but its refusals, in one number. */
    private static long seen(ClashDays x) {
        long all = 0;
        for (int what = 0; what < 10; what++) {
            all = all * 31 + x.status(what);
        }
        for (int s = 0; s < 8; s++) {
            all = all * 31 + x.holds(s);
            for (int i = 0; i < 40; i++) {
                all = all * 31 + x.element(s, i);
            }
        }
        for (int p = 0; p < x.status(0); p++) {
            for (int what = 0; what < 5; what++) {
                all = all * 31 + x.paperOf(p, what);
            }
        }
        for (int c = 0; c < x.status(1); c++) {
            for (int what = 0; what < 6; what++) {
                all = all * 31 + x.candOf(c, what);
            }
            for (int day = 0; day < 5; day++) {
                for (int what = 0; what < 7; what++) {
                    all = all * 31 + x.plan(c, day, what);
                }
                all = all * 31 + x.pieces(c, day, 1);
            }
        }
        for (int r = 0; r < x.status(2); r++) {
            all = all * 31 + x.left(r, 4, 47);
        }
        return all * 31 + x.watch(1);
    }

    private static void makesNothing() {
        com.sun.management.ThreadMXBean counts = (com.sun.management.ThreadMXBean) ManagementFactory.getThreadMXBean();
        ClashDays x = Due.withBook(BOOK);
        long me = Thread.currentThread().getId();
        counts.getThreadAllocatedBytes(me);
        seen(x);
        everyCall(x);
        long before = counts.getThreadAllocatedBytes(me);
        for (int i = 0; i < 200; i++) {
            everyCall(x);
        }
        long made = counts.getThreadAllocatedBytes(me) - before;
        Due.due("bytes made by calls (" + made + ") are few", made < 20000 ? 1 : 0, 1);
    }

    private static void everyCall(ClashDays x) {
        x.row(0, 2, 8);
        x.set(0, 1, 10L);
        x.copy(0, 0, 0, 1, 4);
        x.show(1, 0);
        x.says(1, 0, 1);
        x.image();
        x.starts(0, 5);
        x.takes(0, 0, 0);
        x.night(0, 0);
        x.hours(25);
        x.turn(1);
        x.feed('r');
        x.feed('o');
        x.book();
        x.changes(3);
        x.retime(0);
        x.relief(0);
        x.hoursFor(0);
        x.whatIf(0, 0);
        x.both(0, 0, 1);
        x.kinds(0, 0, 2);
        x.judge(0, 0, 0, 2);
        x.best(0, 0, 2, 0);
        x.lawful(0, 0);
        x.measure(0, 0, 0);
        seen(x);
        x.back();
        x.paper(0, 1, 1);
        x.cand(0, 0);
        x.room(1);
        x.duty(0, 0);
        x.roomOf(0, 0, 0);
        x.together(0, 0, 0);
        x.back();
        x.seed(1);
        x.wipe();
    }
}
