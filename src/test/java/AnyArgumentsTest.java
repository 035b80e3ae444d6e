import java.lang.management.ManagementFactory;
import java.lang.reflect.Method;
import java.util.ArrayList;
import java.util.List;
import java.util.Random;

/**
 * Any arguments in any state: no call throws, a refused one changes nothing but the refusals, one that only tells
 * changes nothing at all, the same calls always give the same answers, and no call makes objects.
 */
final class AnyArgumentsTest {
    private static final int[] ODD = {-1, 0, 1, 47, 48, 255, 256, Integer.MAX_VALUE, Integer.MIN_VALUE, -2, 99, 12, 40, 41};
    private static final String TELL = " element holds says candOf paperOf time plan sits does measure best lawful watch duty"
        + " pieces roomOf left whatIf both relief retime hoursFor kinds judge together status ";
    private static final String BOOK = "paper 0 4 6;paper 0 6 8;paper 0 40 9;paper 1 3 3;paper 2 47 12;cand 4 7;cand 3 2;cand 0 0;"
        + "takes 0 0;takes 0 1;takes 0 2;takes 1 0;takes 1 2;takes 1 3;takes 2 4;night 0;night 2;room 2;room 1;turn 2";

    private static final List<Method> FACE = face();

    public static void main(String[] args) throws Exception {
        for (int i = 0; i < 600; i++) {
            run(i);
        }
        makesNothing();
        Due.finish();
    }

    private static List<Method> face() {
        List<Method> l = new ArrayList<>();
        for (Method m : ClashDays.class.getDeclaredMethods()) {
            if ((m.getModifiers() & java.lang.reflect.Modifier.PUBLIC) != 0) {
                l.add(m);
            }
        }
        l.sort((x, y) -> x.getName().compareTo(y.getName()));
        return l;
    }

    private static Object[] drawn(Method m, Random random) {
        Object[] with = new Object[m.getParameterCount()];
        for (int k = 0; k < with.length; k++) {
            int odd = ODD[random.nextInt(ODD.length)];
            int v = random.nextInt(4) == 0 ? odd : random.nextInt(random.nextInt(3) == 0 ? 50 : 6);
            with[k] = m.getParameterTypes()[k] == long.class ? (Object) Long.valueOf(v) : (Object) Integer.valueOf(v);
        }
        return with;
    }

    /** Calls with drawn arguments, and what they answered. */
    private static final class Run {
        final List<Method> methods = new ArrayList<>();
        final List<Object[]> with = new ArrayList<>();
        final List<Long> answers = new ArrayList<>();

        Run(int seed) {
            Random random = new Random(seed);
            for (int k = 0; k < 100; k++) {
                Method m = FACE.get(random.nextInt(FACE.size()));
                methods.add(m);
                with.add(drawn(m, random));
            }
        }

        long answer(ClashDays x, int k) throws Exception {
            return ((Number) methods.get(k).invoke(x, with.get(k))).longValue();
        }

        /** Whether a call was refused or only tells: then it changed nothing. */
        boolean changedNothing(int k) {
            String name = methods.get(k).getName();
            boolean mayBeAny = name.equals("seed") || name.equals("element") || name.equals("status");
            boolean refused = answers.get(k) <= -52 && answers.get(k) >= -56 && !mayBeAny;
            return refused || TELL.contains(" " + name + " ");
        }
    }

    private static ClashDays begun(int i) {
        return i % 3 == 0 ? new ClashDays() : Due.made(BOOK);
    }

    private static void run(int i) throws Exception {
        Run run = new Run(i);
        ClashDays all = begun(i);
        for (int k = 0; k < run.methods.size(); k++) {
            run.answers.add(run.answer(all, k));
        }
        ClashDays again = begun(i);
        ClashDays changes = begun(i);
        for (int k = 0; k < run.methods.size(); k++) {
            Due.due("call " + k + " of run " + i + " again", run.answer(again, k), run.answers.get(k));
            if (!run.changedNothing(k)) {
                Due.due("call " + k + " of run " + i + " without those that change nothing", run.answer(changes, k), run.answers.get(k));
            }
        }
        Due.sameReading("run " + i + " again", again, all);
        Due.sameReading("run " + i + " without those that change nothing", changes, begunAgain(run, i));
    }

    private static ClashDays begunAgain(Run run, int i) throws Exception {
        ClashDays x = begun(i);
        for (int k = 0; k < run.methods.size(); k++) {
            run.answer(x, k);
        }
        return x;
    }

    /** The objects are made ahead of what is measured; each is used for fewer than 512 calls. */
    private static void makesNothing() {
        com.sun.management.ThreadMXBean counts = (com.sun.management.ThreadMXBean) ManagementFactory.getThreadMXBean();
        long me = Thread.currentThread().getId();
        counts.getThreadAllocatedBytes(me);
        everyCall(Due.made(BOOK));
        ClashDays[] made = new ClashDays[40];
        for (int i = 0; i < made.length; i++) {
            made[i] = Due.made(BOOK);
        }
        long before = counts.getThreadAllocatedBytes(me);
        for (ClashDays x : made) {
            for (int i = 0; i < 5; i++) {
                everyCall(x);
            }
        }
        long bytes = counts.getThreadAllocatedBytes(me) - before;
        Due.due("bytes made by calls (" + bytes + ") are few", bytes < 20000 ? 1 : 0, 1);
    }

    private static void everyCall(ClashDays x) {
        x.row(0, 2, 8);
        x.set(0, 1, 10L);
        x.copy(0, 0, 0, 1, 4);
        x.show(1, 0);
        x.says(1, 0, 1);
        x.image();
        x.starts(0, 5);
        x.takes(0, 0, 0);
        x.night(0, 0);
        x.hours(25);
        x.turn(1);
        x.feed('r');
        x.feed('o');
        x.book();
        x.changes(3);
        x.retime(0);
        x.relief(0);
        x.hoursFor(0);
        x.whatIf(0, 0);
        x.both(0, 0, 1);
        x.kinds(0, 0, 2);
        x.judge(0, 0, 0, 2);
        x.best(0, 0, 2, 0);
        x.lawful(0, 0);
        x.measure(0, 0, 0);
        for (int what = 0; what < 7; what++) {
            x.plan(0, 0, what);
            x.candOf(0, what);
            x.paperOf(0, what);
            x.status(what);
        }
        x.sits(0, 0, 0, 1);
        x.does(0, 0, 6);
        x.time(0, 0);
        x.watch(2);
        x.pieces(0, 0, 1);
        x.left(0, 0, 6);
        x.element(0, 1);
        x.holds(0);
        x.back();
        x.paper(0, 1, 1);
        x.cand(0, 0);
        x.room(1);
        x.duty(0, 0);
        x.roomOf(0, 0, 0);
        x.together(0, 0, 0);
        x.back();
        x.seed(1);
        x.wipe();
    }
}
