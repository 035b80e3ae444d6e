import java.util.Random;

/** Runs of drawn calls, each answered by ClashDays and by the naive reading of the document. */
final class NaiveTest {
    private static Random random;
    private static ClashDays x;
    private static Naive y;
    private static String run;
    private static int calls;

    public static void main(String[] args) {
        for (int i = 0; i < 1000; i++) {
            random = new Random(1000 + i);
            run = "run " + i + " ";
            x = new ClashDays();
            y = new Naive();
            calls = 0;
            setUp(i % 4);
            // one step makes up to 100 calls, and what comes behind the 512th isn't promised
            while (calls <= CALLS - 100) {
                one(random.nextInt(60), i % 4);
            }
            y = null;
        }
        Due.finish();
    }

    private static final int CALLS = 512;

    private static void same(String call, long got, long want) {
        calls++;
        Due.due(run + call, got, want);
    }

    /** Mostly a number below n, now and then one that may not be. */
    private static int some(int n) {
        int odd = random.nextInt(24);
        if (odd == 0) {
            return n + random.nextInt(3);
        }
        if (odd == 1) {
            return -1 - random.nextInt(2);
        }
        return n > 0 ? random.nextInt(n) : 0;
    }

    private static void setUp(int way) {
        int papers = 3 + random.nextInt(8);
        int days = way == 0 ? 5 : 2;
        for (int p = 0; p < papers; p++) {
            int start = way == 3 ? 20 + random.nextInt(28) : random.nextInt(way == 1 ? 12 : 36);
            int day = random.nextInt(days);
            int length = 1 + random.nextInt(12);
            same("paper", x.paper(day, start, length), y.paper(day, start, length));
        }
        int cands = 1 + random.nextInt(6);
        for (int c = 0; c < cands; c++) {
            int kind = random.nextInt(6);
            int a = random.nextInt(10);
            same("cand", x.cand(kind, a), y.cand(kind, a));
            for (int p = 0; p < papers; p++) {
                if (random.nextInt(3) > 0) {
                    same("takes", x.takes(c, p, 1), y.takes(c, p, 1));
                }
            }
            int night = random.nextInt(2);
            same("night", x.night(c, night), y.night(c, night));
        }
        int rooms = random.nextInt(4);
        for (int r = 0; r < rooms; r++) {
            int seats = 1 + random.nextInt(3);
            same("room", x.room(seats), y.room(seats));
        }
    }

    private static void one(int call, int way) {
        int c = some(y.now.cands.size());
        int p = some(y.now.papers.size());
        int day = some(way == 0 ? 5 : 3);
        if (call < 20) {
            change(call, c, p, way);
        } else if (call < 32) {
            ask(call, c, p, day);
        } else if (call < 50) {
            compare(call, c, p, day);
        } else {
            shelves(call, c, day);
        }
    }

    private static void change(int call, int c, int p, int way) {
        switch (call) {
            case 0: {
                int d = some(5);
                int s = some(48);
                int n = 1 + some(12);
                same("paper", x.paper(d, s, n), y.paper(d, s, n));
                break;
            }
            case 1: {
                int s = some(48);
                same("starts", x.starts(p, s), y.starts(p, s));
                break;
            }
            case 2: {
                int kind = some(6);
                int a = some(10);
                same("cand", x.cand(kind, a), y.cand(kind, a));
                break;
            }
            case 3:
            case 4:
            case 5: {
                int is = some(2);
                same("takes", x.takes(c, p, is), y.takes(c, p, is));
                break;
            }
            case 6: {
                int v = some(2);
                same("night", x.night(c, v), y.night(c, v));
                break;
            }
            case 7: {
                int n = 1 + some(3);
                same("room", x.room(n), y.room(n));
                break;
            }
            case 8: {
                int v = 8 + some(33);
                same("hours", x.hours(v), y.hours(v));
                break;
            }
            case 9: {
                int v = some(9);
                same("turn", x.turn(v), y.turn(v));
                break;
            }
            case 10: {
                int n = 1 + random.nextInt(way == 2 ? 6 : 2);
                same("changes", x.changes(n), y.changes(n));
                break;
            }
            case 11: {
                int v = random.nextInt();
                same("seed", x.seed(v), y.seed(v));
                break;
            }
            case 12:
                same("image", x.image(), y.image());
                break;
            case 13:
                same("back", x.back(), y.back());
                break;
            default:
                book();
        }
    }

    private static final String[] WORDS = {"paper", "cand", "takes", "drops", "night", "room", "hours", "turn", "x"};

    private static void book() {
        StringBuilder text = new StringBuilder();
        int statements = random.nextInt(4);
        for (int i = 0; i < statements; i++) {
            if (i > 0) {
                text.append(random.nextInt(3) == 0 ? " ; " : ";");
            }
            text.append(WORDS[random.nextInt(random.nextInt(4) == 0 ? 9 : 8)]);
            int numbers = random.nextInt(8) == 0 ? random.nextInt(4) : NUMBERS[wordOf(text)];
            for (int k = 0; k < numbers; k++) {
                text.append(k == 0 && random.nextInt(3) == 0 ? "" : " ");
                text.append(random.nextInt(random.nextInt(3) == 0 ? 50 : 6));
            }
        }
        if (random.nextInt(8) == 0) {
            String odd = "; 0#A~9z";
            text.insert(random.nextInt(text.length() + 1), odd.charAt(random.nextInt(odd.length())));
        }
        for (int i = 0; i < text.length(); i++) {
            same("feed", x.feed(text.charAt(i)), y.feed(text.charAt(i)));
        }
        same("book of '" + text + "'", x.book(), y.book());
    }

    private static final int[] NUMBERS = {3, 2, 2, 2, 1, 1, 1, 1, 1};

    private static int wordOf(StringBuilder text) {
        for (int w = 0; w < 8; w++) {
            if (text.toString().endsWith(WORDS[w])) {
                return w;
            }
        }
        return 8;
    }

    private static void ask(int call, int c, int p, int day) {
        switch (call) {
            case 20:
                all(c, some(5));
                break;
            case 21:
                for (int what = -1; what <= 6; what++) {
                    same("candOf", x.candOf(c, what), y.candOf(c, what));
                    same("paperOf", x.paperOf(p, what), y.paperOf(p, what));
                }
                break;
            case 22:
                for (int what = -1; what <= 17; what++) {
                    same("status " + what, x.status(what), y.status(what));
                }
                break;
            case 23:
                same("time", x.time(c, p), y.time(c, p));
                same("whatIf", x.whatIf(c, p), y.whatIf(c, p));
                break;
            case 24:
            case 25: {
                int q = some(y.now.papers.size());
                same("both", x.both(c, p, q), y.both(c, p, q));
                break;
            }
            case 26:
                same("relief", x.relief(c), y.relief(c));
                break;
            case 27:
                if (random.nextInt(8) == 0) {
                    same("retime", x.retime(p), y.retime(p));
                }
                break;
            case 28:
                same("hoursFor", x.hoursFor(c), y.hoursFor(c));
                break;
            default: {
                int slot = some(48);
                same("together", x.together(p, day, slot), y.together(p, day, slot));
            }
        }
    }

    private static void all(int c, int day) {
        for (int what = -1; what <= 7; what++) {
            same("plan " + c + " " + day + " " + what, x.plan(c, day, what), y.plan(c, day, what));
        }
        for (int i = -1; i <= 4; i++) {
            int what = some(3);
            same("sits", x.sits(c, day, i, what), y.sits(c, day, i, what));
        }
        for (int slot = -1; slot <= 48; slot += 1 + random.nextInt(4)) {
            same("does", x.does(c, day, slot), y.does(c, day, slot));
        }
    }

    private static void compare(int call, int c, int p, int day) {
        switch (call) {
            case 32:
            case 33:
            case 34: {
                int by = some(5);
                int i = some(5) - 1;
                same("measure", x.measure(c, day, by), y.measure(c, day, by));
                same("best", x.best(c, day, by, i), y.best(c, day, by, i));
                same("best", x.best(c, day, by, -1), y.best(c, day, by, -1));
                break;
            }
            case 35:
                same("lawful", x.lawful(c, day), y.lawful(c, day));
                break;
            case 36:
            case 37: {
                int n = y.allDuties().size();
                int what = some(3);
                if (what != 2 || n <= 24) {
                    same("watch", x.watch(what), y.watch(what));
                }
                break;
            }
            case 38:
            case 39:
            case 40: {
                int i = some(y.allDuties().size());
                int what = some(5);
                same("duty", x.duty(i, what), y.duty(i, what));
                break;
            }
            case 41:
            case 42:
            case 43: {
                int what = some(2);
                same("pieces", x.pieces(c, day, what), y.pieces(c, day, what));
                break;
            }
            case 44:
            case 45:
            case 46: {
                int i = some(5);
                same("roomOf", x.roomOf(c, day, i), y.roomOf(c, day, i));
                break;
            }
            default: {
                int r = some(y.now.rooms.size());
                int slot = some(48);
                same("left", x.left(r, day, slot), y.left(r, day, slot));
            }
        }
    }

    private static void shelves(int call, int c, int day) {
        int s = some(4);
        int q = some(4);
        switch (call) {
            case 50: {
                int sort = random.nextInt(3) == 0 ? some(5) : 2;
                int n = random.nextInt(4) == 0 ? some(41) : 1 + random.nextInt(10);
                same("row", x.row(s, sort, n), y.row(s, sort, n));
                break;
            }
            case 51:
            case 52: {
                for (int i = 0; i < 4; i++) {
                    long v = random.nextInt(3) == 0 ? random.nextLong() : random.nextInt(12);
                    int place = some(8);
                    same("set", x.set(s, place, v), y.set(s, place, v));
                }
                break;
            }
            case 53: {
                int i = some(6);
                int j = some(6);
                int n = some(6);
                same("copy", x.copy(s, q, i, j, n), y.copy(s, q, i, j, n));
                break;
            }
            case 54:
                for (int i = -1; i <= 10; i++) {
                    same("element", x.element(s, i), y.element(s, i));
                }
                break;
            case 55:
                same("show", x.show(s, c), y.show(s, c));
                same("holds", x.holds(s), y.holds(s));
                break;
            case 56: {
                int kind = some(6);
                int n = 1 + some(12);
                same("says", x.says(s, kind, n), y.says(s, kind, n));
                break;
            }
            case 57:
            case 58:
                told(c, day, s);
                break;
            default:
                same("holds", x.holds(s), y.holds(s));
        }
    }

    /** Tells a row that has a chance: papers of one kind's times, or papers of a day. */
    private static void told(int c, int day, int s) {
        int n = random.nextInt(4);
        same("row", x.row(s, 2, 8), y.row(s, 2, 8));
        int kind = random.nextInt(6);
        for (int k = 0; k < n && !y.now.papers.isEmpty() && y.isCand(c); k++) {
            int p = random.nextInt(y.now.papers.size());
            int time = Naive.timeOf(kind, y.now.cands.get(c)[1], y.now.papers.get(p)[2]);
            same("set", x.set(s, 2 * k, p), y.set(s, 2 * k, p));
            same("set", x.set(s, 2 * k + 1, time), y.set(s, 2 * k + 1, time));
        }
        same("kinds", x.kinds(c, s, n), y.kinds(c, s, n));
        int take = some(5);
        int at = 0;
        for (int p = 0; p < y.now.papers.size() && y.isCand(c) && at < 8; p++) {
            if (y.now.papers.get(p)[0] == day && (y.now.taken.get(c).contains(p) || random.nextInt(6) == 0)) {
                same("set", x.set(s, at, p), y.set(s, at, p));
                at++;
            }
        }
        same("judge", x.judge(c, day, s, take), y.judge(c, day, s, take));
        same("judge", x.judge(c, day, s, at), y.judge(c, day, s, at));
    }
}
