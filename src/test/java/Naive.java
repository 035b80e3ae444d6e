import java.util.ArrayList;
import java.util.Arrays;
import java.util.List;
import java.util.TreeMap;

/**
 * A second, slow reading of the document, slot by slot and by trying everything, to compare ClashDays with.
 * It shares no code and no way of counting with it.
 */
final class Naive {
    static final int NONE = -1;

    /** What an image keeps. */
    static final class Things {
        List<int[]> papers = new ArrayList<>();
        List<int[]> cands = new ArrayList<>();
        List<List<Integer>> taken = new ArrayList<>();
        List<Integer> rooms = new ArrayList<>();
        int hours = 24;
        int turn = 1;
        int seed = 1;

        Things twin() {
            Things t = new Things();
            for (int[] p : papers) {
                t.papers.add(p.clone());
            }
            for (int[] c : cands) {
                t.cands.add(c.clone());
            }
            for (List<Integer> l : taken) {
                t.taken.add(new ArrayList<>(l));
            }
            t.rooms.addAll(rooms);
            t.hours = hours;
            t.turn = turn;
            t.seed = seed;
            return t;
        }

        int time(int c, int p) {
            return timeOf(cands.get(c)[0], cands.get(c)[1], papers.get(p)[2]);
        }

        int rest(int c) {
            int kind = cands.get(c)[0];
            int a = cands.get(c)[1];
            int rest = 1;
            if (kind == 2 || kind == 4) {
                rest += a / 3;
            }
            if (kind == 4) {
                rest += rest;
            }
            return kind == 5 ? rest + 1 : rest;
        }

        List<Integer> ofDay(int c, int day) {
            List<Integer> l = new ArrayList<>();
            for (int p = 0; p < papers.size(); p++) {
                if (papers.get(p)[0] == day && taken.get(c).contains(p)) {
                    l.add(p);
                }
            }
            return l;
        }

        /** Changes whether one takes a paper: false, where that is stuck. */
        boolean change(int c, int p) {
            List<Integer> l = taken.get(c);
            if (l.contains(p)) {
                l.remove((Integer) p);
                return true;
            }
            if (ofDay(c, papers.get(p)[0]).size() == 4) {
                return false;
            }
            l.add(p);
            return true;
        }

        int draw(int below) {
            seed = seed * 1103515245 + 12345;
            return ((seed >> 16) & 0xffff) % below;
        }
    }

    static int timeOf(int kind, int a, int length) {
        int time = length;
        if (kind == 1 || kind == 3) {
            time += (int) Math.ceil(length * a / 10.0);
        }
        if (kind == 3) {
            time++;
        }
        return kind == 5 ? time + 2 : time;
    }

    /** One candidate's day. */
    static final class Day {
        boolean can;
        int over = NONE;
        int free;
        int ahead;
        int came = NONE;
        List<Integer> order = new ArrayList<>();
        List<int[]> times = new ArrayList<>();
        boolean[] kept = new boolean[48];

        int keptSlots() {
            int n = 0;
            for (boolean k : kept) {
                n += k ? 1 : 0;
            }
            return n;
        }

        int does(int slot) {
            if (slot < ahead) {
                return came;
            }
            for (int i = 0; i < order.size(); i++) {
                if (times.get(i)[0] <= slot && slot < times.get(i)[1]) {
                    return order.get(i);
                }
            }
            return kept[slot] ? 20 : NONE;
        }

        /** First slots and slots behind the last of all runs of kept ones. */
        List<int[]> duties() {
            List<int[]> l = new ArrayList<>();
            int from = NONE;
            for (int t = 0; t <= 48; t++) {
                boolean k = t < 48 && kept[t];
                if (k && from == NONE) {
                    from = t;
                }
                if (!k && from != NONE) {
                    l.add(new int[] {from, t});
                    from = NONE;
                }
            }
            return l;
        }

        List<int[]> pieces() {
            List<int[]> l = new ArrayList<>(duties());
            if (came != NONE) {
                l.add(new int[] {0, ahead});
            }
            l.addAll(times);
            l.sort((x, y) -> x[0] - y[0]);
            return l;
        }
    }

    Things now = new Things();
    Things kept;
    StringBuilder tape = new StringBuilder();
    Object[] shelf = new Object[8];
    int[] sorts = new int[8];
    int[] refused = new int[5];

    int no(int number) {
        refused[-52 - number]++;
        return number;
    }

    static boolean in(long v, int least, int most) {
        return least <= v && v <= most;
    }

    boolean isCand(int c) {
        return in(c, 0, now.cands.size() - 1);
    }

    boolean isPaper(long p) {
        return in(p, 0, now.papers.size() - 1);
    }

    // ---- orders and plans

    static List<List<Integer>> rows(List<Integer> of) {
        List<List<Integer>> all = new ArrayList<>();
        if (of.isEmpty()) {
            all.add(new ArrayList<>());
        }
        for (Integer first : of) {
            List<Integer> others = new ArrayList<>(of);
            others.remove(first);
            for (List<Integer> row : rows(others)) {
                row.add(0, first);
                all.add(row);
            }
        }
        return all;
    }

    /** Begins and ends of an order, lawful or not. */
    static List<int[]> times(Things t, int c, List<Integer> row, int free) {
        List<int[]> l = new ArrayList<>();
        int next = free;
        for (int p : row) {
            int begin = Math.max(t.papers.get(p)[1], next);
            l.add(new int[] {begin, begin + t.time(c, p)});
            next = begin + t.time(c, p) + t.rest(c);
        }
        return l;
    }

    static boolean isLawful(Things t, int c, List<Integer> row, int free, int ahead) {
        int sum = ahead;
        for (int p : row) {
            sum += t.time(c, p);
        }
        for (int[] x : times(t, c, row, free)) {
            if (x[1] > 48) {
                return false;
            }
        }
        return sum <= t.hours;
    }

    static boolean[] keptBy(Things t, int c, List<Integer> row, int free, int ahead, int over) {
        List<int[]> l = times(t, c, row, free);
        boolean[] kept = new boolean[48];
        for (int slot = 0; slot < 48; slot++) {
            boolean waits = over != NONE && t.papers.get(over)[1] <= slot;
            boolean sits = slot < ahead;
            for (int i = 0; i < row.size(); i++) {
                waits |= t.papers.get(row.get(i))[1] <= slot && slot < l.get(i)[0];
                sits |= l.get(i)[0] <= slot && slot < l.get(i)[1];
            }
            kept[slot] = waits && !sits;
        }
        return kept;
    }

    static int measured(Things t, int c, List<Integer> row, int free, int ahead, int by) {
        List<int[]> l = times(t, c, row, free);
        int together = 0;
        int late = 0;
        int most = 0;
        int last = 0;
        for (int i = 0; i < row.size(); i++) {
            int behind = l.get(i)[0] - t.papers.get(row.get(i))[1];
            together += behind;
            late += behind > 0 ? 1 : 0;
            most = Math.max(most, behind);
            last = l.get(i)[1];
        }
        int kept = 0;
        for (boolean k : keptBy(t, c, row, free, ahead, NONE)) {
            kept += k ? 1 : 0;
        }
        return new int[] {kept, last, together, late, most}[by];
    }

    static void settle(Things t, int c, Day d, List<Integer> row, int over) {
        d.can = true;
        d.over = over;
        d.order = row;
        d.times = times(t, c, row, d.free);
        d.kept = keptBy(t, c, row, d.free, d.ahead, over);
    }

    static Day[] week(Things t, int c) {
        Day[] week = new Day[5];
        for (int day = 0; day < 5; day++) {
            Day d = new Day();
            week[day] = d;
            if (day > 0 && week[day - 1].over != NONE) {
                d.came = week[day - 1].over;
                d.ahead = t.time(c, d.came);
                d.free = d.ahead + t.rest(c);
            }
            List<Integer> all = t.ofDay(c, day);
            // least of [kept, paper over, place by rows] over all that there are
            TreeMap<Integer, Object[]> found = new TreeMap<>();
            for (List<Integer> row : rows(all)) {
                if (isLawful(t, c, row, d.free, d.ahead)) {
                    found.putIfAbsent(measured(t, c, row, d.free, d.ahead, 0), new Object[] {row, NONE});
                }
            }
            if (found.isEmpty() && t.cands.get(c)[2] == 1 && day != 4) {
                for (int over : all) {
                    List<Integer> others = new ArrayList<>(all);
                    others.remove((Integer) over);
                    for (List<Integer> row : rows(others)) {
                        boolean fits = t.time(c, over) <= 48 && t.time(c, over) <= t.hours;
                        if (fits && isLawful(t, c, row, d.free, d.ahead)) {
                            int n = 0;
                            for (boolean k : keptBy(t, c, row, d.free, d.ahead, over)) {
                                n += k ? 1 : 0;
                            }
                            found.putIfAbsent(n, new Object[] {row, over});
                        }
                    }
                }
            }
            if (!found.isEmpty()) {
                Object[] best = found.firstEntry().getValue();
                @SuppressWarnings("unchecked")
                List<Integer> row = (List<Integer>) best[0];
                settle(t, c, d, row, (Integer) best[1]);
            }
        }
        return week;
    }

    static int cants(Things t, int c) {
        int n = 0;
        for (Day d : week(t, c)) {
            n += d.can ? 0 : 1;
        }
        return n;
    }

    static int keptSlots(Things t, int c) {
        int n = 0;
        for (Day d : week(t, c)) {
            n += d.keptSlots();
        }
        return n;
    }

    List<List<Integer>> lawfulRows(int c, int day) {
        Day d = week(now, c)[day];
        List<List<Integer>> l = new ArrayList<>();
        for (List<Integer> row : rows(now.ofDay(c, day))) {
            if (isLawful(now, c, row, d.free, d.ahead)) {
                l.add(row);
            }
        }
        return l;
    }

    int clash(int c, int day) {
        Day d = week(now, c)[day];
        if (d.can) {
            return 0;
        }
        List<Integer> all = now.ofDay(c, day);
        for (int size = 1; size <= all.size(); size++) {
            for (int bits = 1; bits < 4096; bits++) {
                List<Integer> some = new ArrayList<>();
                for (int p = 0; p < 12; p++) {
                    if ((bits & 1 << p) != 0) {
                        some.add(p);
                    }
                }
                if (some.size() == size && all.containsAll(some)) {
                    boolean lawful = false;
                    for (List<Integer> row : rows(some)) {
                        lawful |= isLawful(now, c, row, d.free, d.ahead);
                    }
                    if (!lawful) {
                        return bits;
                    }
                }
            }
        }
        return 0;
    }

    // ---- the face

    int row(int s, int sort, int n) {
        if (!in(s, 0, 7) || !in(sort, 0, 4) || !in(n, 0, 40)) {
            return no(-52);
        }
        shelf[s] = new long[n];
        sorts[s] = sort;
        return 1;
    }

    int set(int s, int i, long v) {
        if (!in(s, 0, 7)) {
            return no(-52);
        }
        if (shelf[s] instanceof Integer) {
            return no(-53);
        }
        if (shelf[s] == null) {
            return no(-54);
        }
        long[] row = (long[]) shelf[s];
        if (!in(i, 0, row.length - 1)) {
            return no(-52);
        }
        switch (sorts[s]) {
            case 0: row[i] = v << 56 >> 56; break;
            case 1: row[i] = v << 48 >> 48; break;
            case 2: row[i] = v << 32 >> 32; break;
            case 3: row[i] = v; break;
            default: row[i] = v == 0 ? 0 : 1;
        }
        return 1;
    }

    int copy(int p, int q, int i, int j, int n) {
        if (!in(p, 0, 7) || !in(q, 0, 7)) {
            return no(-52);
        }
        if (shelf[p] instanceof Integer || shelf[q] instanceof Integer) {
            return no(-53);
        }
        if (shelf[p] != null && shelf[q] != null && sorts[p] != sorts[q]) {
            return no(-53);
        }
        if (shelf[p] == null || shelf[q] == null) {
            return no(-54);
        }
        long[] from = (long[]) shelf[p];
        long[] to = (long[]) shelf[q];
        if (i < 0 || j < 0 || n < 0 || (long) i + n > from.length || (long) j + n > to.length) {
            return no(-52);
        }
        long[] old = from.clone();
        for (int k = 0; k < n; k++) {
            to[j + k] = old[i + k];
        }
        return n;
    }

    long element(int s, int i) {
        if (in(s, 0, 7) && shelf[s] instanceof long[]) {
            long[] row = (long[]) shelf[s];
            return in(i, 0, row.length - 1) ? row[i] : 0;
        }
        return 0;
    }

    int holds(int s) {
        if (!in(s, 0, 7) || shelf[s] == null) {
            return NONE;
        }
        return shelf[s] instanceof Integer ? 10 + (Integer) shelf[s] : sorts[s];
    }

    int show(int s, int cand) {
        if (!in(s, 0, 7) || (cand != NONE && !isCand(cand))) {
            return no(-52);
        }
        shelf[s] = cand == NONE ? null : (Integer) cand;
        return 1;
    }

    int says(int s, int kind, int n) {
        if (!in(s, 0, 7) || !in(kind, 0, 5) || !in(n, 1, 12)) {
            return no(-52);
        }
        if (shelf[s] == null) {
            return no(-54);
        }
        if (!(shelf[s] instanceof Integer)) {
            return no(-53);
        }
        int c = (Integer) shelf[s];
        int own = now.cands.get(c)[0];
        boolean is = kind == 0 || kind == own || kind == 1 && own == 3 || kind == 2 && own == 4;
        if (!is) {
            return no(-53);
        }
        int time = timeOf(own, now.cands.get(c)[1], n);
        switch (kind) {
            case 0: return now.cands.get(c)[1];
            case 1: return time;
            case 3: return time;
            case 5: return time + now.rest(c);
            default: return now.rest(c);
        }
    }

    int paper(int day, int start, int length) {
        if (!in(day, 0, 4) || !in(start, 0, 47) || !in(length, 1, 12)) {
            return no(-52);
        }
        if (now.papers.size() == 12) {
            return no(-56);
        }
        now.papers.add(new int[] {day, start, length});
        return now.papers.size() - 1;
    }

    int starts(int paper, int v) {
        if (!isPaper(paper) || !in(v, 0, 47)) {
            return no(-52);
        }
        int was = now.papers.get(paper)[1];
        now.papers.get(paper)[1] = v;
        return was;
    }

    int cand(int kind, int a) {
        if (!in(kind, 0, 5) || !in(a, 0, 9)) {
            return no(-52);
        }
        if (now.cands.size() == 10) {
            return no(-56);
        }
        now.cands.add(new int[] {kind, a, 0});
        now.taken.add(new ArrayList<>());
        return now.cands.size() - 1;
    }

    int takes(int cand, int paper, int is) {
        if (!isCand(cand) || !isPaper(paper) || !in(is, 0, 1)) {
            return no(-52);
        }
        int was = now.taken.get(cand).contains(paper) ? 1 : 0;
        if (was != is && !now.change(cand, paper)) {
            return no(-55);
        }
        return was;
    }

    int night(int cand, int v) {
        if (!isCand(cand) || !in(v, 0, 1)) {
            return no(-52);
        }
        int was = now.cands.get(cand)[2];
        now.cands.get(cand)[2] = v;
        return was;
    }

    int room(int seats) {
        if (!in(seats, 1, 9)) {
            return no(-52);
        }
        if (now.rooms.size() == 6) {
            return no(-56);
        }
        now.rooms.add(seats);
        return now.rooms.size() - 1;
    }

    int hours(int v) {
        if (!in(v, 8, 40)) {
            return no(-52);
        }
        int was = now.hours;
        now.hours = v;
        return was;
    }

    int turn(int v) {
        if (!in(v, 0, 8)) {
            return no(-52);
        }
        int was = now.turn;
        now.turn = v;
        return was;
    }

    int feed(int letter) {
        if (!in(letter, 0, 255)) {
            return no(-52);
        }
        if (tape.length() == 250) {
            return no(-56);
        }
        tape.append((char) letter);
        return tape.length();
    }

    int wipe() {
        int was = tape.length();
        tape = new StringBuilder();
        return was;
    }

    /** First all tokens with their places, then what each statement wants, token by token. */
    int book() {
        String text = tape.toString();
        tape = new StringBuilder();
        List<String> tokens = new ArrayList<>();
        List<Integer> places = new ArrayList<>();
        java.util.regex.Matcher m = java.util.regex.Pattern.compile("[a-z]+|[0-9]+|;|[^ ]", java.util.regex.Pattern.DOTALL)
            .matcher(text);
        while (m.find()) {
            tokens.add(m.group());
            places.add(m.start());
        }
        places.add(text.length());
        Things old = now;
        now = now.twin();
        int at = 0;
        int statements = 0;
        while (true) {
            int bad = statement(tokens, at);
            if (bad != NONE) {
                now = old;
                no(-52);
                return -600 - places.get(Math.min(bad, tokens.size()));
            }
            statements++;
            at += 1 + wants(tokens.get(at)).size();
            if (at == tokens.size()) {
                return statements;
            }
            if (!tokens.get(at).equals(";")) {
                now = old;
                no(-52);
                return -600 - places.get(at);
            }
            at++;
        }
    }

    /** Bounds of the numbers behind a word; null: no word. */
    List<int[]> wants(String word) {
        int[] c = {0, now.cands.size() - 1};
        int[] p = {0, now.papers.size() - 1};
        switch (word) {
            case "paper": return Arrays.asList(new int[] {0, 4}, new int[] {0, 47}, new int[] {1, 12});
            case "cand": return Arrays.asList(new int[] {0, 5}, new int[] {0, 9});
            case "takes":
            case "drops": return Arrays.asList(c, p);
            case "night": return Arrays.asList(c);
            case "room": return Arrays.asList(new int[] {1, 9});
            case "hours": return Arrays.asList(new int[] {8, 40});
            case "turn": return Arrays.asList(new int[] {0, 8});
            default: return null;
        }
    }

    /** Does a statement: the token that can't stand, or NONE. */
    int statement(List<String> tokens, int at) {
        if (at >= tokens.size() || wants(tokens.get(at)) == null) {
            return at;
        }
        String word = tokens.get(at);
        boolean full = word.equals("paper") && now.papers.size() == 12
            || word.equals("cand") && now.cands.size() == 10 || word.equals("room") && now.rooms.size() == 6;
        if (full) {
            return at;
        }
        List<int[]> wants = wants(word);
        int[] v = new int[3];
        for (int k = 0; k < wants.size(); k++) {
            int place = at + 1 + k;
            if (place >= tokens.size() || !tokens.get(place).matches("[0-9]{1,2}")) {
                return place;
            }
            v[k] = Integer.parseInt(tokens.get(place));
            if (!in(v[k], wants.get(k)[0], wants.get(k)[1])) {
                return place;
            }
        }
        switch (word) {
            case "paper": paper(v[0], v[1], v[2]); break;
            case "cand": cand(v[0], v[1]); break;
            case "night": night(v[0], 1); break;
            case "room": room(v[0]); break;
            case "hours": hours(v[0]); break;
            case "turn": turn(v[0]); break;
            case "drops": takes(v[0], v[1], 0); break;
            default:
                if (!now.taken.get(v[0]).contains(v[1]) && !now.change(v[0], v[1])) {
                    return at + 2;
                }
        }
        return NONE;
    }

    int candOf(int cand, int what) {
        if (!isCand(cand) || !in(what, 0, 5)) {
            return no(-52);
        }
        if (what < 3) {
            return now.cands.get(cand)[what];
        }
        if (what == 3) {
            int bits = 0;
            for (int p : now.taken.get(cand)) {
                bits += 1 << p;
            }
            return bits;
        }
        return what == 4 ? now.rest(cand) : cants(now, cand);
    }

    int paperOf(int paper, int what) {
        if (!isPaper(paper) || !in(what, 0, 4)) {
            return no(-52);
        }
        if (what < 3) {
            return now.papers.get(paper)[what];
        }
        int takers = 0;
        int late = 0;
        for (int c = 0; c < now.cands.size(); c++) {
            takers += now.taken.get(c).contains(paper) ? 1 : 0;
            for (Day d : week(now, c)) {
                late += d.over == paper ? 1 : 0;
                int i = d.order.indexOf(paper);
                late += i >= 0 && d.times.get(i)[0] != now.papers.get(paper)[1] ? 1 : 0;
            }
        }
        return what == 3 ? takers : late;
    }

    int time(int cand, int paper) {
        return isCand(cand) && isPaper(paper) ? now.time(cand, paper) : no(-52);
    }

    int plan(int cand, int day, int what) {
        if (!isCand(cand) || !in(day, 0, 4) || !in(what, 0, 6)) {
            return no(-52);
        }
        Day d = week(now, cand)[day];
        switch (what) {
            case 0: return d.can ? 1 : 0;
            case 1: return d.keptSlots();
            case 2: return d.over;
            case 3: return d.free;
            case 4: return d.ahead;
            case 5: return d.order.size();
            default: return clash(cand, day);
        }
    }

    int sits(int cand, int day, int i, int what) {
        if (!isCand(cand) || !in(day, 0, 4) || !in(what, 0, 2)) {
            return no(-52);
        }
        Day d = week(now, cand)[day];
        if (!in(i, 0, d.order.size() - 1)) {
            return no(-52);
        }
        return what == 0 ? d.order.get(i) : d.times.get(i)[what - 1];
    }

    int does(int cand, int day, int slot) {
        if (!isCand(cand) || !in(day, 0, 4) || !in(slot, 0, 47)) {
            return no(-52);
        }
        return week(now, cand)[day].does(slot);
    }

    int measure(int cand, int day, int by) {
        if (!isCand(cand) || !in(day, 0, 4) || !in(by, 0, 4)) {
            return no(-52);
        }
        Day d = week(now, cand)[day];
        if (!d.can || d.over != NONE || d.order.isEmpty()) {
            return no(-55);
        }
        return measured(now, cand, d.order, d.free, d.ahead, by);
    }

    int best(int cand, int day, int by, int i) {
        if (!isCand(cand) || !in(day, 0, 4) || !in(by, 0, 4)) {
            return no(-52);
        }
        Day d = week(now, cand)[day];
        List<Integer> best = null;
        for (List<Integer> row : lawfulRows(cand, day)) {
            if (best == null || measured(now, cand, row, d.free, d.ahead, by)
                < measured(now, cand, best, d.free, d.ahead, by)) {
                best = row;
            }
        }
        if (best == null || best.isEmpty()) {
            return NONE;
        }
        if (i == NONE) {
            return measured(now, cand, best, d.free, d.ahead, by);
        }
        return in(i, 0, best.size() - 1) ? best.get(i) : no(-52);
    }

    int lawful(int cand, int day) {
        return isCand(cand) && in(day, 0, 4) ? lawfulRows(cand, day).size() : no(-52);
    }

    /** Candidate, day, first slot, slots, watcher, begin, end of each duty. */
    List<int[]> allDuties() {
        List<int[]> l = new ArrayList<>();
        for (int c = 0; c < now.cands.size(); c++) {
            Day[] week = week(now, c);
            for (int day = 0; day < 5; day++) {
                for (int[] x : week[day].duties()) {
                    l.add(new int[] {c, day, x[0], x[1] - x[0], NONE, day * 48 + x[0], day * 48 + x[1]});
                }
            }
        }
        l.sort((x, y) -> x[5] != y[5] ? x[5] - y[5] : x[0] - y[0]);
        List<Integer> ends = new ArrayList<>();
        for (int[] x : l) {
            int best = NONE;
            for (int w = 0; w < ends.size(); w++) {
                if (x[5] - ends.get(w) >= now.turn && (best == NONE || ends.get(w) > ends.get(best))) {
                    best = w;
                }
            }
            if (best == NONE) {
                best = ends.size();
                ends.add(0);
            }
            ends.set(best, x[6]);
            x[4] = best;
        }
        return l;
    }

    /** The largest set of duties, each two near, by trying: with a duty, or without it. */
    int atOnce(List<int[]> l, List<int[]> has, int from) {
        if (from == l.size()) {
            return has.size();
        }
        int most = has.size() + l.size() - from == 0 ? 0 : atOnceWithout(l, has, from);
        for (int[] x : has) {
            int[] y = l.get(from);
            if (y[5] >= x[6] + now.turn || x[5] >= y[6] + now.turn) {
                return most;
            }
        }
        List<int[]> more = new ArrayList<>(has);
        more.add(l.get(from));
        return Math.max(most, atOnce(l, more, from + 1));
    }

    private int atOnceWithout(List<int[]> l, List<int[]> has, int from) {
        return atOnce(l, has, from + 1);
    }

    int watch(int what) {
        if (!in(what, 0, 2)) {
            return no(-52);
        }
        List<int[]> l = allDuties();
        if (what == 0) {
            return l.size();
        }
        if (what == 2) {
            return atOnce(l, new ArrayList<>(), 0);
        }
        int n = 0;
        for (int[] x : l) {
            n = Math.max(n, x[4] + 1);
        }
        return n;
    }

    int duty(int i, int what) {
        List<int[]> l = allDuties();
        if (!in(i, 0, l.size() - 1) || !in(what, 0, 4)) {
            return no(-52);
        }
        return l.get(i)[what];
    }

    /** Seats left of each room in each slot, and each candidate's rooms (null: none) of a day. */
    int[][] left;
    int[][] roomsOf;
    int[] movesOf;

    void seat(int day) {
        left = new int[now.rooms.size()][48];
        for (int r = 0; r < now.rooms.size(); r++) {
            Arrays.fill(left[r], now.rooms.get(r));
        }
        roomsOf = new int[now.cands.size()][];
        movesOf = new int[now.cands.size()];
        for (int c = 0; c < now.cands.size(); c++) {
            List<int[]> pieces = week(now, c)[day].pieces();
            bestRow = null;
            bestMoves = 1000;
            tryRooms(pieces, new int[pieces.size()], 0, 0);
            roomsOf[c] = bestRow;
            movesOf[c] = bestRow == null ? NONE : bestMoves;
            for (int k = 0; bestRow != null && k < pieces.size(); k++) {
                for (int t = pieces.get(k)[0]; t < pieces.get(k)[1]; t++) {
                    left[bestRow[k]][t]--;
                }
            }
        }
    }

    int[] bestRow;
    int bestMoves;

    void tryRooms(List<int[]> pieces, int[] row, int k, int moves) {
        if (moves >= bestMoves) {
            return;
        }
        if (k == pieces.size()) {
            bestMoves = moves;
            bestRow = row.clone();
            return;
        }
        for (int r = 0; r < now.rooms.size(); r++) {
            boolean fits = true;
            for (int t = pieces.get(k)[0]; t < pieces.get(k)[1]; t++) {
                fits &= left[r][t] > 0;
            }
            if (fits) {
                row[k] = r;
                tryRooms(pieces, row, k + 1, moves + (k > 0 && row[k - 1] != r ? 1 : 0));
            }
        }
    }

    int pieces(int cand, int day, int what) {
        if (!isCand(cand) || !in(day, 0, 4) || !in(what, 0, 1)) {
            return no(-52);
        }
        if (what == 0) {
            return week(now, cand)[day].pieces().size();
        }
        seat(day);
        return movesOf[cand];
    }

    int roomOf(int cand, int day, int i) {
        if (!isCand(cand) || !in(day, 0, 4) || !in(i, 0, week(now, cand)[day].pieces().size() - 1)) {
            return no(-52);
        }
        seat(day);
        return roomsOf[cand] == null ? NONE : roomsOf[cand][i];
    }

    int left(int room, int day, int slot) {
        if (!in(room, 0, now.rooms.size() - 1) || !in(day, 0, 4) || !in(slot, 0, 47)) {
            return no(-52);
        }
        seat(day);
        return left[room][slot];
    }

    int whatIf(int cand, int paper) {
        if (!isCand(cand) || !isPaper(paper)) {
            return no(-52);
        }
        Things t = now.twin();
        return t.change(cand, paper) ? cants(t, cand) : no(-55);
    }

    int both(int cand, int p, int q) {
        if (!isCand(cand) || !isPaper(p) || !isPaper(q)) {
            return no(-52);
        }
        Things t = now.twin();
        return t.change(cand, p) && t.change(cand, q) ? keptSlots(t, cand) : no(-55);
    }

    int relief(int cand) {
        if (!isCand(cand)) {
            return no(-52);
        }
        int best = NONE;
        int fewest = 100;
        for (int p = 0; p < now.papers.size(); p++) {
            Things t = now.twin();
            if (t.change(cand, p) && cants(t, cand) < fewest) {
                fewest = cants(t, cand);
                best = p;
            }
        }
        return best;
    }

    int retime(int paper) {
        if (!isPaper(paper)) {
            return no(-52);
        }
        int best = NONE;
        int least = Integer.MAX_VALUE;
        for (int v = 0; v < 48; v++) {
            Things t = now.twin();
            t.papers.get(paper)[1] = v;
            int sum = 0;
            for (int c = 0; c < t.cands.size(); c++) {
                sum += 100000 * cants(t, c) + keptSlots(t, c);
            }
            if (sum < least) {
                least = sum;
                best = v;
            }
        }
        return best;
    }

    int hoursFor(int cand) {
        if (!isCand(cand)) {
            return no(-52);
        }
        for (int v = 8; v <= 40; v++) {
            Things t = now.twin();
            t.hours = v;
            if (cants(t, cand) == 0) {
                return v;
            }
        }
        return NONE;
    }

    int kinds(int cand, int s, int n) {
        if (!isCand(cand) || !in(s, 0, 7) || !in(n, 0, 12)) {
            return no(-52);
        }
        if (shelf[s] instanceof Integer) {
            return no(-53);
        }
        if (shelf[s] == null) {
            return no(-54);
        }
        long[] row = (long[]) shelf[s];
        if (row.length < n + n) {
            return no(-52);
        }
        int bits = 63;
        for (int k = 0; k < n; k++) {
            if (!isPaper(row[2 * k])) {
                return no(-55);
            }
            for (int kind = 0; kind < 6; kind++) {
                if (timeOf(kind, now.cands.get(cand)[1], now.papers.get((int) row[2 * k])[2]) != row[2 * k + 1]) {
                    bits &= ~(1 << kind);
                }
            }
        }
        return bits;
    }

    int judge(int cand, int day, int s, int n) {
        if (!isCand(cand) || !in(day, 0, 4) || !in(s, 0, 7) || !in(n, 0, 12)) {
            return no(-52);
        }
        if (shelf[s] instanceof Integer) {
            return no(-53);
        }
        if (shelf[s] == null) {
            return no(-54);
        }
        long[] row = (long[]) shelf[s];
        if (row.length < n) {
            return no(-52);
        }
        Day d = week(now, cand)[day];
        List<Integer> told = new ArrayList<>();
        for (int k = 0; k < n; k++) {
            if (!isPaper(row[k]) || !now.ofDay(cand, day).contains((int) row[k]) || told.contains((int) row[k])) {
                return k;
            }
            told.add((int) row[k]);
            if (!isLawful(now, cand, told, d.free, d.ahead)) {
                return k;
            }
        }
        return NONE;
    }

    int together(int paper, int day, int slot) {
        if (!isPaper(paper) || !in(day, 0, 4) || !in(slot, 0, 47)) {
            return no(-52);
        }
        int bits = 0;
        for (int c = 0; c < now.cands.size(); c++) {
            bits += week(now, c)[day].does(slot) == paper ? 1 << c : 0;
        }
        return bits;
    }

    int changes(int n) {
        if (!in(n, 1, 60)) {
            return no(-52);
        }
        if (now.cands.isEmpty() || now.papers.isEmpty()) {
            return no(-55);
        }
        int done = 0;
        for (int k = 0; k < n; k++) {
            int c = now.draw(now.cands.size());
            int p = now.draw(now.papers.size());
            done += now.change(c, p) ? 1 : 0;
        }
        return done;
    }

    int seed(int v) {
        int was = now.seed;
        now.seed = v;
        return was;
    }

    int image() {
        kept = now.twin();
        return 1;
    }

    int back() {
        if (kept == null) {
            return no(-55);
        }
        now = kept.twin();
        for (int s = 0; s < 8; s++) {
            if (shelf[s] instanceof Integer && (Integer) shelf[s] >= now.cands.size()) {
                shelf[s] = null;
            }
        }
        return 1;
    }

    int status(int what) {
        if (in(what, 12, 16)) {
            return refused[what - 12];
        }
        int n = 0;
        switch (what) {
            case 0: return now.papers.size();
            case 1: return now.cands.size();
            case 2: return now.rooms.size();
            case 3: return now.hours;
            case 4: return now.turn;
            case 5:
                for (List<Integer> l : now.taken) {
                    n += l.size();
                }
                return n;
            case 6:
                boolean[] cant = new boolean[5];
                for (int c = 0; c < now.cands.size(); c++) {
                    Day[] week = week(now, c);
                    for (int day = 0; day < 5; day++) {
                        cant[day] |= !week[day].can;
                    }
                }
                for (boolean b : cant) {
                    n += b ? 1 : 0;
                }
                return n;
            case 7: return tape.length();
            case 8: return now.seed;
            case 9:
                for (Object o : shelf) {
                    n += o != null ? 1 : 0;
                }
                return n;
            default: return NONE;
        }
    }
}
