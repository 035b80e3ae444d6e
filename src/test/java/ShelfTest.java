/** Promises 2 to 8: shelves. */
final class ShelfTest {
    public static void main(String[] args) {
        rows();
        elements();
        copies();
        shows();
        words();
        Due.finish();
    }

    private static void rows() {
        ClashDays x = new ClashDays();
        Due.due("2 row", x.row(0, 0, 0), 1);
        Due.due("2 row", x.row(7, 4, 40), 1);
        Due.due("2 shelf -1", x.row(-1, 0, 0), -52);
        Due.due("2 shelf 8", x.row(8, 0, 0), -52);
        Due.due("2 sort -1", x.row(1, -1, 0), -52);
        Due.due("2 sort 5", x.row(1, 5, 0), -52);
        Due.due("2 n -1", x.row(1, 0, -1), -52);
        Due.due("2 n 41", x.row(1, 0, 41), -52);
        Due.due("2 nothing there", x.holds(1), -1);
        Due.due("6 holds", x.holds(0), 0);
        Due.due("6 holds", x.holds(7), 4);
        Due.due("6 no shelf", x.holds(8), -1);
        Due.due("6 no shelf", x.holds(-1), -1);
        x.row(1, 3, 2);
        x.set(1, 0, 5L);
        x.row(1, 2, 2);
        Due.due("2 a new row", x.element(1, 0), 0);
        Due.due("2 a new sort", x.holds(1), 2);
        x.row(1, 2, 0);
        Due.due("2 no elements", x.set(1, 0, 1L), -52);
    }

    private static void elements() {
        ClashDays x = new ClashDays();
        long[] told = {0, 1, -1, 127, 128, 255, 256, -129, 32767, 32768, 65536, 2147483647L, 2147483648L, 4294967296L,
            Long.MAX_VALUE, Long.MIN_VALUE};
        for (int sort = 0; sort < 5; sort++) {
            x.row(sort, sort, told.length);
            for (int i = 0; i < told.length; i++) {
                long v = told[i];
                long[] kept = {(byte) v, (short) v, (int) v, v, v == 0 ? 0 : 1};
                Due.due("3 set", x.set(sort, i, v), 1);
                Due.due("5 sort " + sort + " of " + v, x.element(sort, i), kept[sort]);
            }
        }
        Due.due("5 only 16", x.element(0, 16), 0);
        Due.due("5 only 16", x.element(0, -1), 0);
        Due.due("5 no row", x.element(5, 0), 0);
        Due.due("5 no shelf", x.element(-1, 0), 0);
        Due.due("5 no shelf", x.element(8, 0), 0);
        Due.due("5 huge", x.element(0, Integer.MAX_VALUE), 0);
        Due.due("5 not refused", x.status(12) + x.status(14), 0);
        x.cand(0, 0);
        x.show(6, 0);
        Due.due("5 a candidate", x.element(6, 0), 0);
        Due.due("3 shelf 8", x.set(8, 0, 0L), -52);
        Due.due("3 shelf -1", x.set(-1, 0, 0L), -52);
        Due.due("3 OTHER", x.set(6, 99, 0L), -53);
        Due.due("3 NOTHING", x.set(5, 99, 0L), -54);
        Due.due("3 i 16", x.set(0, 16, 0L), -52);
        Due.due("3 i -1", x.set(0, -1, 0L), -52);
    }

    private static void fill(ClashDays x, int s, int n, int from) {
        x.row(s, 2, n);
        for (int i = 0; i < n; i++) {
            x.set(s, i, from + i);
        }
    }

    private static void dueRow(ClashDays x, String call, int s, int... want) {
        for (int i = 0; i < want.length; i++) {
            Due.due(call + " [" + i + "]", x.element(s, i), want[i]);
        }
    }

    private static void copies() {
        ClashDays x = new ClashDays();
        fill(x, 0, 5, 10);
        fill(x, 1, 4, 20);
        x.row(2, 3, 5);
        x.cand(0, 0);
        x.show(3, 0);
        x.row(5, 2, 0);
        Due.due("4 copy", x.copy(0, 1, 3, 0, 2), 2);
        dueRow(x, "4", 1, 13, 14, 22, 23, 0);
        Due.due("4 onto itself", x.copy(0, 0, 0, 1, 4), 4);
        dueRow(x, "4 as they were", 0, 10, 10, 11, 12, 13);
        Due.due("4 onto itself", x.copy(0, 0, 1, 0, 4), 4);
        dueRow(x, "4 as they were", 0, 10, 11, 12, 13, 13);
        Due.due("4 none", x.copy(0, 1, 5, 4, 0), 0);
        Due.due("4 none, but places", x.copy(0, 1, 6, 0, 0), -52);
        Due.due("4 none, but places", x.copy(0, 1, 0, 5, 0), -52);
        Due.due("4 none, but places", x.copy(0, 1, -1, 0, 0), -52);
        Due.due("4 of an empty row", x.copy(5, 5, 0, 0, 0), 0);
        Due.due("4 of an empty row", x.copy(5, 0, 0, 0, 1), -52);
        Due.due("4 too many", x.copy(0, 1, 3, 0, 3), -52);
        Due.due("4 too many", x.copy(0, 1, 0, 2, 3), -52);
        Due.due("4 fewer than none", x.copy(0, 1, 0, 0, -1), -52);
        Due.due("4 j -1", x.copy(0, 1, 0, -1, 1), -52);
        Due.due("4 a sum that wraps", x.copy(0, 1, 1, 0, Integer.MAX_VALUE), -52);
        Due.due("4 a sum that wraps", x.copy(0, 1, Integer.MAX_VALUE, 0, 1), -52);
        Due.due("4 two sorts", x.copy(0, 2, 0, 0, 1), -53);
        Due.due("4 two sorts ahead of places", x.copy(0, 2, -1, 0, 1), -53);
        Due.due("4 a candidate", x.copy(3, 0, 0, 0, 1), -53);
        Due.due("4 a candidate", x.copy(0, 3, 0, 0, 1), -53);
        Due.due("4 OTHER ahead of NOTHING", x.copy(4, 3, 0, 0, 1), -53);
        Due.due("4 OTHER ahead of NOTHING", x.copy(3, 4, 0, 0, 1), -53);
        Due.due("4 NOTHING", x.copy(4, 0, 0, 0, 1), -54);
        Due.due("4 NOTHING", x.copy(0, 4, -1, 0, 1), -54);
        Due.due("4 NOTHING twice", x.copy(4, 4, 0, 0, 0), -54);
        Due.due("4 shelf 8", x.copy(8, 3, 0, 0, 0), -52);
        Due.due("4 shelf -1", x.copy(4, -1, 0, 0, 0), -52);
        dueRow(x, "4 nothing changed", 1, 13, 14, 22, 23);
    }

    private static void shows() {
        ClashDays x = new ClashDays();
        Due.due("7 no cand", x.show(0, 0), -52);
        x.cand(0, 3);
        x.cand(1, 4);
        Due.due("7 show", x.show(0, 0), 1);
        Due.due("7 show", x.show(7, 1), 1);
        Due.due("6 holds", x.holds(0), 10);
        Due.due("6 holds", x.holds(7), 11);
        Due.due("7 NONE", x.show(0, -1), 1);
        Due.due("6 holds", x.holds(0), -1);
        Due.due("7 -2", x.show(0, -2), -52);
        Due.due("7 2", x.show(0, 2), -52);
        Due.due("7 shelf 8", x.show(8, 0), -52);
        Due.due("7 shelf -1", x.show(-1, -1), -52);
        x.row(7, 2, 4);
        Due.due("2 a row instead", x.holds(7), 2);
        x.show(7, 1);
        Due.due("7 instead of a row", x.holds(7), 11);
        Due.due("7 no elements", x.element(7, 0), 0);
    }

    private static void words() {
        ClashDays x = new ClashDays();
        for (int kind = 0; kind < 6; kind++) {
            x.cand(kind, 7);
            x.show(kind, kind);
        }
        // rows: the kind it is taken for; columns: its own kind; a 7 and a length of 5
        int[][] want = {
            {7, 7, 7, 7, 7, 7},
            {-53, 9, -53, 10, -53, -53},
            {-53, -53, 3, -53, 6, -53},
            {-53, -53, -53, 10, -53, -53},
            {-53, -53, -53, -53, 6, -53},
            {-53, -53, -53, -53, -53, 9}};
        for (int as = 0; as < 6; as++) {
            for (int own = 0; own < 6; own++) {
                Due.due("8 kind " + own + " taken for " + as, x.says(own, as, 5), want[as][own]);
            }
        }
        Due.due("8 length 12", x.says(3, 1, 12), 22);
        Due.due("8 length 1", x.says(1, 1, 1), 2);
        Due.due("8 length 0", x.says(1, 1, 0), -52);
        Due.due("8 length 13", x.says(1, 1, 13), -52);
        Due.due("8 kind 6", x.says(1, 6, 1), -52);
        Due.due("8 kind -1", x.says(1, -1, 1), -52);
        Due.due("8 shelf 8", x.says(8, 0, 1), -52);
        Due.due("8 shelf -1", x.says(-1, 0, 1), -52);
        Due.due("8 NOTHING", x.says(7, 1, 1), -54);
        x.row(6, 2, 1);
        Due.due("8 a row", x.says(6, 0, 1), -53);
    }
}
