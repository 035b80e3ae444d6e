/** A test for each sentence of promises 1 to 8. */
final class ShelfSentences {
    /** Shelf 0 holds 4 ints, 1 holds 3 longs, 2 a candidate, 3 and the others nothing; candidate 1 has four papers of day 0. */
    static final String WORLD = "paper 0 4 6;paper 0 6 8;paper 0 47 2;paper 1 0 9;paper 0 20 1;paper 0 30 1;cand 1 5;cand 4 7;takes 0 0 1 3;"
        + "takes 1 0 1 4 5;night 1;room 1;room 2;row 0 2 4;set 0 1 1;row 1 3 3;set 1 2 77;show 2 0;feed turn 3;image;hours 23";

    private ShelfSentences() {
    }

    static void all() {
        newObject();
        row();
        set();
        copy();
        copyRefused();
        element();
        holds();
        show();
        says();
        saysRefused();
    }

    private static void due(String call, long got, long want) {
        Due.due(call, got, want);
    }

    private static void newObject() {
        Due.of("1", "No PAPERS, no CANDIDATES, no ROOMS");
        ClashDays x = new ClashDays();
        due("papers", x.status(0), 0);
        due("candidates", x.status(1), 0);
        due("rooms", x.status(2), 0);
        due("no paper", x.paperOf(0, 0), -52);
        due("no candidate", x.candOf(0, 0), -52);
        due("no room", x.left(0, 0, 0), -52);
        due("the first paper", x.paper(0, 0, 1), 0);
        due("the first candidate", x.cand(0, 0), 0);
        due("the first room", x.room(1), 0);

        Due.of("1", "SHELVES hold NOTHING");
        for (int s = 0; s < 8; s++) {
            due("shelf " + s, new ClashDays().holds(s), -1);
            due("shelf " + s, new ClashDays().set(s, 0, 0L), -54);
        }
        due("none holds something", new ClashDays().status(9), 0);

        Due.of("1", "THE TAPE is empty");
        due("size", new ClashDays().status(7), 0);
        due("wiped", new ClashDays().wipe(), 0);
        due("read", new ClashDays().book(), -600);
    }

    private static void row() {
        Due.of("2", "SHELF s holds a new ROW: 1");
        ClashDays x = Due.made("cand 0 0");
        due("the first shelf, no elements", x.row(0, 0, 0), 1);
        due("the last shelf, most elements", x.row(7, 4, 40), 1);
        due("sorts", x.holds(0) * 10 + x.holds(7), 4);
        due("another shelf", x.holds(1), -1);
        Due.more(x, "row 3 2 5;set 3 0 99;set 3 4 99;row 3 2 5");
        due("instead of a row: a new one", x.element(3, 4), 0);
        due("from its first element on", x.element(3, 0), 0);
        Due.more(x, "set 3 4 99;row 3 0 2");
        due("of another sort", x.holds(3), 0);
        due("with fewer elements", x.set(3, 2, 0L), -52);
        Due.more(x, "row 3 0 5");
        due("what was there ahead of that is gone", x.element(3, 4), 0);
        Due.more(x, "show 4 0;row 4 1 1");
        due("instead of a candidate", x.holds(4), 1);

        Due.of("2", "BAD");
        Due.badOutside(WORLD, 0, 7, (y, s) -> y.row(s, 0, 1));
        Due.badOutside(WORLD, 0, 4, (y, sort) -> y.row(0, sort, 1));
        Due.badOutside(WORLD, 0, 40, (y, n) -> y.row(0, 2, n));
    }

    private static void set() {
        Due.of("3", "Element i of the ROW in SHELF s becomes v: 1");
        ClashDays x = Due.made("row 0 3 3;row 1 3 3");
        due("the first", x.set(0, 0, Long.MIN_VALUE), 1);
        due("the last", x.set(0, 2, Long.MAX_VALUE), 1);
        due("told", x.element(0, 0), Long.MIN_VALUE);
        due("told", x.element(0, 2), Long.MAX_VALUE);
        due("another place", x.element(0, 1), 0);
        due("another row", x.element(1, 0), 0);

        Due.of("3", "BAD SHELF");
        Due.badOutside(WORLD, 0, 7, (y, s) -> y.set(s, 0, 1L));

        Due.of("3", "OTHER");
        Due.refused(WORLD, -53, y -> y.set(2, 0, 1L));
        Due.refused(WORLD, -53, y -> y.set(2, 99, 1L));

        Due.of("3", "NOTHING");
        Due.refused(WORLD, -54, y -> y.set(3, 0, 1L));
        Due.refused(WORLD, -54, y -> y.set(7, -1, 1L));

        Due.of("3", "BAD i");
        Due.badOutside(WORLD, 0, 3, (y, i) -> y.set(0, i, 1L));
        Due.refused("row 5 0 0", -52, y -> y.set(5, 0, 1L));
    }

    /** Row 0 holds 10 to 14, row 1 holds 20 to 23. */
    private static ClashDays twoRows() {
        return Due.made("row 0 2 5;set 0 0 10;set 0 1 11;set 0 2 12;set 0 3 13;set 0 4 14;row 1 2 4;set 1 0 20;set 1 1 21;set 1 2 22;set 1 3 23");
    }

    private static void dueRow(ClashDays x, int s, long... want) {
        for (int i = 0; i < want.length; i++) {
            due("element(" + s + ", " + i + ")", x.element(s, i), want[i]);
        }
    }

    private static void copy() {
        Due.of("4", "n elements of the ROW in SHELF p from place i on come to places j on of that in q");
        ClashDays x = twoRows();
        due("two", x.copy(0, 1, 3, 1, 2), 2);
        dueRow(x, 1, 20, 13, 14, 23);
        dueRow(x, 0, 10, 11, 12, 13, 14);
        due("all that there are", x.copy(1, 0, 0, 1, 4), 4);
        dueRow(x, 0, 10, 20, 13, 14, 23);
        due("one", x.copy(0, 1, 4, 3, 1), 1);
        dueRow(x, 1, 20, 13, 14, 23);
        due("none", x.copy(0, 1, 0, 0, 0), 0);
        dueRow(x, 1, 20, 13, 14, 23);
        for (int sort = 0; sort < 5; sort++) {
            ClashDays y = Due.made("row 0 " + sort + " 2;row 1 " + sort + " 2;set 0 1 -1");
            due("sort " + sort, y.copy(0, 1, 1, 0, 1), 1);
            due("sort " + sort, y.element(1, 0), y.element(0, 1));
            due("sort " + sort, y.element(1, 0), sort == 4 ? 1 : -1);
        }
        ClashDays most = Due.made("row 0 0 40;row 1 0 40;set 0 0 1;set 0 39 2");
        due("most", most.copy(0, 1, 0, 0, 40), 40);
        due("ends", most.element(1, 0) * 10 + most.element(1, 39), 12);

        Due.of("4", "(as they were)");
        ClashDays up = twoRows();
        due("onto itself, up", up.copy(0, 0, 0, 1, 4), 4);
        dueRow(up, 0, 10, 10, 11, 12, 13);
        ClashDays down = twoRows();
        due("onto itself, down", down.copy(0, 0, 1, 0, 4), 4);
        dueRow(down, 0, 11, 12, 13, 14, 14);
        ClashDays same = twoRows();
        due("onto itself, nowhere", same.copy(0, 0, 0, 0, 5), 5);
        dueRow(same, 0, 10, 11, 12, 13, 14);
    }

    private static void copyRefused() {
        Due.of("4", "BAD SHELVES");
        Due.badOutside(WORLD, 0, 7, (x, p) -> x.copy(p, 0, 0, 0, 1));
        Due.badOutside(WORLD, 0, 7, (x, q) -> x.copy(0, q, 0, 0, 1));
        Due.badOutside(WORLD, 0, 7, (x, q) -> x.copy(2, q, 0, 0, 1));
        Due.badOutside(WORLD, 0, 7, (x, p) -> x.copy(p, 3, 0, 0, 1));

        Due.of("4", "OTHER (also ROWS of two SORTS, if both hold something)");
        Due.refused(WORLD, -53, x -> x.copy(2, 0, 0, 0, 1));
        Due.refused(WORLD, -53, x -> x.copy(0, 2, 0, 0, 1));
        Due.refused(WORLD, -53, x -> x.copy(2, 2, 0, 0, 0));
        Due.refused(WORLD, -53, x -> x.copy(2, 3, 0, 0, 1));
        Due.refused(WORLD, -53, x -> x.copy(3, 2, 0, 0, 1));
        Due.refused(WORLD, -53, x -> x.copy(0, 1, 0, 0, 1));
        Due.refused(WORLD, -53, x -> x.copy(1, 0, 0, 0, 0));
        Due.refused(WORLD, -53, x -> x.copy(0, 1, -1, 0, 1));
        Due.refused(WORLD, -53, x -> x.copy(0, 2, 99, 0, 1));
        Due.refused("row 0 0 0;row 1 1 0", -53, x -> x.copy(0, 1, 0, 0, 0));

        Due.of("4", "NOTHING");
        Due.refused(WORLD, -54, x -> x.copy(0, 3, 0, 0, 1));
        Due.refused(WORLD, -54, x -> x.copy(3, 0, 0, 0, 1));
        Due.refused(WORLD, -54, x -> x.copy(3, 3, 0, 0, 0));
        Due.refused(WORLD, -54, x -> x.copy(3, 4, 0, 0, 1));
        Due.refused(WORLD, -54, x -> x.copy(3, 0, -1, 0, 1));
        Due.refused(WORLD, -54, x -> x.copy(0, 3, 0, 0, 99));

        Due.of("4", "BAD the others");
        String rows = "row 0 2 4;row 1 2 3";
        Due.badOutside(rows, 0, 3, (x, i) -> x.copy(0, 1, i, 0, 1));
        Due.badOutside(rows, 0, 2, (x, j) -> x.copy(0, 1, 0, j, 1));
        Due.badOutside(rows, 0, 3, (x, n) -> x.copy(0, 1, 0, 0, n));
        Due.badOutside(rows, 0, 2, (x, n) -> x.copy(0, 1, 2, 0, n));
        Due.badOutside(rows, 0, 2, (x, n) -> x.copy(0, 1, 0, 1, n));
        Due.refused(rows, -52, x -> x.copy(0, 1, 1, 1, Integer.MAX_VALUE));
        Due.refused(rows, -52, x -> x.copy(0, 1, Integer.MAX_VALUE, 0, 2));
        Due.refused(rows, -52, x -> x.copy(0, 1, 0, Integer.MAX_VALUE, 2));
        Due.refused(rows, -52, x -> x.copy(0, 1, Integer.MAX_VALUE, Integer.MAX_VALUE, Integer.MAX_VALUE));
        Due.refused(rows, -52, x -> x.copy(0, 1, 2, 0, -2));
    }

    private static void element() {
        Due.of("5", "Element i of the ROW");
        ClashDays x = Due.made("row 0 3 40;row 7 2 1;set 7 0 5");
        x.set(0, 0, Long.MAX_VALUE);
        x.set(0, 39, Long.MIN_VALUE);
        due("the first", x.element(0, 0), Long.MAX_VALUE);
        due("the last", x.element(0, 39), Long.MIN_VALUE);
        due("the last shelf", x.element(7, 0), 5);

        Due.of("5", "0: none, no ROW (nothing is refused)");
        ClashDays y = Due.made("row 0 2 3;set 0 0 7;set 0 2 7;row 1 2 3;set 1 0 7;cand 0 5;show 2 0");
        int[] none = {-1, 3, 4, 39, 40, Integer.MAX_VALUE, Integer.MIN_VALUE};
        for (int i : none) {
            due("no element " + i, y.element(0, i), 0);
        }
        int[] noShelf = {-1, 8, Integer.MAX_VALUE, Integer.MIN_VALUE};
        for (int s : noShelf) {
            due("no shelf " + s, y.element(s, 0), 0);
        }
        due("a candidate", y.element(2, 0), 0);
        due("nothing", y.element(3, 0), 0);
        Due.more(y, "row 0 2 1");
        due("fewer now", y.element(0, 2), 0);
        Due.more(y, "show 1 0");
        due("no row any more", y.element(1, 0), 0);
        Due.noneRefused(y);
    }

    private static void holds() {
        ClashDays x = Due.made("row 0 0 1;row 1 4 1;cand 0 0;show 2 0");
        Due.of("6", "NONE NOTHING, no SHELF");
        due("nothing", x.holds(3), -1);
        int[] noShelf = {-1, 8, Integer.MAX_VALUE, Integer.MIN_VALUE};
        for (int s : noShelf) {
            due("no shelf " + s, x.holds(s), -1);
        }
        Due.noneRefused(x);

        Due.of("6", "0 to 4 a ROW by its SORT");
        due("bytes", x.holds(0), 0);
        due("booleans", x.holds(1), 4);
        for (int sort = 0; sort < 5; sort++) {
            x.row(7, sort, 0);
            due("without elements", x.holds(7), sort);
        }

        Due.of("6", "10 and the number of a CANDIDATE");
        due("the first", x.holds(2), 10);
        for (int c = 1; c < 10; c++) {
            x.cand(c % 6, c);
            x.show(2, c);
            due("candidate " + c, x.holds(2), 10 + c);
        }
    }

    private static void show() {
        Due.of("7", "SHELF s holds a CANDIDATE, or NOTHING (cand NONE): 1");
        ClashDays x = Due.made("cand 0 0;cand 1 1;row 3 2 2;set 3 0 9");
        due("the first shelf", x.show(0, 1), 1);
        due("the last shelf", x.show(7, 0), 1);
        due("held", x.holds(0) * 100 + x.holds(7), 1110);
        due("one on two shelves", x.show(1, 1), 1);
        due("held", x.holds(1) * 100 + x.holds(0), 1111);
        due("nothing", x.show(0, -1), 1);
        due("held", x.holds(0), -1);
        due("nothing, where nothing was", x.show(0, ClashDays.NONE), 1);
        due("nothing instead of a row", x.show(3, -1), 1);
        due("held", x.holds(3), -1);
        due("a row's elements are gone", x.element(3, 0), 0);
        Due.noneRefused(x);

        Due.of("7", "BAD");
        Due.badOutside(WORLD, 0, 7, (y, s) -> y.show(s, 0));
        Due.badOutside(WORLD, 0, 7, (y, s) -> y.show(s, -1));
        Due.badOutside(WORLD, -1, 1, (y, c) -> y.show(0, c));
        Due.refused("row 0 0 0", -52, y -> y.show(0, 0));
    }

    private static void says() {
        // on each shelf the candidate of that kind, with an a of 7
        ClashDays x = Due.made("cand 0 7;cand 1 7;cand 2 7;cand 3 7;cand 4 7;cand 5 7;show 0 0;show 1 1;show 2 2;show 3 3;show 4 4;show 5 5");
        Due.of("8", "What the CANDIDATE in SHELF s, taken for one of a KIND, says of a LENGTH n (1 to 12): CANDIDATE its a");
        for (int kind = 0; kind < 6; kind++) {
            due("a", x.says(kind, 0, 1), 7);
            due("a", x.says(kind, 0, 12), 7);
        }

        Due.of("8", "SLOW, SLOWER its TIME of such a PAPER, by its own KIND");
        due("SLOW for SLOW", x.says(1, 1, 12), 21);
        due("SLOWER for SLOW", x.says(3, 1, 12), 22);
        due("SLOWER for SLOWER", x.says(3, 3, 12), 22);
        due("the least", x.says(1, 1, 1), 2);
        due("the least", x.says(3, 3, 1), 3);

        Due.of("8", "RESTING, RESTED its REST, by its own KIND");
        due("RESTING for RESTING", x.says(2, 2, 1), 3);
        due("RESTED for RESTING", x.says(4, 2, 1), 6);
        due("RESTED for RESTED", x.says(4, 4, 12), 6);

        Due.of("8", "READER its TIME and REST together");
        due("READER", x.says(5, 5, 1), 5);
        due("READER", x.says(5, 5, 12), 16);
        Due.noneRefused(x);
    }

    private static void saysRefused() {
        Due.of("8", "BAD SHELF, KIND, n");
        Due.badOutside(WORLD, 0, 7, (x, s) -> x.says(s, 0, 1));
        Due.badOutside(WORLD, 0, 5, (x, kind) -> x.says(2, kind, 1));
        Due.badOutside(WORLD, 1, 12, (x, n) -> x.says(2, 0, n));
        Due.badOutside(WORLD, 1, 12, (x, n) -> x.says(0, 0, n));
        Due.badOutside(WORLD, 1, 12, (x, n) -> x.says(3, 0, n));
        Due.badOutside(WORLD, 0, 5, (x, kind) -> x.says(0, kind, 1));
        Due.badOutside(WORLD, 0, 5, (x, kind) -> x.says(3, kind, 1));
        Due.badOutside(WORLD, 1, 12, (x, n) -> x.says(2, 5, n));

        Due.of("8", "OTHER (also if it is of no such KIND nor of one under it)");
        Due.refused(WORLD, -53, x -> x.says(0, 0, 1));
        boolean[][] under = {{true, true, true, true, true, true}, {false, true, false, true, false, false},
            {false, false, true, false, true, false}, {false, false, false, true, false, false},
            {false, false, false, false, true, false}, {false, false, false, false, false, true}};
        for (int as = 0; as < 6; as++) {
            for (int own = 0; own < 6; own++) {
                int kind = as;
                if (!under[as][own]) {
                    Due.refused("cand " + own + " 3;show 6 0", -53, x -> x.says(6, kind, 5));
                }
                due(own + " is of " + as, Due.made("cand " + own + " 3;show 6 0").says(6, kind, 5) > 0 ? 1 : 0, under[as][own] ? 1 : 0);
            }
        }

        Due.of("8", "NOTHING");
        Due.refused(WORLD, -54, x -> x.says(3, 0, 1));
        Due.refused(WORLD, -54, x -> x.says(7, 5, 12));
    }
}
