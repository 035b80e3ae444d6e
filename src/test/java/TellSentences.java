/** A test for each sentence of promises 20 to 33. */
final class TellSentences {
    private static final String WORLD = ShelfSentences.WORLD;

    private TellSentences() {
    }

    static void all() {
        candOf();
        paperOf();
        time();
        plan();
        sits();
        does();
        measure();
        best();
        bestRefused();
        lawful();
        watch();
        duty();
        pieces();
        roomOf();
        left();
    }

    private static void due(String call, long got, long want) {
        Due.due(call, got, want);
    }

    private static void candOf() {
        ClashDays x = Due.made("paper 0 47 2;paper 1 0 1;paper 2 47 2;paper 4 47 9;cand 3 9;cand 4 8;takes 0 0 1 3;takes 1 0 2 3;night 1");
        Due.of("20", "KIND (0), a (1), NIGHT (2), PAPERS (3");
        int[] first = {3, 9, 0};
        int[] second = {4, 8, 1};
        for (int what = 0; what < 3; what++) {
            due("candOf(0, " + what + ")", x.candOf(0, what), first[what]);
            due("candOf(1, " + what + ")", x.candOf(1, what), second[what]);
        }

        Due.of("20", "bits)");
        due("papers", x.candOf(0, 3), 1 + 2 + 8);
        due("papers", x.candOf(1, 3), 1 + 4 + 8);
        ClashDays most = Due.made("paper 0 0 1;paper 0 0 1;paper 0 0 1;paper 0 0 1;paper 1 0 1;paper 1 0 1;paper 1 0 1;paper 1 0 1;"
            + "paper 2 0 1;paper 2 0 1;paper 2 0 1;paper 2 0 1;cand 0 0;takes 0 0 1 2 3 4 5 6 7 8 9 10 11");
        due("all twelve", most.candOf(0, 3), 4095);

        Due.of("20", "REST (4)");
        due("rest", x.candOf(0, 4), 1);
        due("rest", x.candOf(1, 4), 6);

        Due.of("20", "how many DAYS it CAN'T (5)");
        due("two", x.candOf(0, 5), 2);
        due("one, as two go over", x.candOf(1, 5), 1);
        x.night(1, 0);
        due("three", x.candOf(1, 5), 3);

        Due.of("20", "BAD");
        Due.badOutside(WORLD, 0, 1, (y, c) -> y.candOf(c, 0));
        Due.badOutside(WORLD, 0, 5, (y, what) -> y.candOf(0, what));
        Due.refused("paper 0 0 1", -52, y -> y.candOf(0, 0));
    }

    private static void paperOf() {
        ClashDays x = Due.made("paper 3 7 11;paper 3 9 2;cand 0 0;cand 0 0;cand 0 0;cand 0 0;takes 0 0 1;takes 1 0;takes 2 1;takes 3 0 1;hours 12");
        Due.of("21", "DAY (0), START (1), LENGTH (2)");
        due("day", x.paperOf(0, 0), 3);
        due("start", x.paperOf(0, 1), 7);
        due("length", x.paperOf(0, 2), 11);

        Due.of("21", "how many TAKE it (3)");
        due("takers", x.paperOf(0, 3), 3);
        due("takers", x.paperOf(1, 3), 3);
        due("of one that nobody takes", Due.made("paper 0 0 1;cand 0 0").paperOf(0, 3), 0);

        Due.of("21", "how many BEGIN it (by THE PLAN, or OVER) at another time than its START (4)");
        due("two can't, two are in time", x.paperOf(1, 4), 0);
        x.hours(13);
        due("two wait", x.paperOf(1, 4), 2);
        due("none waits", x.paperOf(0, 4), 0);
        ClashDays z = Due.made("paper 0 47 2;paper 1 2 5;cand 0 0;takes 0 0 1;night 0");
        due("the first of its order, at FREE", z.paperOf(1, 4), 1);
        z.starts(1, 3);
        due("at its start", z.paperOf(1, 4), 0);
        Due.more(x, "hours 12;night 0");
        // one has 1 over: kept from 18 on; with 0 over from 7 on
        due("one has it over", x.paperOf(1, 4), 1);
        due("by the plan at its start", x.paperOf(0, 4), 0);

        Due.of("21", "BAD");
        Due.badOutside(WORLD, 0, 5, (y, p) -> y.paperOf(p, 0));
        Due.badOutside(WORLD, 0, 4, (y, what) -> y.paperOf(0, what));
        Due.refused("cand 0 0", -52, y -> y.paperOf(0, 0));
    }

    private static void time() {
        Due.of("22", "TIME of a PAPER for one");
        ClashDays x = Due.made("paper 0 0 10;paper 4 0 1;cand 0 5;cand 1 5;cand 3 5;cand 5 5");
        int[] ten = {10, 15, 16, 12};
        int[] one = {1, 2, 3, 3};
        for (int c = 0; c < 4; c++) {
            due("of 10, also if one doesn't take it", x.time(c, 0), ten[c]);
            due("of 1", x.time(c, 1), one[c]);
        }

        Due.of("22", "BAD");
        Due.badOutside(WORLD, 0, 1, (y, c) -> y.time(c, 0));
        Due.badOutside(WORLD, 0, 5, (y, p) -> y.time(0, p));
    }

    private static void plan() {
        Due.of("23", "Of THE PLAN of a DAY: whether there is one (what 0: 1");
        ClashDays x = Due.made("paper 0 4 6;paper 0 6 8;paper 1 47 2;paper 3 40 9;cand 0 0;takes 0 0 1 2 3");
        due("there is", x.plan(0, 0, 0), 1);

        Due.of("23", "also without PAPERS");
        due("there is", x.plan(0, 2, 0), 1);
        due("there is", Due.made("cand 0 0").plan(0, 4, 0), 1);

        Due.of("23", "0: one CAN'T)");
        due("there is none", x.plan(0, 1, 0), 0);
        due("there is none", x.plan(0, 3, 0), 0);

        Due.of("23", "how many SLOTS one is KEPT (1)");
        due("kept", x.plan(0, 0, 1), 1);
        due("none", x.plan(0, 2, 1), 0);

        Due.of("23", "the PAPER that goes OVER (2");
        x.night(0, 1);
        due("over", x.plan(0, 1, 2), 2);
        due("over", x.plan(0, 3, 2), 3);

        Due.of("23", "NONE), FREE (3), AHEAD (4)");
        due("none goes over", x.plan(0, 0, 2), -1);
        due("free", x.plan(0, 2, 3), 3);
        due("ahead", x.plan(0, 2, 4), 2);
        due("free", x.plan(0, 4, 3), 10);
        due("ahead", x.plan(0, 4, 4), 9);
        due("free", x.plan(0, 3, 3), 0);
        due("ahead", x.plan(0, 3, 4), 0);

        Due.of("23", "how many PAPERS one sits by the ORDER (5)");
        due("two", x.plan(0, 0, 5), 2);
        due("none but that goes over", x.plan(0, 1, 5), 0);
        due("none but that came over", x.plan(0, 2, 5), 0);

        Due.of("23", "CLASH (6");
        x.night(0, 0);
        due("that one", x.plan(0, 1, 6), 4);
        due("that one", x.plan(0, 3, 6), 8);

        Due.of("23", "0: one can)");
        due("one can", x.plan(0, 0, 6), 0);
        due("no papers", x.plan(0, 2, 6), 0);
        x.night(0, 1);
        due("over", x.plan(0, 1, 6), 0);

        Due.of("23", "BAD");
        Due.badOutside(WORLD, 0, 1, (y, c) -> y.plan(c, 0, 0));
        Due.badOutside(WORLD, 0, 4, (y, day) -> y.plan(0, day, 0));
        Due.badOutside(WORLD, 0, 6, (y, what) -> y.plan(0, 0, what));
    }

    private static void sits() {
        Due.of("24", "The i-th PAPER of the ORDER of THE PLAN (what 0), its BEGIN (1), its END (2)");
        ClashDays x = Due.made("paper 2 9 3;paper 2 4 6;paper 2 45 3;cand 0 0;takes 0 0 1 2");
        DaySentences.sits(x, 0, 2, 1, 4, 10, 0, 11, 14, 2, 45, 48);

        // candidate 0 has 0 and 1 on day 0, and 3 on day 1; candidate 1 has one of its four over
        Due.of("24", "BAD: also no i-th");
        due("two", Due.made(WORLD).plan(0, 0, 5), 2);
        Due.badOutside(WORLD, 0, 1, (y, i) -> y.sits(0, 0, i, 0));
        Due.refused(WORLD, -52, y -> y.sits(0, 2, 0, 0));
        Due.badOutside(WORLD, 0, 1, (y, c) -> y.sits(c, 0, 0, 0));
        Due.badOutside(WORLD, 0, 4, (y, day) -> y.sits(0, day, 0, 0));
        Due.badOutside(WORLD, 0, 2, (y, what) -> y.sits(0, 0, 0, what));
        Due.refused("paper 0 47 2;cand 0 0;takes 0 0", -52, y -> y.sits(0, 0, 0, 0));
        Due.refused("paper 0 47 2;cand 0 0;takes 0 0;night 0", -52, y -> y.sits(0, 0, 0, 0));
        Due.refused("paper 0 47 2;cand 0 0;takes 0 0;night 0", -52, y -> y.sits(0, 1, 0, 0));
        ClashDays four = Due.made("paper 0 0 1;paper 0 0 1;paper 0 0 1;paper 0 0 1;cand 0 0;takes 0 0 1 2 3");
        due("the fourth", four.sits(0, 0, 3, 0), 3);
        due("no fifth", four.sits(0, 0, 4, 0), -52);
    }

    private static void does() {
        ClashDays x = Due.made("paper 0 4 6;paper 0 8 2;paper 1 47 1;paper 1 46 2;cand 0 0;takes 0 0 1 2 3;night 0");
        Due.of("25", "the PAPER it sits (0 on");
        due("the first slot of it", x.does(0, 0, 4), 0);
        due("the last slot of it", x.does(0, 0, 9), 0);
        due("the other", x.does(0, 0, 11), 1);
        due("its last", x.does(0, 0, 12), 1);

        Due.of("25", "also from OVER");
        due("what goes over", x.plan(0, 1, 2), 2);
        due("the first slot of it", x.does(0, 2, 0), 2);
        due("behind it", x.does(0, 2, 1), -1);

        Due.of("25", "20 it is KEPT");
        due("kept", x.does(0, 0, 10), 20);

        Due.of("25", "NONE");
        due("ahead of all", x.does(0, 0, 3), -1);
        due("behind all", x.does(0, 0, 13), -1);
        due("no papers", x.does(0, 4, 0), -1);
        x.takes(0, 1, 0);
        due("not any more", x.does(0, 0, 11), -1);
        due("not any more", x.does(0, 0, 10), -1);
        ClashDays four = Due.made("paper 4 0 1;paper 4 2 1;paper 4 4 1;paper 4 6 1;cand 0 0;takes 0 0 1 2 3");
        due("ahead of the second of four", four.does(0, 4, 1), -1);
        due("the last of four", four.does(0, 4, 6), 3);
        due("behind four", four.does(0, 4, 7), -1);
        due("one can't", Due.made("paper 0 40 9;cand 0 0;takes 0 0").does(0, 0, 40), -1);

        Due.of("25", "NONE isn't refused");
        ClashDays y = Due.made(WORLD);
        due("none", y.does(0, 3, 0), -1);
        Due.noneRefused(y);

        Due.of("25", "BAD");
        Due.badOutside(WORLD, 0, 1, (z, c) -> z.does(c, 0, 0));
        Due.badOutside(WORLD, 0, 4, (z, day) -> z.does(0, day, 0));
        Due.badOutside(WORLD, 0, 47, (z, slot) -> z.does(0, 0, slot));
    }

    private static void measure() {
        Due.of("26", "MEASURE (0 to 4) of THE PLAN of a DAY without OVER");
        ClashDays x = Due.made("paper 0 4 6;paper 0 6 8;paper 1 47 2;paper 2 2 3;cand 0 0;takes 0 0 1 2 3;night 0");
        int[] want = {1, 19, 5, 1, 5};
        int[] behind = {1, 6, 1, 1, 1};
        for (int by = 0; by < 5; by++) {
            due("measure " + by, x.measure(0, 0, by), want[by]);
            due("measure " + by + " of a day to which something came", x.measure(0, 2, by), behind[by]);
        }

        Due.of("26", "STUCK: there is none, something goes OVER, or there are no PAPERS");
        Due.refused("paper 0 47 2;cand 0 0;takes 0 0", -55, y -> y.measure(0, 0, 0));
        Due.refused("paper 0 47 2;paper 0 0 1;cand 0 0;takes 0 0 1;night 0", -55, y -> y.measure(0, 0, 4));
        Due.refused("paper 0 47 2;cand 0 0", -55, y -> y.measure(0, 0, 0));
        Due.refused("paper 0 47 2;cand 0 0;takes 0 0;night 0", -55, y -> y.measure(0, 1, 0));

        Due.of("26", "BAD ahead of that");
        Due.badOutside(WORLD, 0, 1, (y, c) -> y.measure(c, 0, 0));
        Due.badOutside(WORLD, 0, 4, (y, day) -> y.measure(0, day, 0));
        Due.badOutside(WORLD, 0, 4, (y, by) -> y.measure(0, 0, by));
        Due.badOutside("paper 0 47 2;cand 0 0;takes 0 0", 0, 4, (y, by) -> y.measure(0, 0, by));
        Due.badOutside("cand 0 0", 0, 4, (y, by) -> y.measure(0, 0, by));
    }

    /** Rows and begins: 012 0 13 16; 021 0 13 16; 102 1 4 17; 120 1 4 7; 201 2 5 18; 210 2 5 8. */
    private static final String THREE = "paper 0 0 12;paper 0 1 2;paper 0 2 2;cand 0 0;takes 0 0 1 2;hours 16";

    private static void best() {
        Due.of("27", "Of all LAWFUL ORDERS of all PAPERS of the DAY that one TAKES that with the least MEASURE");
        ClashDays x = Due.made(THREE);
        int[] least = {2, 18, 9, 2, 7};
        for (int by = 0; by < 5; by++) {
            due("measure " + by, x.best(0, 0, by, -1), least[by]);
        }
        ClashDays z = Due.made("paper 0 40 5;paper 0 42 2;paper 0 0 1;cand 0 0;takes 0 0 1");
        // 1 ahead of 0 begins in time, but 0 then ends at 50
        due("not an unlawful one", z.best(0, 0, 4, -1), 4);
        due("its first", z.best(0, 0, 4, 0), 0);
        ClashDays w = Due.made("paper 0 47 5;paper 1 6 2;paper 1 0 2;cand 0 0;takes 0 0 1 2;night 0");
        // 5 came, free is 6: 6 to 8 and 9 to 11
        due("with FREE", w.best(0, 1, 1, -1), 11);
        due("what came over isn't kept", w.best(0, 1, 0, -1), 2);

        Due.of("27", "of several the first by rows");
        int[][] rows = {{0, 1, 2}, {0, 1, 2}, {1, 2, 0}, {0, 1, 2}, {1, 2, 0}};
        for (int by = 0; by < 5; by++) {
            for (int i = 0; i < 3; i++) {
                due("row by " + by, x.best(0, 0, by, i), rows[by][i]);
            }
        }

        Due.of("27", "its MEASURE (i NONE), its i-th PAPER");
        ClashDays y = Due.made("paper 3 0 1;paper 2 7 2;cand 0 0;takes 0 1");
        due("measure", y.best(0, 2, 1, ClashDays.NONE), 9);
        due("measure", y.best(0, 2, 0, ClashDays.NONE), 0);
        due("paper", y.best(0, 2, 1, 0), 1);
    }

    private static void bestRefused() {
        Due.of("27", "NONE: no LAWFUL one, or no PAPERS");
        ClashDays x = Due.made("paper 0 40 9;cand 0 0;takes 0 0");
        ClashDays night = Due.made("paper 0 40 9;cand 0 0;takes 0 0;night 0");
        int[] is = {-1, 0, 1, 4, -2, Integer.MAX_VALUE, Integer.MIN_VALUE};
        for (int i : is) {
            due("no lawful one, i " + i, x.best(0, 0, 0, i), -1);
            due("none but with something over, i " + i, night.best(0, 0, 0, i), -1);
            due("no papers, i " + i, x.best(0, 1, 4, i), -1);
            due("no papers behind a night, i " + i, night.best(0, 1, 4, i), -1);
        }

        Due.of("27", "NONE isn't refused");
        Due.noneRefused(x);
        Due.noneRefused(night);

        Due.of("27", "BAD: also no i-th, where there is one");
        Due.badOutside(THREE, -1, 2, (y, i) -> y.best(0, 0, 0, i));
        Due.badOutside(THREE, 0, 0, (y, c) -> y.best(c, 0, 0, -1));
        Due.badOutside(THREE, 0, 4, (y, day) -> y.best(0, day, 0, -1));
        Due.badOutside(THREE, 0, 4, (y, by) -> y.best(0, 0, by, -1));
        Due.badOutside("cand 0 0", 0, 4, (y, by) -> y.best(0, 0, by, -1));
    }

    private static void lawful() {
        Due.of("28", "How many ORDERS of all PAPERS of the DAY that one TAKES are LAWFUL");
        ClashDays x = Due.made("paper 0 0 12;paper 0 1 2;paper 0 2 2;paper 0 9 1;paper 1 0 1;cand 0 0;takes 0 0 1 2 3");
        due("four", x.lawful(0, 0), 24);
        x.starts(0, 31);
        // 0 ends at 43: behind it none (6 orders), one (6), or 3 and one of the others (4); 1 and 2 would end at 49
        due("some", x.lawful(0, 0), 16);
        x.hours(16);
        due("above HOURS", x.lawful(0, 0), 0);
        ClashDays y = Due.made("paper 0 47 12;paper 1 0 12;paper 1 0 9;cand 4 9;takes 0 0 1 2;night 0;hours 40");
        due("with FREE", y.lawful(0, 1), 0);
        y.takes(0, 2, 0);
        due("with FREE", y.lawful(0, 1), 1);
        y.hours(23);
        due("with AHEAD", y.lawful(0, 1), 0);

        Due.of("28", "1, if there are no PAPERS");
        due("no papers", x.lawful(0, 1), 1);
        due("behind a night", Due.made("paper 0 47 2;cand 0 0;takes 0 0;night 0").lawful(0, 1), 1);
        due("nothing at all", Due.made("cand 0 0").lawful(0, 4), 1);

        Due.of("28", "BAD");
        Due.badOutside(WORLD, 0, 1, (z, c) -> z.lawful(c, 0));
        Due.badOutside(WORLD, 0, 4, (z, day) -> z.lawful(0, day));
    }

    private static void watch() {
        Due.of("29", "How many DUTIES of all there are (what 0), WATCHERS (1), AT ONCE (2)");
        // kept in 4 and in 4, in 9, and in 1 of day 1
        ClashDays x = Due.made("paper 0 3 1;paper 0 4 1;paper 0 8 1;paper 0 9 1;paper 1 0 1;paper 1 1 1;cand 0 0;cand 0 0;takes 0 0 1 2 3 4 5;takes 1 0 1");
        due("duties", x.watch(0), 4);
        due("watchers", x.watch(1), 2);
        due("at once", x.watch(2), 2);
        ClashDays none = Due.made("paper 0 0 1;cand 0 0;takes 0 0");
        due("none", none.watch(0) + none.watch(1) + none.watch(2), 0);

        Due.of("29", "BAD");
        Due.badOutside(WORLD, 0, 2, (y, what) -> y.watch(what));
        Due.badOutside("cand 0 0", 0, 2, (y, what) -> y.watch(what));
    }

    private static void duty() {
        Due.of("30", "Of the i-th DUTY: CANDIDATE (what 0), DAY (1), first SLOT (2), how many SLOTS (3), WATCHER (4)");
        ClashDays x = Due.made("paper 3 3 1;paper 3 4 1;paper 1 0 1;paper 1 1 1;cand 0 0;cand 0 0;cand 2 9;takes 1 0 1;takes 2 0 1;takes 0 2 3");
        int[][] want = {{0, 1, 1, 1, 0}, {1, 3, 4, 1, 0}, {2, 3, 4, 4, 1}};
        for (int i = 0; i < 3; i++) {
            for (int what = 0; what < 5; what++) {
                due("duty(" + i + ", " + what + ")", x.duty(i, what), want[i][what]);
            }
        }

        Due.of("30", "BAD: also no i-th");
        int duties = Due.made(WORLD).watch(0);
        due("there are some", duties > 1 ? 1 : 0, 1);
        Due.badOutside(WORLD, 0, duties - 1, (y, i) -> y.duty(i, 0));
        Due.badOutside(WORLD, 0, 4, (y, what) -> y.duty(0, what));
        Due.refused("cand 0 0", -52, y -> y.duty(0, 0));
        Due.refused("room 1", -52, y -> y.duty(-1, 0));
    }

    private static void pieces() {
        ClashDays x = Due.made("paper 0 4 6;paper 0 6 8;paper 1 40 9;cand 0 0;cand 0 0;takes 0 0 1 2;takes 1 0;night 0");
        Due.of("31", "How many PIECES one has on a DAY (what 0), MOVES (1");
        due("two sittings and a duty", x.pieces(0, 0, 0), 3);
        due("a duty", x.pieces(0, 1, 0), 1);
        due("what came over", x.pieces(0, 2, 0), 1);
        due("none", x.pieces(0, 3, 0), 0);
        Due.more(x, "room 1;room 1");
        due("no moves", x.pieces(0, 0, 1), 0);
        due("no moves", x.pieces(1, 0, 1), 0);
        due("room", x.roomOf(1, 0, 0), 1);

        // what came over, four papers, and one waits for a slot ahead of each
        ClashDays most = Due.made("paper 3 47 2;paper 4 0 1;paper 4 0 1;paper 4 0 1;paper 4 0 1;paper 4 5 1;cand 0 0;cand 0 0;cand 0 0;cand 0 0;"
            + "cand 0 0;cand 0 0;cand 0 0;cand 0 0;cand 0 0;cand 0 0;takes 0 5;takes 1 5;takes 2 5;takes 3 5;takes 4 5;takes 9 0 1 2 3 4;night 9");
        due("nine pieces", most.pieces(9, 4, 0), 9);
        due("no rooms", most.pieces(9, 4, 1), -1);
        Due.more(most, "room 1;room 1;room 1;room 1;room 1;room 1");
        due("all in the sixth", most.pieces(9, 4, 1), 0);
        for (int i = 0; i < 9; i++) {
            due("piece " + i, most.roomOf(9, 4, i), 5);
        }
        due("no tenth", most.roomOf(9, 4, 9), -52);

        Due.of("31", "NONE: no ROOMS)");
        ClashDays y = Due.made("paper 0 4 6;cand 0 0;cand 0 0;takes 0 0;takes 1 0");
        due("no rooms", y.pieces(0, 0, 1), -1);
        y.room(1);
        due("a room", y.pieces(0, 0, 1), 0);
        due("none left", y.pieces(1, 0, 1), -1);
        due("pieces all the same", y.pieces(1, 0, 0), 1);

        Due.of("31", "NONE isn't refused");
        Due.noneRefused(y);

        Due.of("31", "BAD");
        Due.badOutside(WORLD, 0, 1, (z, c) -> z.pieces(c, 0, 0));
        Due.badOutside(WORLD, 0, 4, (z, day) -> z.pieces(0, day, 0));
        Due.badOutside(WORLD, 0, 1, (z, what) -> z.pieces(0, 0, what));
    }

    private static void roomOf() {
        Due.of("32", "The ROOM of one's i-th PIECE on a DAY");
        ClashDays x = Due.made("paper 1 4 6;paper 1 6 8;cand 0 0;cand 0 0;takes 0 0;takes 1 0 1;room 1;room 1");
        due("the first", x.roomOf(0, 1, 0), 0);
        for (int i = 0; i < 3; i++) {
            due("piece " + i, x.roomOf(1, 1, i), 1);
        }

        Due.of("32", "NONE");
        ClashDays y = Due.made("paper 1 4 6;paper 1 6 8;cand 0 0;cand 0 0;takes 0 0;takes 1 0 1;room 1");
        for (int i = 0; i < 3; i++) {
            due("none for any", y.roomOf(1, 1, i), -1);
        }
        due("no rooms at all", Due.made("paper 1 4 6;cand 0 0;takes 0 0").roomOf(0, 1, 0), -1);

        Due.of("32", "NONE isn't refused");
        Due.noneRefused(y);

        Due.of("32", "BAD: also no i-th");
        String world = "paper 1 4 6;paper 1 6 8;cand 0 0;cand 0 0;takes 0 0 1;room 1";
        Due.badOutside(world, 0, 2, (z, i) -> z.roomOf(0, 1, i));
        Due.badOutside("paper 1 4 6;cand 0 0;takes 0 0", 0, 0, (z, i) -> z.roomOf(0, 1, i));
        Due.refused(world, -52, z -> z.roomOf(1, 1, 0));
        Due.refused(world, -52, z -> z.roomOf(0, 0, 0));
        Due.badOutside(world, 0, 1, (z, c) -> z.roomOf(c, 1, 0));
        Due.badOutside(world, 0, 4, (z, day) -> z.roomOf(0, day, 0));
    }

    private static void left() {
        Due.of("33", "How many SEATS of a ROOM are left in a SLOT of a DAY, behind all");
        ClashDays x = Due.made("paper 2 4 6;cand 0 0;cand 0 0;cand 0 0;takes 0 0;takes 1 0;takes 2 0;room 2;room 9");
        int[] slots = {0, 3, 4, 9, 10, 47};
        int[] first = {2, 2, 0, 0, 2, 2};
        int[] second = {9, 9, 8, 8, 9, 9};
        for (int i = 0; i < slots.length; i++) {
            due("slot " + slots[i], x.left(0, 2, slots[i]), first[i]);
            due("slot " + slots[i], x.left(1, 2, slots[i]), second[i]);
            due("another day", x.left(0, 1, slots[i]), 2);
        }
        ClashDays y = Due.made("paper 0 4 6;paper 0 6 8;paper 0 47 9;cand 0 0;takes 0 0 1 2;night 0;room 1");
        due("a duty needs a seat, too", y.left(0, 0, 10), 0);
        due("and what came over", y.left(0, 1, 0), 0);
        due("to its end", y.left(0, 1, 8) * 10 + y.left(0, 1, 9), 1);

        Due.of("33", "BAD");
        Due.badOutside(WORLD, 0, 1, (z, r) -> z.left(r, 0, 0));
        Due.badOutside(WORLD, 0, 4, (z, day) -> z.left(0, day, 0));
        Due.badOutside(WORLD, 0, 47, (z, slot) -> z.left(0, 0, slot));
        Due.refused("cand 0 0", -52, z -> z.left(0, 0, 0));
    }
}
