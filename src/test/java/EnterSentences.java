/** A test for each sentence of promises 9 to 19 and 42 to 46. */
final class EnterSentences {
    private static final String WORLD = ShelfSentences.WORLD;

    private EnterSentences() {
    }

    static void all() {
        paper();
        starts();
        cand();
        takes();
        night();
        room();
        hours();
        turn();
        tape();
        book();
        changes();
        seed();
        image();
        back();
        backToFewer();
        status();
        statusOfRefusals();
    }

    private static void due(String call, long got, long want) {
        Due.due(call, got, want);
    }

    private static String times(int n, String statement) {
        StringBuilder all = new StringBuilder(statement);
        for (int i = 1; i < n; i++) {
            all.append(';').append(statement);
        }
        return all.toString();
    }

    private static void paper() {
        Due.of("9", "A PAPER: its number");
        ClashDays x = new ClashDays();
        due("the first", x.paper(4, 47, 12), 0);
        due("one like it is another one", x.paper(4, 47, 12), 1);
        due("the third", x.paper(0, 0, 1), 2);
        due("told", x.paperOf(0, 0) * 10000 + x.paperOf(0, 1) * 100 + x.paperOf(0, 2), 44712);
        due("nobody takes it", x.paperOf(0, 3), 0);

        Due.of("9", "BAD");
        Due.badOutside(WORLD, 0, 4, (y, day) -> y.paper(day, 0, 1));
        Due.badOutside(WORLD, 0, 47, (y, start) -> y.paper(0, start, 1));
        Due.badOutside(WORLD, 1, 12, (y, length) -> y.paper(0, 0, length));
        Due.refused(times(12, "paper 0 0 1"), -52, y -> y.paper(5, 0, 1));

        Due.of("9", "FULL");
        Due.refused(times(12, "paper 0 0 1"), -56, y -> y.paper(0, 0, 1));
        due("a twelfth", Due.made(times(11, "paper 0 0 1")).paper(0, 0, 1), 11);
    }

    private static void starts() {
        Due.of("10", "START of a PAPER becomes v: what it was");
        ClashDays x = Due.made("paper 0 4 6;paper 0 20 6;cand 0 0;takes 0 0");
        due("the last slot", x.starts(0, 47), 4);
        due("the first slot", x.starts(0, 0), 47);
        due("the same", x.starts(0, 0), 0);
        due("told", x.paperOf(0, 1), 0);
        due("sat", x.sits(0, 0, 0, 1), 0);
        due("the other", x.paperOf(1, 1), 20);

        Due.of("10", "BAD");
        Due.badOutside(WORLD, 0, 5, (y, p) -> y.starts(p, 3));
        Due.badOutside(WORLD, 0, 47, (y, v) -> y.starts(0, v));
        Due.refused("cand 0 0", -52, y -> y.starts(0, 0));
    }

    private static void cand() {
        Due.of("11", "A CANDIDATE: its number");
        ClashDays x = new ClashDays();
        due("the first", x.cand(5, 9), 0);
        due("one like it is another one", x.cand(5, 9), 1);
        due("the third", x.cand(0, 0), 2);
        due("told", x.candOf(1, 0) * 10 + x.candOf(1, 1), 59);
        due("night and papers", x.candOf(1, 2) + x.candOf(1, 3), 0);

        Due.of("11", "BAD");
        Due.badOutside(WORLD, 0, 5, (y, kind) -> y.cand(kind, 0));
        Due.badOutside(WORLD, 0, 9, (y, a) -> y.cand(0, a));
        Due.refused(times(10, "cand 0 0"), -52, y -> y.cand(0, 10));

        Due.of("11", "FULL");
        Due.refused(times(10, "cand 0 0"), -56, y -> y.cand(0, 0));
        due("a tenth", Due.made(times(9, "cand 0 0")).cand(0, 0), 9);
    }

    private static void takes() {
        Due.of("12", "One TAKES a PAPER, or not (is 1, 0): what was (1, 0)");
        ClashDays x = Due.made("paper 0 0 1;paper 0 9 1;cand 0 0;cand 0 0");
        due("takes", x.takes(0, 1, 1), 0);
        due("takes it again", x.takes(0, 1, 1), 1);
        due("told", x.candOf(0, 3), 2);
        due("doesn't any more", x.takes(0, 1, 0), 1);
        due("doesn't again", x.takes(0, 1, 0), 0);
        due("told", x.candOf(0, 3), 0);
        due("the other", x.takes(1, 0, 1), 0);
        due("told", x.candOf(0, 3) * 10 + x.candOf(1, 3), 1);

        Due.of("12", "BAD");
        Due.badOutside(WORLD, 0, 1, (y, c) -> y.takes(c, 0, 1));
        Due.badOutside(WORLD, 0, 5, (y, p) -> y.takes(0, p, 1));
        Due.badOutside(WORLD, 0, 1, (y, is) -> y.takes(0, 0, is));
        Due.refused(WORLD, -52, y -> y.takes(1, 2, 2));
        Due.badOutside(WORLD, 0, 5, (y, p) -> y.takes(0, p, 0));

        Due.of("12", "STUCK: a fifth of a DAY");
        Due.refused(WORLD, -55, y -> y.takes(1, 2, 1));
        ClashDays z = Due.made(WORLD);
        due("it doesn't", z.takes(1, 2, 0), 0);
        due("one of the four again", z.takes(1, 5, 1), 1);
        due("of another day", z.takes(1, 3, 1), 0);
        due("one of the four no more", z.takes(1, 5, 0), 1);
        due("now it is a fourth", z.takes(1, 2, 1), 0);
        due("papers", z.candOf(1, 3), 1 + 2 + 4 + 8 + 16);
        Due.noneRefused(z);
    }

    private static void night() {
        Due.of("13", "NIGHT of one becomes v: what it was");
        ClashDays x = Due.made("paper 0 47 2;cand 0 0;cand 0 0;takes 0 0");
        due("at first", x.night(0, 0), 0);
        due("becomes 1", x.night(0, 1), 0);
        due("is 1", x.night(0, 1), 1);
        due("goes over", x.plan(0, 0, 2), 0);
        due("the other", x.candOf(1, 2), 0);
        due("becomes 0", x.night(0, 0), 1);
        due("can't", x.plan(0, 0, 0), 0);

        Due.of("13", "BAD");
        Due.badOutside(WORLD, 0, 1, (y, c) -> y.night(c, 1));
        Due.badOutside(WORLD, 0, 1, (y, v) -> y.night(0, v));
    }

    private static void room() {
        Due.of("14", "A ROOM: its number");
        ClashDays x = new ClashDays();
        due("the first", x.room(9), 0);
        due("one like it is another one", x.room(9), 1);
        due("the third", x.room(1), 2);
        due("seats", x.left(0, 4, 47) * 100 + x.left(1, 0, 0) * 10 + x.left(2, 0, 0), 991);

        Due.of("14", "BAD");
        Due.badOutside(WORLD, 1, 9, (y, seats) -> y.room(seats));
        Due.refused(times(6, "room 1"), -52, y -> y.room(10));

        Due.of("14", "FULL");
        Due.refused(times(6, "room 1"), -56, y -> y.room(1));
        due("a sixth", Due.made(times(5, "room 1")).room(1), 5);
    }

    private static void hours() {
        Due.of("15", "HOURS becomes v: what it was");
        ClashDays x = Due.made("paper 0 0 9;cand 0 0;takes 0 0");
        due("the least", x.hours(8), 24);
        due("9 are above", x.plan(0, 0, 0), 0);
        due("the most", x.hours(40), 8);
        due("9 aren't", x.plan(0, 0, 0), 1);
        due("the same", x.hours(40), 40);

        Due.of("15", "BAD");
        Due.badOutside(WORLD, 8, 40, (y, v) -> y.hours(v));
    }

    private static void turn() {
        Due.of("16", "TURN becomes v: what it was");
        ClashDays x = new ClashDays();
        due("the least", x.turn(0), 1);
        due("the most", x.turn(8), 0);
        due("the same", x.turn(8), 8);

        Due.of("16", "BAD");
        Due.badOutside(WORLD, 0, 8, (y, v) -> y.turn(v));
    }

    private static void tape() {
        Due.of("17", "THE TAPE gets one byte (0 to 255) behind it: its size");
        ClashDays x = new ClashDays();
        due("the least", x.feed(0), 1);
        due("the most", x.feed(255), 2);
        due("size", x.status(7), 2);
        x.wipe();
        Due.feed(x, "hours 1");
        due("behind it", x.feed('9'), 8);
        due("read", x.book(), 1);
        due("19", x.status(3), 19);

        Due.of("17", "BAD");
        Due.badOutside(WORLD, 0, 255, (y, letter) -> y.feed(letter));

        Due.of("17", "FULL");
        String full = "feed " + times(125, "x").replace(';', ' ') + "x";
        Due.refused(full, -56, y -> y.feed(0));
        Due.refused(full, -52, y -> y.feed(256));
        due("a 250th", Due.made(full.substring(0, full.length() - 1)).feed(0), 250);

        Due.of("18", "THE TAPE is empty: its size ahead");
        ClashDays z = Due.made(full);
        due("its size", z.wipe(), 250);
        due("empty", z.wipe(), 0);
        due("size", z.status(7), 0);
        due("the first byte", z.feed('t'), 1);
        due("one", z.wipe(), 1);
    }

    private static void book() {
        Due.of("19", "THE TAPE is a BOOK: how many STATEMENTS");
        Due.book(new ClashDays(), "turn 1", 1);
        Due.book(new ClashDays(), "turn 1;turn 1;turn 1", 3);
        Due.book(Due.made("paper 0 0 1;cand 0 0"), "takes 0 0;takes 0 0;drops 0 0;drops 0 0", 4);
        Due.noneRefused(Due.withBook("turn 1"));

        Due.of("19", "-600 less the FAULT (that is refused, too: BAD)");
        ClashDays x = Due.made("feed paper");
        due("a fault at 5", x.book(), -605);
        due("BAD", x.status(12), 1);
        due("no other", x.status(13) + x.status(14) + x.status(15) + x.status(16), 0);
        Due.book(x, "", -600);
        Due.book(x, "turn 1;x", -607);
        due("BAD", x.status(12), 3);

        Due.of("19", "THE TAPE is empty then, either way");
        ClashDays z = Due.made("feed turn 1");
        due("read", z.book(), 1);
        due("empty", z.status(7), 0);
        due("not read twice", z.book(), -600);
        Due.more(z, "feed turn 9");
        due("a fault", z.book(), -605);
        due("empty", z.status(7), 0);
        due("the first byte", z.feed('t'), 1);
    }

    private static void changes() {
        Due.of("42", "CHANGES by draws, n (1 to 60): how many were done");
        ClashDays x = Due.made("paper 0 0 1;cand 0 0");
        due("one", x.changes(1), 1);
        due("most", x.changes(60), 60);
        due("61 are odd", x.candOf(0, 3), 1);
        int seed = 1;
        for (int i = 0; i < 122; i++) {
            seed = seed * 1103515245 + 12345;
        }
        due("two draws each", x.status(8), seed);
        Due.noneRefused(x);

        Due.of("42", "BAD");
        Due.badOutside(WORLD, 1, 60, (y, n) -> y.changes(n));
        Due.refused("paper 0 0 1", -52, y -> y.changes(0));
        Due.refused("room 1", -52, y -> y.changes(61));

        Due.of("42", "STUCK: no CANDIDATES, or no PAPERS");
        Due.refused("paper 0 0 1", -55, y -> y.changes(1));
        Due.refused("cand 0 0", -55, y -> y.changes(60));
        Due.refused("room 1", -55, y -> y.changes(1));
    }

    private static void seed() {
        Due.of("43", "SEED becomes v: the one ahead");
        ClashDays x = new ClashDays();
        due("at first", x.seed(Integer.MIN_VALUE), 1);
        due("any number", x.seed(Integer.MAX_VALUE), Integer.MIN_VALUE);
        due("any number", x.seed(-52), Integer.MAX_VALUE);
        due("any number", x.seed(-56), -52);
        due("any number", x.seed(0), -56);
        due("told", x.status(8), 0);
        Due.noneRefused(x);
    }

    private static void image() {
        Due.of("44", "All is kept, but THE TAPE, SHELVES and REFUSALS: 1");
        String kept = "paper 0 4 6;paper 1 9 2;cand 1 2;cand 2 3;takes 0 0;takes 1 0 1;night 1;room 4;hours 20;turn 3;seed 99";
        ClashDays x = Due.made(kept + ";row 0 2 2;set 0 0 5;feed turn 1");
        due("empty shelves are refused", x.set(5, 0, 0L), -54);
        due("image", x.image(), 1);
        Due.more(x, "paper 2 2 2;cand 3 3;takes 0 1;drops 1 0;night 0;room 1;hours 30;turn 5;seed 7;set 0 0 8;row 1 1 1;feed 9");
        x.starts(0, 40);
        x.night(1, 0);
        due("refused", x.hours(99), -52);
        due("back", x.back(), 1);
        due("the tape isn't", x.status(7), 7);
        due("a row isn't", x.element(0, 0), 8);
        due("a shelf isn't", x.holds(1), 1);
        due("refusals aren't", x.status(12) * 100 + x.status(14), 101);
        Due.more(x, "show 0 -1;show 1 -1");
        x.wipe();
        Due.more(x, "image");
        ClashDays same = Due.made(kept + ";image");
        Due.sameReading("all else is", x, same);

        Due.of("44", "All is kept");
        ClashDays y = Due.made("hours 10;image;hours 11;image;hours 12");
        due("back", y.back(), 1);
        due("the later image", y.status(3), 11);
        ClashDays empty = Due.made("image;" + kept);
        due("back to nothing", empty.back(), 1);
        Due.sameReading("nothing", empty, Due.made("image"));
    }

    private static void back() {
        Due.of("45", "All is again as it was kept");
        ClashDays x = Due.made("paper 0 4 6;cand 0 0;takes 0 0;image;hours 9");
        due("back", x.back(), 1);
        due("hours", x.status(3), 24);
        Due.more(x, "hours 12");
        due("back again", x.back(), 1);
        due("hours", x.status(3), 24);
        due("sits", x.sits(0, 0, 0, 1), 4);
        x.starts(0, 7);
        due("sits", x.sits(0, 0, 0, 1), 7);
        due("back", x.back(), 1);
        due("sits as it did", x.sits(0, 0, 0, 1), 4);

        ClashDays fewer = Due.made("paper 0 0 9;room 1;image;cand 1 9;takes 0 0;night 0");
        due("a piece", fewer.pieces(0, 0, 0), 1);
        due("back", fewer.back(), 1);
        due("a seat is left", fewer.left(0, 0, 0), 1);
        due("a new one", fewer.cand(0, 0), 0);
        due("without papers", fewer.candOf(0, 3) + fewer.candOf(0, 2), 0);
        due("without pieces", fewer.pieces(0, 0, 0), 0);
        due("who does nothing", fewer.does(0, 0, 0), -1);

        Due.of("45", "STUCK: nothing was");
        Due.refused("paper 0 0 1;hours 9;cand 0 0", -55, y -> y.back());
        due("STUCK", new ClashDays().back(), -55);
    }

    private static void backToFewer() {
        Due.of("45", "(SHELVES with CANDIDATES hold those of the same numbers, or NOTHING)");
        ClashDays x = Due.made("cand 1 1;cand 2 2;image;cand 3 3;cand 4 4;row 5 2 1;show 1 0;show 2 1;show 0 2;show 7 3");
        due("back", x.back(), 1);
        due("a row", x.holds(5), 2);
        due("the first", x.holds(1), 10);
        due("the last that was", x.holds(2), 11);
        due("the first that wasn't", x.holds(0), -1);
        due("another that wasn't", x.holds(7), -1);
        due("shelves", x.status(9), 3);
        Due.more(x, "cand 5 5");
        due("still nothing", x.holds(0), -1);
        due("what it says", x.says(0, 0, 1), -54);
        ClashDays y = Due.made("image;cand 1 5;show 7 0");
        due("back", y.back(), 1);
        due("none at all", y.holds(7), -1);
        ClashDays z = Due.made("cand 1 5;image;show 7 0");
        due("back", z.back(), 1);
        due("shown since then, but it was there", z.holds(7), 10);
        due("what it says", z.says(7, 0, 1), 5);
    }

    private static void status() {
        Due.of("46", "PAPERS (0), CANDIDATES (1), ROOMS (2), HOURS (3), TURN (4)");
        ClashDays x = Due.made("paper 0 0 1;paper 0 0 1;paper 0 0 1;cand 0 0;cand 0 0;room 1;hours 30;turn 6");
        int[] want = {3, 2, 1, 30, 6};
        for (int what = 0; what < 5; what++) {
            due("status(" + what + ")", x.status(what), want[what]);
        }

        Due.of("46", "all PAPERS that are TAKEN together (5)");
        due("none", x.status(5), 0);
        Due.more(x, "takes 0 0 1 2;takes 1 1 2");
        due("of both", x.status(5), 5);

        Due.of("46", "all DAYS on which somebody CAN'T (6)");
        ClashDays y = Due.made("paper 0 0 1;paper 1 47 2;paper 4 47 2;paper 2 40 9;cand 0 0;cand 0 0;takes 0 0");
        due("none", y.status(6), 0);
        Due.more(y, "takes 0 2");
        due("one", y.status(6), 1);
        ClashDays each = Due.made("paper 0 47 2;paper 1 47 2;paper 2 47 2;paper 3 47 2;paper 4 47 2;cand 0 0");
        for (int day = 0; day < 5; day++) {
            each.takes(0, day, 1);
            due("day " + day, each.status(6), day + 1);
        }
        Due.more(y, "takes 0 1");
        due("two of one", y.status(6), 2);
        Due.more(y, "takes 1 1");
        due("two on one day are one", y.status(6), 2);
        Due.more(y, "drops 1 1;drops 0 1;takes 1 3;night 1");
        due("what goes over isn't one", y.status(6), 1);
        Due.more(y, "drops 0 2;takes 1 1");
        due("none", y.status(6), 0);

        Due.of("46", "THE TAPE's size (7)");
        due("empty", y.status(7), 0);
        Due.more(y, "feed abc");
        due("three", y.status(7), 3);

        Due.of("46", "SEED (8)");
        due("at first", y.status(8), 1);
        Due.more(y, "seed -54");
        due("seed", y.status(8), -54);

        Due.of("46", "SHELVES that hold something (9)");
        due("none", y.status(9), 0);
        Due.more(y, "row 0 0 0;row 7 1 1;show 3 1");
        due("three", y.status(9), 3);
        Due.more(y, "show 0 -1;show 3 0;row 7 0 0");
        due("two", y.status(9), 2);
    }

    private static void statusOfRefusals() {
        Due.of("46", "12 to 16: REFUSALS -52 to -56");
        ClashDays x = Due.made(WORLD);
        int[] done = new int[5];
        Due.Call[] refusing = {y -> y.hours(0), y -> y.set(2, 0, 0L), y -> y.set(3, 0, 0L), y -> y.takes(1, 2, 1), y -> {
            int answer = 0;
            while (answer >= 0) {
                answer = y.room(1);
            }
            return answer;
        }};
        for (int i = 0; i < 5; i++) {
            for (int k = 0; k <= i; k++) {
                due("refused", refusing[i].on(x), -52 - i);
                done[i]++;
                for (int what = 12; what <= 16; what++) {
                    due("status(" + what + ")", x.status(what), done[what - 12]);
                }
            }
        }

        Due.of("46", "NONE another what");
        int[] other = {-1, 10, 11, 17, 52, Integer.MAX_VALUE, Integer.MIN_VALUE};
        for (int what : other) {
            ClashDays y = Due.made(WORLD);
            due("status(" + what + ")", y.status(what), -1);
            Due.noneRefused(y);
        }
    }
}
