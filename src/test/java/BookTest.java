/** Promises 1, 9 to 21 and 42 to 46: what there is, the tape, truth, image and status. */
final class BookTest {
    public static void main(String[] args) {
        newObject();
        papersAndCands();
        takesAndNights();
        roomsHoursTurn();
        tapeItself();
        booksRead();
        booksRefused();
        booksFull();
        tellings();
        changes();
        images();
        status();
        Due.finish();
    }

    private static void newObject() {
        ClashDays x = new ClashDays();
        int[] first = {0, 0, 0, 24, 1, 0, 0, 0, 1, 0, -1, -1, 0, 0, 0, 0, 0, -1};
        for (int what = 0; what < first.length; what++) {
            Due.due("1 status(" + what + ")", x.status(what), first[what]);
        }
        for (int s = 0; s < 8; s++) {
            Due.due("1 holds", x.holds(s), -1);
        }
        Due.due("1 watch(0)", x.watch(0), 0);
        Due.due("1 watch(1)", x.watch(1), 0);
        Due.due("1 watch(2)", x.watch(2), 0);
        Due.due("1 wipe", x.wipe(), 0);
        Due.due("1 back", x.back(), -55);
        Due.due("1 candOf", x.candOf(0, 0), -52);
        Due.due("1 paperOf", x.paperOf(0, 0), -52);
        Due.due("1 left", x.left(0, 0, 0), -52);
        Due.due("1 NONE", ClashDays.NONE, -1);
    }

    private static void papersAndCands() {
        ClashDays x = new ClashDays();
        Due.due("9 day -1", x.paper(-1, 0, 1), -52);
        Due.due("9 day 5", x.paper(5, 0, 1), -52);
        Due.due("9 start -1", x.paper(0, -1, 1), -52);
        Due.due("9 start 48", x.paper(0, 48, 1), -52);
        Due.due("9 length 0", x.paper(0, 0, 0), -52);
        Due.due("9 length 13", x.paper(0, 0, 13), -52);
        for (int p = 0; p < 12; p++) {
            Due.due("9 paper", x.paper(p % 5, 47 - p, p + 1), p);
        }
        Due.due("9 FULL", x.paper(0, 0, 1), -56);
        Due.due("9 BAD ahead of FULL", x.paper(0, 0, 13), -52);
        Due.due("9 refused", x.status(12), 7);
        Due.due("9 full ones", x.status(16), 1);
        Due.due("10 starts", x.starts(11, 0), 36);
        Due.due("10 starts", x.starts(11, 47), 0);
        Due.due("10 start", x.paperOf(11, 1), 47);
        Due.due("10 no paper", x.starts(12, 0), -52);
        Due.due("10 no paper", x.starts(-1, 0), -52);
        Due.due("10 48", x.starts(0, 48), -52);
        Due.due("10 -1", x.starts(0, -1), -52);
        Due.due("10 as it was", x.paperOf(0, 1), 47);
        Due.due("11 kind 6", x.cand(6, 0), -52);
        Due.due("11 kind -1", x.cand(-1, 0), -52);
        Due.due("11 a 10", x.cand(0, 10), -52);
        Due.due("11 a -1", x.cand(0, -1), -52);
        for (int c = 0; c < 10; c++) {
            Due.due("11 cand", x.cand(c % 6, 9 - c), c);
        }
        Due.due("11 FULL", x.cand(0, 0), -56);
        Due.due("11 BAD ahead of FULL", x.cand(6, 0), -52);
        Due.due("11 night at first", x.candOf(9, 2), 0);
        Due.due("11 papers at first", x.candOf(9, 3), 0);
        Due.due("11 a", x.candOf(8, 1), 1);
    }

    private static void takesAndNights() {
        ClashDays x = Due.withBook("paper 1 0 1;paper 1 0 1;paper 1 0 1;paper 1 0 1;paper 1 0 1;paper 2 0 1;cand 0 0;cand 0 0");
        for (int p = 0; p < 4; p++) {
            Due.due("12 takes", x.takes(0, p, 1), 0);
        }
        Due.due("12 a fifth", x.takes(0, 4, 1), -55);
        Due.due("12 stuck ones", x.status(15), 1);
        Due.due("12 it doesn't", x.takes(0, 4, 0), 0);
        Due.due("12 another day", x.takes(0, 5, 1), 0);
        Due.due("12 again", x.takes(0, 3, 1), 1);
        Due.due("12 bits", x.candOf(0, 3), 47);
        Due.due("12 not any more", x.takes(0, 0, 0), 1);
        Due.due("12 not a fifth", x.takes(0, 4, 1), 0);
        Due.due("12 bits", x.candOf(0, 3), 62);
        Due.due("12 is 2", x.takes(0, 0, 2), -52);
        Due.due("12 is -1", x.takes(0, 0, -1), -52);
        Due.due("12 no cand", x.takes(2, 0, 1), -52);
        Due.due("12 no cand", x.takes(-1, 0, 1), -52);
        Due.due("12 no paper", x.takes(0, 6, 1), -52);
        Due.due("12 no paper", x.takes(0, -1, 1), -52);
        Due.due("12 the other", x.candOf(1, 3), 0);
        Due.due("13 night", x.night(1, 1), 0);
        Due.due("13 night", x.night(1, 1), 1);
        Due.due("13 night", x.candOf(1, 2), 1);
        Due.due("13 the other", x.candOf(0, 2), 0);
        Due.due("13 night", x.night(1, 0), 1);
        Due.due("13 2", x.night(1, 2), -52);
        Due.due("13 -1", x.night(1, -1), -52);
        Due.due("13 no cand", x.night(2, 0), -52);
        Due.due("13 no cand", x.night(-1, 0), -52);
        Due.due("13 night", x.candOf(1, 2), 0);
    }

    private static void roomsHoursTurn() {
        ClashDays x = new ClashDays();
        Due.due("14 0", x.room(0), -52);
        Due.due("14 10", x.room(10), -52);
        for (int r = 0; r < 6; r++) {
            Due.due("14 room", x.room(r == 0 ? 9 : r), r);
        }
        Due.due("14 FULL", x.room(1), -56);
        Due.due("14 BAD ahead of FULL", x.room(0), -52);
        Due.due("14 seats", x.left(0, 0, 0), 9);
        Due.due("14 seats", x.left(5, 4, 47), 5);
        Due.due("15 7", x.hours(7), -52);
        Due.due("15 41", x.hours(41), -52);
        Due.due("15 8", x.hours(8), 24);
        Due.due("15 40", x.hours(40), 8);
        Due.due("15 hours", x.status(3), 40);
        Due.due("16 -1", x.turn(-1), -52);
        Due.due("16 9", x.turn(9), -52);
        Due.due("16 0", x.turn(0), 1);
        Due.due("16 8", x.turn(8), 0);
        Due.due("16 turn", x.status(4), 8);
    }

    private static void tapeItself() {
        ClashDays x = new ClashDays();
        Due.due("17 -1", x.feed(-1), -52);
        Due.due("17 256", x.feed(256), -52);
        for (int i = 1; i <= 250; i++) {
            Due.due("17 feed", x.feed(i % 256), i);
        }
        Due.due("17 FULL", x.feed(0), -56);
        Due.due("17 BAD ahead of FULL", x.feed(256), -52);
        Due.due("17 size", x.status(7), 250);
        Due.due("18 wipe", x.wipe(), 250);
        Due.due("18 wipe", x.wipe(), 0);
        Due.due("18 feed", x.feed(255), 1);
        Due.due("18 size", x.status(7), 1);
    }

    private static void booksRead() {
        ClashDays x = new ClashDays();
        Due.book(x, "paper 4 47 12", 1);
        Due.book(x, "  paper0 0 1;cand5 9 ;room9;turn8;hours08  ", 5);
        Due.due("19 day", x.paperOf(0, 0), 4);
        Due.due("19 start", x.paperOf(0, 1), 47);
        Due.due("19 length", x.paperOf(0, 2), 12);
        Due.due("19 kind", x.candOf(0, 0), 5);
        Due.due("19 a", x.candOf(0, 1), 9);
        Due.due("19 seats", x.left(0, 0, 0), 9);
        Due.due("19 turn", x.status(4), 8);
        Due.due("19 hours", x.status(3), 8);
        Due.due("19 tape", x.status(7), 0);
        Due.book(x, "takes 0 1;takes 0 1;takes 0 0;night 0", 4);
        Due.due("19 takes", x.candOf(0, 3), 3);
        Due.due("19 night", x.candOf(0, 2), 1);
        Due.book(x, "drops 0 1;drops 0 1;night 0;turn 0;hours 40", 5);
        Due.due("19 drops", x.candOf(0, 3), 1);
        Due.due("19 night", x.candOf(0, 2), 1);
        Due.book(x, "cand 1 2;paper 0 1 2;takes 1 2", 3);
        Due.due("19 takes what is new", x.candOf(1, 3), 4);
        Due.due("19 nothing refused", x.status(12), 0);
    }

    private static void booksRefused() {
        String[] texts = {"", "   ", ";", "paper", "paper 5 0 1", "paper 0 48 1", "paper 0 0 0", "paper 0 0 13",
            "paper 0 0 1;", "paper 0 0 1 ;  ", "paper 0 0 1 2", "paper 0 0 1paper", "paper 000 0 1", "paper 0;",
            "papers 0 0 1", "Paper 0 0 1", "pap er 0 0 1", "cand 6 0", "cand 0 10", "cand 0 x", "cand 0  ", "takes 0 0",
            "cand 0 0;takes 0 0", "cand 0 0;paper 0 0 1;takes 0 1", "cand 0 0;drops 0", "night 0", "cand 0 0;night 1",
            "room 0", "room 10", "hours 7", "hours 41", "turn 9", "turn 100", "7 7", "room 1,room 2", "room 1;;room 2",
            "turn\t1", "turn 1\u00e9", "paper 0 012 1", "cand 9 99 #", "room -1"};
        int[] faults = {0, 3, 0, 5, 6, 8, 10, 10,
            12, 15, 12, 11, 6, 7,
            0, 0, 0, 5, 7, 7, 8, 6,
            17, 29, 16, 6, 15,
            5, 5, 6, 6, 5, 5, 0, 6, 7,
            4, 6, 8, 5, 5};
        for (int i = 0; i < texts.length; i++) {
            ClashDays y = new ClashDays();
            Due.book(y, texts[i], -600 - faults[i]);
            Due.due("19 refused", y.status(12), 1);
            Due.due("19 tape", y.status(7), 0);
            Due.due("19 nothing", y.status(0) + y.status(1) + y.status(2), 0);
            Due.due("19 nothing", y.status(3) * 10 + y.status(4), 241);
        }
        ClashDays x = new ClashDays();
        Due.book(x, "paper 0 0 1;paper 0 0 1;paper 0 0 1;paper 0 0 1;paper 0 0 1;cand 0 0", 6);
        Due.book(x, "takes 0 0;takes 0 1;takes 0 2;takes 0 3;takes 0 3;takes 0 4", -600 - 58);
        Due.due("19 nothing", x.candOf(0, 3), 0);
        Due.book(x, "takes 0 0;takes 0 1;takes 0 2;takes 0 3;drops 0 0;takes 0 4", 6);
        Due.due("19 bits", x.candOf(0, 3), 30);
    }

    private static void booksFull() {
        ClashDays x = new ClashDays();
        for (int i = 0; i < 12; i++) {
            x.paper(0, 0, 1);
            x.cand(0, 0);
            x.room(1);
        }
        Due.book(x, "turn 2;paper 9 9 9", -607);
        Due.book(x, "turn 2;cand", -607);
        Due.book(x, "turn 2; room 77", -608);
        Due.due("19 turn", x.status(4), 1);
        ClashDays y = new ClashDays();
        for (int i = 0; i < 11; i++) {
            y.paper(0, 0, 1);
        }
        Due.book(y, "paper 0 0 1;paper 0 0 1", -612);
        Due.due("19 nothing", y.status(0), 11);
        Due.book(y, "paper 0 0 1", 1);
        Due.due("19 one", y.status(0), 12);
    }

    private static void tellings() {
        ClashDays x = Due.withBook("paper 0 4 6;paper 0 6 8;paper 3 1 2;cand 4 7;cand 0 0;cand 5 1;cand 2 9;cand 3 4;"
            + "takes 0 0;takes 0 1;takes 1 0;takes 1 1;takes 2 1;night 0");
        Due.due("20 kind", x.candOf(0, 0), 4);
        Due.due("20 a", x.candOf(0, 1), 7);
        Due.due("20 night", x.candOf(0, 2), 1);
        Due.due("20 papers", x.candOf(0, 3), 3);
        int[] rests = {6, 1, 2, 4, 1};
        for (int c = 0; c < 5; c++) {
            Due.due("20 rest", x.candOf(c, 4), rests[c]);
        }
        Due.due("20 cants", x.candOf(0, 5), 0);
        x.hours(13);
        Due.due("20 cants", x.candOf(1, 5), 1);
        Due.due("20 night helps", x.candOf(0, 5), 0);
        x.hours(24);
        Due.due("20 what 6", x.candOf(0, 6), -52);
        Due.due("20 what -1", x.candOf(0, -1), -52);
        Due.due("20 no cand", x.candOf(5, 0), -52);
        Due.due("20 no cand", x.candOf(-1, 0), -52);
        Due.due("21 day", x.paperOf(2, 0), 3);
        Due.due("21 start", x.paperOf(1, 1), 6);
        Due.due("21 length", x.paperOf(1, 2), 8);
        Due.due("21 takers", x.paperOf(1, 3), 3);
        Due.due("21 takers", x.paperOf(2, 3), 0);
        Due.due("21 late", x.paperOf(0, 4), 0);
        Due.due("21 late", x.paperOf(1, 4), 2);
        x.hours(13);
        // cand 0 lets paper 0 go over, cand 1 can't
        Due.due("21 over", x.paperOf(0, 4), 1);
        Due.due("21 late", x.paperOf(1, 4), 0);
        Due.due("21 what 5", x.paperOf(0, 5), -52);
        Due.due("21 what -1", x.paperOf(0, -1), -52);
        Due.due("21 no paper", x.paperOf(3, 0), -52);
        Due.due("21 no paper", x.paperOf(-1, 0), -52);
    }

    private static void changes() {
        ClashDays x = new ClashDays();
        Due.due("42 no cands", x.changes(1), -55);
        x.paper(0, 0, 1);
        Due.due("42 no cands", x.changes(1), -55);
        x.cand(0, 0);
        Due.due("42 0", x.changes(0), -52);
        Due.due("42 61", x.changes(61), -52);
        Due.due("42 one paper", x.changes(60), 60);
        Due.due("42 an even number", x.candOf(0, 3), 0);
        Due.due("42 an odd number", x.changes(1), 1);
        Due.due("42 takes", x.candOf(0, 3), 1);
        ClashDays y = Due.withBook("paper 0 0 1;paper 1 0 1;paper 2 0 1;cand 0 0;cand 0 0;cand 0 0;cand 0 0");
        // SEED 1, 1103527590, 2524885223: the upper halves are 16838 and 38526
        Due.due("42 changes", y.changes(1), 1);
        Due.due("42 seed", y.status(8), -1770082073);
        Due.due("42 cand 16838 % 4", y.candOf(2, 3), 1 << 38526 % 3);
        Due.due("42 changes", y.changes(1), 1);
        Due.due("42 seed", y.status(8), seedBehind(4));
        Due.due("43 seed", y.seed(-5), seedBehind(4));
        Due.due("43 seed", y.seed(1), -5);
        Due.due("43 seed", y.status(8), 1);
        ClashDays z = Due.withBook("paper 0 0 1;paper 0 0 1;paper 0 0 1;paper 0 0 1;paper 0 0 1;cand 0 0;"
            + "takes 0 0;takes 0 1;takes 0 2;takes 0 3");
        int bits = 15;
        int done = 0;
        int seed = 1;
        for (int i = 0; i < 60; i++) {
            seed = seed * 1103515245 + 12345;
            seed = seed * 1103515245 + 12345;
            int p = (seed >>> 16) % 5;
            if ((bits >> p & 1) == 1 || Integer.bitCount(bits) < 4) {
                bits ^= 1 << p;
                done++;
            }
        }
        Due.due("42 but a fifth", z.changes(60), done);
        Due.due("42 but a fifth", z.candOf(0, 3), bits);
        Due.due("42 some are not done", done < 60 ? 1 : 0, 1);
        Due.due("42 seed", z.status(8), seed);
    }

    private static int seedBehind(int draws) {
        int seed = 1;
        for (int i = 0; i < draws; i++) {
            seed = seed * 1103515245 + 12345;
        }
        return seed;
    }

    private static void images() {
        ClashDays x = Due.withBook("paper 0 4 6;cand 1 2;cand 2 3;room 4;takes 0 0;night 1");
        Due.due("44 image", x.image(), 1);
        x.starts(0, 9);
        x.paper(1, 2, 3);
        x.cand(3, 3);
        x.cand(4, 4);
        x.room(2);
        x.hours(9);
        x.turn(5);
        x.seed(77);
        x.takes(0, 0, 0);
        x.takes(1, 1, 1);
        x.night(1, 0);
        x.night(0, 1);
        x.feed('a');
        x.row(0, 2, 3);
        x.set(0, 1, 8);
        x.show(1, 1);
        x.show(2, 2);
        x.show(3, 3);
        x.hours(99);
        Due.due("45 back", x.back(), 1);
        int[] all = {1, 2, 1, 24, 1, 1, 0, 1, 1, 2, -1, -1, 1};
        for (int what = 0; what < all.length; what++) {
            Due.due("45 status(" + what + ")", x.status(what), all[what]);
        }
        Due.due("45 start", x.paperOf(0, 1), 4);
        Due.due("45 plan", x.sits(0, 0, 0, 1), 4);
        Due.due("45 night", x.candOf(1, 2), 1);
        Due.due("45 night", x.candOf(0, 2), 0);
        Due.due("45 takes", x.candOf(1, 3), 0);
        Due.due("45 seats", x.left(0, 1, 0), 4);
        Due.due("45 no room", x.left(1, 0, 0), -52);
        Due.due("45 row", x.element(0, 1), 8);
        Due.due("45 same number", x.holds(1), 11);
        Due.due("45 NOTHING", x.holds(2), -1);
        Due.due("45 NOTHING", x.holds(3), -1);
        x.cand(5, 1);
        Due.due("45 still NOTHING", x.holds(2), -1);
        Due.due("45 back again", x.back(), 1);
        Due.due("45 cands", x.status(1), 2);
        x.hours(30);
        x.image();
        x.hours(31);
        x.back();
        Due.due("44 a later image", x.status(3), 30);
    }

    private static void status() {
        ClashDays x = Due.withBook("paper 0 40 9;paper 1 40 9;paper 1 0 2;cand 0 0;cand 0 0;cand 0 0;room 2;"
            + "takes 0 0;takes 1 0;takes 1 1;takes 1 2;turn 3;hours 20");
        int[] all = {3, 3, 1, 20, 3, 4, 2, 0, 1, 0};
        for (int what = 0; what < all.length; what++) {
            Due.due("46 status(" + what + ")", x.status(what), all[what]);
        }
        x.row(7, 0, 0);
        x.show(6, 0);
        x.feed(3);
        Due.due("46 shelves", x.status(9), 2);
        Due.due("46 tape", x.status(7), 1);
        x.hours(0);
        x.set(6, 0, 0L);
        x.set(6, 0, 0L);
        x.set(5, 0, 0L);
        x.measure(0, 0, 0);
        x.measure(1, 1, 1);
        x.measure(2, 2, 2);
        for (int i = 0; i < 6; i++) {
            x.room(1);
        }
        int[] refused = {1, 2, 1, 3, 1};
        for (int i = 0; i < 5; i++) {
            Due.due("46 refusals " + i, x.status(12 + i), refused[i]);
        }
        int[] none = {-1, 10, 11, 17, Integer.MAX_VALUE, Integer.MIN_VALUE};
        for (int what : none) {
            Due.due("46 status(" + what + ")", x.status(what), -1);
        }
    }
}
