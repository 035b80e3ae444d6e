/** A test for each sentence of the refusals and the details, and for how many calls there are. */
final class DetailSentences {
    private static final String WORLD = ShelfSentences.WORLD;

    private DetailSentences() {
    }

    static void all() {
        howManyCalls();
        refusals();
        firstThatFits();
        firstThatFitsLater();
        numbers();
        tapes();
        nights();
        withoutPapers();
        others();
    }

    private static void due(String call, long got, long want) {
        Due.due(call, got, want);
    }

    private static void howManyCalls() {
        Due.of("ABOUT", "An object is used for at most 512 calls after it has been made");
        ClashDays x = new ClashDays();
        int was = 1;
        for (int i = 1; i <= 512; i++) {
            due("call " + i, x.seed(i * 3), was);
            was = i * 3;
        }
        ClashDays y = new ClashDays();
        for (int i = 1; i <= 511; i++) {
            due("call " + i, y.hours(7), -52);
        }
        due("the last call", y.status(12), 511);

        Due.of("ABOUT", "what later calls answer is free");
        for (int i = 0; i < 600; i++) {
            y.cand(0, 0);
        }
        due("they answer something", y.status(-1) < 1000000 ? 1 : 0, 1);
    }

    private static void refusals() {
        Due.of("REFUSALS", "the call answers the number");
        due("BAD", Due.made(WORLD).hours(0), -52);
        due("OTHER", Due.made(WORLD).set(2, 0, 0L), -53);
        due("NOTHING", Due.made(WORLD).set(3, 0, 0L), -54);
        due("STUCK", Due.made(WORLD).takes(1, 2, 1), -55);
        due("FULL", Due.made("room 1;room 1;room 1;room 1;room 1;room 1").room(1), -56);

        Due.of("REFUSALS", "nothing changes but how many there were");
        ClashDays x = Due.made(WORLD);
        for (int i = 1; i <= 3; i++) {
            x.hours(41);
            x.set(2, 0, 5L);
            x.set(3, 0, 5L);
            x.takes(1, 2, 1);
            x.copy(0, 1, 0, 0, 1);
            due("BAD", x.status(12), i);
            due("OTHER", x.status(13), 2 * i);
            due("NOTHING", x.status(14), i);
            due("STUCK", x.status(15), i);
            due("FULL", x.status(16), 0);
        }
        Due.sameReading("nothing else", x, Due.made(WORLD));
        ClashDays y = Due.made(WORLD);
        y.back();
        y.hours(41);
        due("going back isn't refused", y.back(), 1);
        due("and leaves them", y.status(12), 1);
    }

    private static void firstThatFits() {
        Due.of("REFUSALS", "the first that fits as each line has them");
        Due.refused(WORLD, -53, x -> x.set(2, -1, 0L));
        Due.refused(WORLD, -54, x -> x.set(3, -1, 0L));
        Due.refused(WORLD, -52, x -> x.copy(8, 2, -1, -1, -1));
        Due.refused(WORLD, -53, x -> x.copy(3, 2, -1, -1, -1));
        Due.refused(WORLD, -53, x -> x.copy(0, 1, -1, -1, -1));
        Due.refused(WORLD, -54, x -> x.copy(3, 1, -1, -1, -1));
        Due.refused(WORLD, -52, x -> x.says(2, 6, 1));
        Due.refused(WORLD, -52, x -> x.says(0, 0, 13));
        Due.refused(WORLD, -52, x -> x.says(3, 0, 0));
        Due.refused(WORLD, -52, x -> x.takes(1, 2, 2));
        String papers = "paper 0 0 1;paper 0 0 1;paper 0 0 1;paper 0 0 1;paper 0 0 1;paper 0 0 1;paper 0 0 1;paper 0 0 1;paper 0 0 1;"
            + "paper 0 0 1;paper 0 0 1;paper 0 0 1";
        Due.refused(papers, -52, x -> x.paper(0, 0, 13));
        Due.refused(papers, -56, x -> x.paper(0, 0, 12));
        String cands = "cand 0 0;cand 0 0;cand 0 0;cand 0 0;cand 0 0;cand 0 0;cand 0 0;cand 0 0;cand 0 0;cand 0 0";
        Due.refused(cands, -52, x -> x.cand(0, 10));
        Due.refused(cands, -56, x -> x.cand(5, 9));
        String rooms = "room 1;room 1;room 1;room 1;room 1;room 1";
        Due.refused(rooms, -52, x -> x.room(0));
        Due.refused(rooms, -56, x -> x.room(9));
    }

    private static void firstThatFitsLater() {
        Due.of("REFUSALS", "as each line has them");
        Due.refused(WORLD, -52, x -> x.measure(0, 3, 5));
        Due.refused(WORLD, -55, x -> x.measure(0, 3, 4));
        Due.refused(WORLD, -52, x -> x.whatIf(2, 2));
        Due.refused(WORLD, -52, x -> x.both(1, 2, 6));
        Due.refused(WORLD, -52, x -> x.kinds(2, 2, 1));
        Due.refused(WORLD, -53, x -> x.kinds(0, 2, 12));
        Due.refused(WORLD, -54, x -> x.kinds(0, 3, 12));
        Due.refused("cand 0 0;row 0 3 3;set 0 0 9", -52, x -> x.kinds(0, 0, 2));
        Due.refused("cand 0 0;row 0 3 4;set 0 0 9", -55, x -> x.kinds(0, 0, 2));
        Due.refused(WORLD, -52, x -> x.judge(0, 5, 2, 1));
        Due.refused(WORLD, -53, x -> x.judge(0, 0, 2, 12));
        Due.refused(WORLD, -54, x -> x.judge(0, 0, 3, 12));
        Due.refused("room 1", -52, x -> x.changes(61));
        Due.refused("room 1", -55, x -> x.changes(60));
    }

    private static void numbers() {
        Due.of("REFUSALS", "-52 BAD a number that may not be, nothing of that number");
        Due.refused(WORLD, -52, x -> x.hours(7));
        Due.refused(WORLD, -52, x -> x.candOf(2, 0));
        Due.refused(WORLD, -52, x -> x.paperOf(6, 0));
        Due.refused(WORLD, -52, x -> x.left(2, 0, 0));

        Due.of("REFUSALS", "-53 OTHER: a SHELF that holds another thing than is wanted");
        Due.refused(WORLD, -53, x -> x.says(0, 0, 1));
        Due.refused(WORLD, -53, x -> x.set(2, 0, 1L));
        Due.refused(WORLD, -53, x -> x.copy(2, 0, 0, 0, 1));
        Due.refused(WORLD, -53, x -> x.kinds(0, 2, 1));
        Due.refused(WORLD, -53, x -> x.judge(0, 0, 2, 1));

        Due.of("REFUSALS", "-54 NOTHING: a SHELF that holds NOTHING");
        Due.refused(WORLD, -54, x -> x.says(3, 0, 1));
        Due.refused(WORLD, -54, x -> x.set(3, 0, 1L));
        Due.refused(WORLD, -54, x -> x.copy(0, 3, 0, 0, 1));
        Due.refused(WORLD, -54, x -> x.kinds(0, 3, 1));
        Due.refused(WORLD, -54, x -> x.judge(0, 0, 3, 1));

        Due.of("REFUSALS", "-55 STUCK: it can't be as things stand");
        Due.refused(WORLD, -55, x -> x.takes(1, 2, 1));
        Due.refused(WORLD, -55, x -> x.measure(0, 4, 0));
        Due.refused(WORLD, -55, x -> x.whatIf(1, 2));
        Due.refused(WORLD, -55, x -> x.both(1, 2, 0));
        Due.refused("cand 0 0", -55, x -> x.changes(1));
        Due.refused("cand 0 0", -55, x -> x.back());

        Due.of("REFUSALS", "-56 FULL");
        Due.refused("room 9;room 9;room 9;room 9;room 9;room 9", -56, x -> x.room(9));
    }

    private static void tapes() {
        Due.of("DETAILS", "Blanks need not stand between a WORD and a NUMBER");
        ClashDays x = new ClashDays();
        Due.book(x, "paper4 47 12;cand5 9;takes0 0;night0;room9;hours40;turn8", 7);
        due("read", x.paperOf(0, 0) * 10000 + x.paperOf(0, 1) * 100 + x.paperOf(0, 2), 44712);
        due("read", x.candOf(0, 3) * 10 + x.candOf(0, 2), 11);
        due("read", x.status(3) * 10 + x.status(4), 408);
        Due.book(x, "drops0 0", 1);
        due("read", x.candOf(0, 3), 0);
        Due.book(x, "turn1;turn2", 2);
        Due.book(x, "turn01hours 8", -606);

        Due.of("DETAILS", "a text without TOKENS has its FAULT at its size");
        Due.book(new ClashDays(), "", -600);
        Due.book(new ClashDays(), " ", -601);
        Due.book(new ClashDays(), "       ", -607);
    }

    private static void nights() {
        Due.of("DETAILS", "KEPT counts the waiting of what goes OVER, too");
        ClashDays x = Due.made("paper 0 40 9;paper 0 43 2;cand 0 0;takes 0 0 1;night 0;hours 10");
        // 0 goes over: kept from 40 to 47, but in 43 and 44
        DaySentences.plan(x, 0, 0, 1, 6, 0, 0, 0, 1);
        due("all slots together", x.both(0, 0, 0), 6);
        due("duties", x.watch(0), 2);
        due("the first", x.duty(0, 2) * 10 + x.duty(0, 3), 403);
        due("the other", x.duty(1, 2) * 10 + x.duty(1, 3), 453);
        due("pieces", x.pieces(0, 0, 0), 3);

        Due.of("DETAILS", "What goes OVER BEGINS at another time than its START");
        due("one", x.paperOf(0, 4), 1);
        due("the other is in time", x.paperOf(1, 4), 0);
        due("at the last slot, too", Due.made("paper 0 47 2;cand 0 0;takes 0 0;night 0").paperOf(0, 4), 1);
        due("at the first slot, too", Due.made("paper 1 0 9;paper 0 47 12;cand 0 0;takes 0 0 1;night 0;hours 12").paperOf(0, 4), 1);

        Due.of("DETAILS", "On a DAY on which one CAN'T, 0 SLOTS are KEPT");
        ClashDays y = Due.made("paper 0 4 6;paper 0 6 8;paper 0 47 2;cand 0 0;takes 0 0 1 2");
        due("one can't", y.plan(0, 0, 0), 0);
        due("kept", y.plan(0, 0, 1), 0);
        due("all together", y.both(0, 0, 0), 0);
        due("duties", y.watch(0), 0);
        DaySentences.does(y, 0, 0, 4, "............................................");
    }

    private static void withoutPapers() {
        Due.of("DETAILS", "FREE and AHEAD are told also of a DAY without PAPERS");
        ClashDays x = Due.made("paper 0 40 9;cand 4 9;takes 0 0;night 0");
        due("free", x.plan(0, 1, 3), 17);
        due("ahead", x.plan(0, 1, 4), 9);
        due("free, where nothing came", x.plan(0, 2, 3), 0);
        due("ahead, where nothing came", x.plan(0, 2, 4), 0);
        ClashDays cant = Due.made("paper 0 40 9;paper 1 40 9;cand 4 9;takes 0 0 1;night 0;hours 9");
        due("and of one on which one goes over", cant.plan(0, 1, 4), 9);

        Due.of("DETAILS", "Without PIECES there are 0 MOVES, also without ROOMS");
        due("no rooms", Due.made("cand 0 0").pieces(0, 0, 1), 0);
        due("a room", Due.made("cand 0 0;room 1").pieces(0, 0, 1), 0);
        due("no pieces", Due.made("cand 0 0").pieces(0, 0, 0), 0);
        ClashDays y = Due.made("paper 0 0 1;cand 0 0;takes 0 0");
        due("another day", y.pieces(0, 1, 1), 0);
        due("that day", y.pieces(0, 0, 1), -1);
    }

    private static void others() {
        Due.of("DETAILS", "CHANGES count what was done alone");
        // each draw of another paper than the four would be a fifth
        ClashDays x = Due.made("paper 0 0 1;paper 0 0 1;paper 0 0 1;paper 0 0 1;paper 0 0 1;paper 0 0 1;cand 0 0;takes 0 0 1 2 3");
        int bits = 15;
        int seed = 1;
        int done = 0;
        for (int i = 0; i < 60; i++) {
            seed = (seed * 1103515245 + 12345) * 1103515245 + 12345;
            int p = (seed >>> 16) % 6;
            boolean may = (bits & 1 << p) != 0 || Integer.bitCount(bits) < 4;
            bits ^= may ? 1 << p : 0;
            done += may ? 1 : 0;
        }
        due("done", x.changes(60), done);
        due("fewer than draws", done < 60 ? 1 : 0, 1);
        due("papers", x.candOf(0, 3), bits);
        due("seed", x.status(8), seed);

        Due.of("DETAILS", "OTHER goes ahead of NOTHING");
        Due.refused(WORLD, -53, y -> y.copy(2, 3, 0, 0, 1));
        Due.refused(WORLD, -53, y -> y.copy(3, 2, 0, 0, 1));

        Due.of("DETAILS", "of 0 elements the places are looked at all the same");
        String rows = "row 0 2 4;row 1 2 3;row 2 2 0";
        ClashDays z = Due.made(rows);
        due("places that there are", z.copy(0, 1, 3, 2, 0), 0);
        due("behind the last", z.copy(0, 1, 4, 3, 0), 0);
        due("of none", z.copy(2, 2, 0, 0, 0), 0);
        Due.noneRefused(z);
        Due.badOutside(rows, 0, 4, (y, i) -> y.copy(0, 1, i, 0, 0));
        Due.badOutside(rows, 0, 3, (y, j) -> y.copy(0, 1, 0, j, 0));
        Due.badOutside(rows, 0, 0, (y, i) -> y.copy(2, 2, i, 0, 0));

        Due.of("DETAILS", "A LENGTH may go beyond the end of the DAY");
        ClashDays w = new ClashDays();
        due("paper", w.paper(0, 47, 12), 0);
        due("start", w.paper(0, 0, 12) + w.starts(1, 47), 1);
        due("told", w.paperOf(1, 1) * 100 + w.paperOf(1, 2), 4712);
        Due.book(w, "paper 0 47 12", 1);

        Due.of("DETAILS", "By no elements all KINDS are so");
        ClashDays v = Due.made("cand 3 9;row 0 0 0;row 1 3 40");
        due("of an empty row", v.kinds(0, 0, 0), 63);
        due("of a row", v.kinds(0, 1, 0), 63);
        due("without papers", v.status(0), 0);
    }
}
