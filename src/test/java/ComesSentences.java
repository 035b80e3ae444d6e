/** A test for each sentence of "3. WHAT COMES OF IT". */
final class ComesSentences {
    /** One is kept in 4 (by papers 0 and 1) or in 9 (by 2 and 3) of day 0, or in 1 of day 1 (by 4 and 5). */
    private static final String KEPT = "paper 0 3 1;paper 0 4 1;paper 0 8 1;paper 0 9 1;paper 1 0 1;paper 1 1 1";

    private ComesSentences() {
    }

    static void all() {
        nothingIsChanged();
        sittings();
        duties();
        longDuties();
        pieces();
        orderOfDuties();
        turns();
        midnight();
        whoEndedLast();
        atOnce();
        seatLeft();
        moves();
        noRoom();
        measures();
        changes();
        draws();
        shelves();
        rows();
    }

    private static void of(String part) {
        Due.of("COMES", part);
    }

    private static void due(String call, long got, long want) {
        Due.due(call, got, want);
    }

    private static void duty(ClashDays x, int i, int... want) {
        for (int what = 0; what < want.length; what++) {
            due("duty(" + i + ", " + what + ")", x.duty(i, what), want[what]);
        }
    }

    private static void watch(ClashDays x, int... want) {
        for (int what = 0; what < want.length; what++) {
            due("watch(" + what + ")", x.watch(what), want[what]);
        }
    }

    /** How many pieces, moves, and the room of each piece. */
    private static void rooms(ClashDays x, int cand, int day, int pieces, int moves, int... want) {
        due("pieces of " + cand, x.pieces(cand, day, 0), pieces);
        due("moves of " + cand, x.pieces(cand, day, 1), moves);
        for (int i = 0; i < want.length; i++) {
            due("room of piece " + i + " of " + cand, x.roomOf(cand, day, i), want[i]);
        }
        due("no more pieces of " + cand, x.roomOf(cand, day, pieces), -52);
    }

    private static void nothingIsChanged() {
        of("(nothing is changed)");
        String world = "paper 0 4 6;paper 0 6 8;paper 0 47 2;paper 1 0 9;cand 1 5;cand 4 7;takes 0 0 1 3;takes 1 0 2;night 1;room 1;room 2;"
            + "row 0 2 4;set 0 1 1;show 1 0;image;hours 23";
        Due.Call[] calls = {x -> x.whatIf(0, 0), x -> x.whatIf(0, 2), x -> x.both(0, 0, 1), x -> x.both(0, 2, 3), x -> x.relief(0),
            x -> x.retime(0), x -> x.retime(2), x -> x.hoursFor(0), x -> x.hoursFor(1), x -> x.kinds(0, 0, 1), x -> x.judge(0, 0, 0, 2),
            x -> x.best(0, 0, 1, -1), x -> x.best(1, 0, 0, 0), x -> x.lawful(0, 0), x -> x.measure(0, 0, 2), x -> x.plan(1, 0, 6),
            x -> x.sits(0, 0, 0, 0), x -> x.does(0, 0, 4), x -> x.together(0, 0, 4), x -> x.watch(2), x -> x.duty(0, 4),
            x -> x.pieces(0, 0, 1), x -> x.roomOf(0, 0, 0), x -> x.left(0, 0, 4), x -> x.candOf(0, 5), x -> x.paperOf(0, 4),
            x -> x.time(0, 0), x -> x.says(1, 1, 3), x -> x.element(0, 1), x -> x.holds(0), x -> x.status(6)};
        for (int i = 0; i < calls.length; i++) {
            ClashDays x = Due.made(world);
            due("call " + i + " isn't refused", calls[i].on(x) <= -52 ? 1 : 0, 0);
            Due.sameReading("behind call " + i, x, Due.made(world));
        }
    }

    private static void sittings() {
        of("SITTINGS of one on a DAY: what is sat from OVER, then THE PLAN, one by one");
        ClashDays x = Due.made("paper 0 47 2;paper 1 10 2;paper 1 20 2;paper 2 10 2;cand 0 0;cand 0 0;takes 0 0 1 2 3;takes 1 2;night 0");
        due("over and two", x.pieces(0, 1, 0), 3);
        due("one", x.pieces(0, 2, 0), 1);
        due("one, not from over", x.pieces(1, 1, 0), 1);
        due("none", x.pieces(0, 4, 0), 0);
        ClashDays y = Due.made("paper 0 47 1;paper 0 47 1;cand 0 0;takes 0 0 1;night 0");
        due("over for one slot", y.pieces(0, 1, 0), 1);
        DaySentences.does(x, 0, 1, 0, "00........11");
        DaySentences.does(x, 0, 1, 20, "22.");
    }

    private static void duties() {
        of("DUTIES of one on a DAY: the longest runs of SLOTS in which one is KEPT");
        ClashDays x = Due.made("paper 0 0 2;paper 0 1 2;paper 0 3 2;cand 4 6;takes 0 0 1 2");
        // sits 0 and 1, 8 and 9, 16 and 17: one run each between, though two wait in the first
        watch(x, 2);
        duty(x, 0, 0, 0, 2, 6);
        duty(x, 1, 0, 0, 10, 6);
        ClashDays y = Due.made("paper 0 44 9;paper 1 9 3;cand 0 0;takes 0 0 1;night 0");
        // a run ends with the day; the next day begins with the sitting, and a slot behind it
        watch(y, 2);
        duty(y, 0, 0, 0, 44, 4);
        duty(y, 1, 0, 1, 9, 1);
    }

    private static void longDuties() {
        of("the longest runs of SLOTS in which one is KEPT");
        // 12 and 1 are above 12 hours, so 0 goes over: one is kept from the first slot to the last, but where it sits 1 and 2
        ClashDays x = Due.made("paper 0 0 12;paper 0 20 1;paper 0 30 1;cand 0 0;takes 0 0 1 2;night 0;hours 12");
        DaySentences.plan(x, 0, 0, 1, 46, 0, 0, 0, 2);
        watch(x, 3);
        duty(x, 0, 0, 0, 0, 20);
        duty(x, 1, 0, 0, 21, 9);
        duty(x, 2, 0, 0, 31, 17);
        due("pieces", x.pieces(0, 0, 0), 5);
    }

    private static void pieces() {
        of("PIECES: SITTINGS and DUTIES together, by their first SLOT");
        // cand 2: over 0 to 3, kept 4 to 11, sits 12 and 13; room 0 is full in 5 to 8, room 1 in 0 to 3
        ClashDays x = Due.made("paper 1 5 4;paper 1 20 2;paper 1 0 4;paper 0 47 4;paper 1 4 2;cand 0 0;cand 0 0;cand 4 9;takes 0 0 1;"
            + "takes 1 2 1;takes 2 3 4;night 2;room 1;room 1");
        rooms(x, 0, 1, 2, 0, 0, 0);
        rooms(x, 1, 1, 2, 0, 1, 1);
        rooms(x, 2, 1, 3, 1, 0, 1, 1);
    }

    private static void orderOfDuties() {
        of("WATCHERS: all DUTIES of all, by DAYS, of several by their first SLOT, of several by CANDIDATES");
        ClashDays x = Due.made(KEPT + ";cand 0 0;cand 0 0;cand 0 0;takes 0 0 1 4 5;takes 1 2 3;takes 2 0 1");
        duty(x, 0, 0, 0, 4, 1, 0);
        duty(x, 1, 2, 0, 4, 1, 1);
        duty(x, 2, 1, 0, 9, 1, 0);
        duty(x, 3, 0, 1, 1, 1, 0);
        watch(x, 4, 2, 2);

        of("are given to WATCHERS 0 on");
        ClashDays y = Due.made(KEPT + ";cand 0 0;cand 0 0;cand 0 0;cand 0 0;takes 0 0 1;takes 1 0 1;takes 2 0 1;takes 3 2 3");
        for (int i = 0; i < 3; i++) {
            duty(y, i, i, 0, 4, 1, i);
        }
        duty(y, 3, 3, 0, 9, 1, 0);
        watch(y, 4, 3, 3);
    }

    /** One is kept in 4 and another in 4 and as many behind it as there is room for a turn, or one fewer. */
    private static void turns() {
        of("each to that of those whose latest DUTY ended TURN SLOTS ahead or more");
        for (int turn = 0; turn <= 8; turn++) {
            int just = 5 + turn;
            ClashDays x = Due.made("paper 0 3 1;paper 0 4 1;paper 0 " + (just - 1) + " 1;paper 0 " + just + " 1;cand 0 0;cand 0 0;"
                + "takes 0 0 1;takes 1 2 3;turn " + turn);
            duty(x, 1, 1, 0, just, 1, 0);
            watch(x, 2, 1, 1);
            x.starts(2, just - 2);
            x.starts(3, just - 1);
            duty(x, 1, 1, 0, just - 1, 1, 1);
            watch(x, 2, 2, 2);
        }

        of("END: the SLOT behind the last");
        // kept in 4 to 9, so the end is 10
        ClashDays y = Due.made("paper 0 3 1;paper 0 4 1;paper 0 9 1;paper 0 10 1;cand 4 6;cand 0 0;takes 0 0 1;takes 1 2 3;turn 0");
        duty(y, 0, 0, 0, 4, 6, 0);
        duty(y, 1, 1, 0, 10, 1, 0);
        y.starts(2, 8);
        y.starts(3, 9);
        duty(y, 1, 1, 0, 9, 1, 1);

        of("is there none, to a new one");
        due("watchers", y.watch(1), 2);
        due("not one too many", Due.made(KEPT + ";cand 0 0;takes 0 0 1 2 3").watch(1), 1);
    }

    private static void midnight() {
        of("SLOTS of all DAYS are counted on: 48 a DAY");
        // kept to the end of day 0, and in 8 of day 1
        ClashDays x = Due.made("paper 0 40 9;paper 1 7 1;paper 1 8 1;cand 0 0;cand 0 0;takes 0 0;takes 1 1 2;night 0;turn 8");
        duty(x, 0, 0, 0, 40, 8, 0);
        duty(x, 1, 1, 1, 8, 1, 0);
        watch(x, 2, 1, 1);
        x.starts(1, 6);
        x.starts(2, 7);
        duty(x, 1, 1, 1, 7, 1, 1);
        watch(x, 2, 2, 2);
        x.turn(7);
        watch(x, 2, 1, 1);
    }

    private static void whoEndedLast() {
        of("whose latest DUTY ended last, of several the first");
        // kept: cand 0 in 4, cand 1 in 4 to 9, cand 2 in 12: watchers 0 and 1 are free, and 1 ended last
        ClashDays x = Due.made("paper 0 3 1;paper 0 4 1;paper 0 11 1;paper 0 12 1;cand 0 0;cand 4 6;cand 0 0;takes 0 0 1;takes 1 0 1;takes 2 2 3");
        duty(x, 1, 1, 0, 4, 6, 1);
        duty(x, 2, 2, 0, 12, 1, 1);
        watch(x, 3, 2, 2);
        // both ended at 5
        ClashDays y = Due.made("paper 0 3 1;paper 0 4 1;paper 0 11 1;paper 0 12 1;cand 0 0;cand 0 0;cand 0 0;takes 0 0 1;takes 1 0 1;takes 2 2 3");
        duty(y, 2, 2, 0, 12, 1, 0);
        // kept: 4, 4 to 7, 8 to 13, 20: watcher 0 has the third, too, and ended last by that
        ClashDays z = Due.made("paper 0 3 1;paper 0 4 1;paper 0 7 1;paper 0 8 1;paper 0 19 1;paper 0 20 1;cand 0 0;cand 4 3;cand 4 6;cand 0 0;"
            + "takes 0 0 1;takes 1 0 1;takes 2 2 3;takes 3 4 5");
        duty(z, 0, 0, 0, 4, 1, 0);
        duty(z, 1, 1, 0, 4, 4, 1);
        duty(z, 2, 2, 0, 8, 6, 0);
        duty(z, 3, 3, 0, 20, 1, 0);
    }

    private static void atOnce() {
        of("AT ONCE: the most DUTIES of which each two are nearer than that");
        ClashDays x = Due.made(KEPT + ";cand 0 0");
        watch(x, 0, 0, 0);
        x.takes(0, 0, 1);
        x.takes(0, 1, 1);
        watch(x, 1, 1, 1);
        // kept in 4 to 9, in 4, and in 9: each of the small ones is near to the great one, but not to the other
        ClashDays y = Due.made(KEPT + ";cand 4 6;cand 0 0;cand 0 0;takes 0 0 1;takes 1 0 1;takes 2 2 3");
        watch(y, 3, 2, 2);
        duty(y, 2, 2, 0, 9, 1, 1);
        ClashDays z = Due.made("paper 0 3 1;paper 0 4 1;cand 0 0;cand 0 0;cand 0 0;cand 0 0;cand 0 0;cand 0 0;cand 0 0;cand 0 0;cand 0 0;cand 0 0;"
            + "takes 0 0 1;takes 1 0 1;takes 2 0 1;takes 3 0 1;takes 4 0 1;takes 5 0 1;takes 6 0 1;takes 7 0 1;takes 8 0 1;takes 9 0 1");
        watch(z, 10, 10, 10);

        of("a DUTY that begins TURN SLOTS behind the END of another one, or later, isn't");
        // kept in 4 and in 7
        ClashDays w = Due.made("paper 0 3 1;paper 0 4 1;paper 0 6 1;paper 0 7 1;cand 0 0;cand 0 0;takes 0 0 1;takes 1 2 3;turn 1");
        due("later", w.watch(2), 1);
        w.turn(2);
        due("just then", w.watch(2), 1);
        w.turn(3);
        due("nearer", w.watch(2), 2);
    }

    private static void seatLeft() {
        of("each in a ROOM in which a SEAT is left (by those of lesser numbers) in all SLOTS of it");
        // 0 to 3, 3 to 5 and 4 to 6, in rooms of one seat
        ClashDays x = Due.made("paper 0 0 4;paper 0 3 3;paper 0 4 3;cand 0 0;cand 0 0;cand 0 0;takes 0 0;takes 1 1;takes 2 2;room 1;room 1");
        rooms(x, 0, 0, 1, 0, 0);
        rooms(x, 1, 0, 1, 0, 1);
        rooms(x, 2, 0, 1, 0, 0);
        due("left in 3", x.left(0, 0, 3) * 10 + x.left(1, 0, 3), 0);
        due("left in 6", x.left(0, 0, 6) * 10 + x.left(1, 0, 6), 1);
        due("left in 7", x.left(0, 0, 7) * 10 + x.left(1, 0, 7), 11);
        due("another day", x.left(0, 1, 3) * 10 + x.left(1, 1, 3), 11);
        ClashDays y = Due.made("paper 0 0 4;cand 0 0;cand 0 0;cand 0 0;takes 0 0;takes 1 0;takes 2 0;room 2;room 9");
        rooms(y, 0, 0, 1, 0, 0);
        rooms(y, 1, 0, 1, 0, 0);
        rooms(y, 2, 0, 1, 0, 1);
        due("left", y.left(0, 0, 0) * 10 + y.left(1, 0, 0), 8);

        of("SEATS of a DAY: CANDIDATES by numbers");
        ClashDays z = Due.made("paper 0 0 4;cand 0 0;cand 0 0;takes 1 0;room 1");
        rooms(z, 1, 0, 1, 0, 0);
        z.takes(0, 0, 1);
        rooms(z, 0, 0, 1, 0, 0);
        rooms(z, 1, 0, 1, -1, -1);
    }

    /** Each of these is the last; those ahead of it fill room 0 in some slots and room 1 in others. */
    private static void moves() {
        of("with fewest MOVES (two PIECES, one behind the other, in two ROOMS)");
        // cand 0 sits in room 0 in 10 and 11: cand 1 has both pieces in room 1, though room 0 is left in the first
        ClashDays x = Due.made("paper 0 0 2;paper 0 10 2;paper 0 20 2;cand 0 0;cand 0 0;cand 0 0;takes 0 1;takes 1 0 1;takes 2 0 1 2;room 1;room 1;room 1");
        rooms(x, 1, 0, 2, 0, 1, 1);
        rooms(x, 2, 0, 3, 0, 2, 2, 2);
        ClashDays y = Due.made("paper 0 0 2;paper 0 10 2;paper 0 20 2;cand 0 0;cand 0 0;cand 0 0;takes 0 1;takes 1 0 1;takes 2 0 2;room 1;room 1");
        rooms(y, 2, 0, 2, 0, 0, 0);
        // room 1 is full in 0 and 10, room 0 in 10 alone, so piece 1 has no room at all; without it one move is needed
        ClashDays z = Due.made("paper 0 0 2;paper 0 10 2;paper 0 20 2;paper 0 30 2;cand 0 0;cand 0 0;cand 0 0;takes 0 1;takes 1 0 1;"
            + "takes 2 0 3;room 1;room 1");
        rooms(z, 2, 0, 2, 0, 0, 0);

        of("fewest MOVES (two PIECES, one behind the other, in two ROOMS), of several the first by rows");
        // cand 2 can be in room 0 alone in 0, in 1 alone in 10, in both in 20: 0 1 1, not 0 1 0
        ClashDays w = Due.made("paper 0 0 2;paper 0 10 2;paper 0 20 2;paper 0 30 2;cand 0 0;cand 0 0;cand 0 0;takes 0 1 3;takes 1 0 3;"
            + "takes 2 0 1 2;room 1;room 1");
        rooms(w, 0, 0, 2, 0, 0, 0);
        rooms(w, 1, 0, 2, 0, 1, 1);
        rooms(w, 2, 0, 3, 1, 0, 1, 1);
        // in 0 alone in 0, in both in 10, in 1 alone in 20: 0 0 1, not 0 1 1
        ClashDays v = Due.made("paper 0 0 2;paper 0 10 2;paper 0 20 2;paper 0 30 2;cand 0 0;cand 0 0;cand 0 0;takes 0 2 3;takes 1 0 3;"
            + "takes 2 0 1 2;room 1;room 1");
        rooms(v, 2, 0, 3, 1, 0, 0, 1);
    }

    private static void noRoom() {
        of("can one of its PIECES have no ROOM at all, it has none for any (and takes no SEAT)");
        ClashDays x = Due.made("paper 0 0 2;paper 0 10 2;cand 0 0;cand 0 0;cand 0 0;takes 0 1;takes 1 0 1;takes 2 0;room 1");
        rooms(x, 1, 0, 2, -1, -1, -1);
        due("no seat is taken", x.left(0, 0, 0), 1 - 1);
        rooms(x, 2, 0, 1, 0, 0);
        x.takes(2, 0, 0);
        due("no seat is taken", x.left(0, 0, 0), 1);
        due("but that of the first", x.left(0, 0, 10), 0);
    }

    private static void measures() {
        String world = "paper 0 0 5;paper 0 0 5;paper 0 1 2;paper 1 9 2;cand 0 0;takes 0 0 1 2 3";
        // the plan is 0, 1, 2: begins at 0, 6, 12, so it is kept in 5 and 11
        of("MEASURES of a LAWFUL ORDER: 0 how many SLOTS one is KEPT");
        ClashDays x = Due.made(world);
        due("measure", x.measure(0, 0, 0), 2);
        due("measure", x.measure(0, 1, 0), 0);

        of("1 the END of the last");
        due("measure", x.measure(0, 0, 1), 14);
        due("measure", x.measure(0, 1, 1), 11);

        of("2 all BEGINS less STARTS together");
        due("measure", x.measure(0, 0, 2), 0 + 6 + 11);
        due("measure", x.measure(0, 1, 2), 0);

        of("3 how many BEGIN behind their START");
        due("measure", x.measure(0, 0, 3), 2);
        due("measure", x.measure(0, 1, 3), 0);

        of("4 the most a PAPER BEGINS behind its START");
        due("measure", x.measure(0, 0, 4), 11);
        due("measure", x.measure(0, 1, 4), 0);
        ClashDays y = Due.made("paper 0 0 5;paper 0 1 2;paper 0 7 3;cand 0 0;takes 0 0 1 2");
        due("not that of the last", y.measure(0, 0, 4), 5);
    }

    private static void changes() {
        of("IN TRUTH CHANGES by draws, n times: a DRAW below how many CANDIDATES there are, a DRAW below how many PAPERS");
        // the first two draws are 16838 and 38526
        ClashDays x = Due.made("paper 0 0 1;paper 1 0 1;paper 2 0 1;paper 3 0 1;paper 4 0 1;cand 0 0;cand 0 0;cand 0 0;cand 0 0");
        due("changes", x.changes(1), 1);
        due("16838 by 4 is 2 more, 38526 by 5 is 1 more", x.candOf(2, 3), 2);
        due("nobody else", x.candOf(0, 3) + x.candOf(1, 3) + x.candOf(3, 3), 0);
        due("seed", x.status(8), twice(1));
        due("changes", x.changes(3), 3);
        due("seed", x.status(8), twice(twice(twice(twice(1)))));

        of("it TAKES that one, or, if it does, doesn't any more");
        ClashDays y = Due.made("paper 0 0 1;cand 0 0");
        due("one", y.changes(1), 1);
        due("takes", y.candOf(0, 3), 1);
        due("one", y.changes(1), 1);
        due("doesn't any more", y.candOf(0, 3), 0);
        due("two", y.changes(2), 2);
        due("doesn't any more", y.candOf(0, 3), 0);

        ClashDays asked = Due.made("paper 0 47 2;cand 0 0");
        due("can", asked.plan(0, 0, 0), 1);
        asked.changes(1);
        due("can't any more", asked.plan(0, 0, 0), 0);

        of("a fifth of a DAY: nothing");
        ClashDays z = Due.made("paper 0 0 1;paper 0 0 1;paper 0 0 1;paper 0 0 1;paper 0 0 1;cand 0 0;takes 0 0 2 3 4");
        // 38526 by 5 is 1 more: that would be a fifth
        due("nothing is done", z.changes(1), 0);
        due("papers", z.candOf(0, 3), 1 + 4 + 8 + 16);
        due("but the draws are", z.status(8), twice(1));
        z.seed(1);
        z.takes(0, 4, 0);
        due("a fourth", z.changes(1), 1);
        due("papers", z.candOf(0, 3), 1 + 2 + 4 + 8);
    }

    private static int twice(int seed) {
        int once = seed * 1103515245 + 12345;
        return once * 1103515245 + 12345;
    }

    private static void draws() {
        of("A DRAW below n: SEED (1 at first) becomes SEED times 1103515245, and 12345 (an int, wrapping)");
        ClashDays x = Due.made("paper 0 0 1;cand 0 0");
        due("at first", x.status(8), 1);
        x.changes(1);
        due("wrapped", x.status(8), -1770082073);
        int[] seeds = {0, -1, Integer.MAX_VALUE, Integer.MIN_VALUE, 123456789};
        for (int seed : seeds) {
            x.seed(seed);
            x.changes(1);
            long once = (int) (seed * 1103515245L + 12345L);
            due("behind " + seed, x.status(8), (int) (once * 1103515245L + 12345L));
        }

        of("its upper 16 bits, no sign, modulo n");
        // behind a seed of 0: 12345, that is 0; then -737109378, whose upper bits are 54288: 54288 by 11 is 3 more
        ClashDays y = Due.made("paper 0 0 1;paper 0 0 1;paper 1 0 1;paper 1 0 1;paper 2 0 1;paper 2 0 1;paper 3 0 1;paper 3 0 1;"
            + "paper 4 0 1;paper 4 0 1;paper 0 0 1;cand 0 0;cand 0 0;cand 0 0");
        int[] from = {0, 1, 2, 3, 77, -77, 1000000, Integer.MIN_VALUE};
        for (int seed : from) {
            y.seed(seed);
            int before = y.candOf(0, 3) ^ y.candOf(1, 3) << 11 ^ (int) ((long) y.candOf(2, 3) << 22);
            long first = upper(seed);
            long second = upper(seed * 1103515245 + 12345);
            int cand = (int) (first % 3);
            due("done", y.changes(1), 1);
            int behind = y.candOf(0, 3) ^ y.candOf(1, 3) << 11 ^ (int) ((long) y.candOf(2, 3) << 22);
            due("seed " + seed + " changes", before ^ behind, (int) (1L << second % 11 << 11 * cand));
        }
    }

    /** What a seed draws, as 0 to 65535. */
    private static long upper(int seed) {
        long next = (seed * 1103515245L + 12345L) & 0xffffffffL;
        return next >> 16;
    }

    private static void shelves() {
        of("SHELVES 0 to 7 hold NOTHING (at first), a ROW, or a CANDIDATE");
        ClashDays x = Due.made("cand 0 0");
        for (int s = 0; s < 8; s++) {
            due("nothing", x.holds(s), -1);
        }
        due("the first", x.row(0, 0, 0), 1);
        due("the last", x.show(7, 0), 1);
        due("told", x.holds(0) * 100 + x.holds(7), 10);
        Due.badOutside("cand 0 0", 0, 7, (y, s) -> y.row(s, 0, 0));
        Due.badOutside("cand 0 0", 0, 7, (y, s) -> y.show(s, 0));
    }

    private static void rows() {
        of("A ROW has a SORT (0 bytes, 1 shorts, 2 ints, 3 longs, 4 booleans)");
        ClashDays x = new ClashDays();
        for (int sort = 0; sort <= 4; sort++) {
            due("row", x.row(sort, sort, 1), 1);
            due("sort", x.holds(sort), sort);
        }
        Due.badOutside("cand 0 0", 0, 4, (y, sort) -> y.row(0, sort, 0));

        of("0 to 40 elements (0, or not so, at first)");
        ClashDays z = new ClashDays();
        due("none", z.row(0, 3, 0), 1);
        due("has none", z.set(0, 0, 1L), -52);
        due("most", z.row(0, 3, 40), 1);
        for (int i = 0; i < 40; i++) {
            due("at first", z.element(0, i), 0);
        }
        due("the last", z.set(0, 39, 9L), 1);
        due("none behind it", z.set(0, 40, 9L), -52);
        due("told", z.element(0, 39), 9);
        z.row(0, 4, 40);
        due("not so", z.element(0, 39), 0);
        Due.badOutside("cand 0 0", 0, 40, (y, n) -> y.row(0, 0, n));

        of("what is put in keeps its lowest bits (of booleans: whether it is not 0)");
        long[][] put = {
            {127, 127, 127, 127, 127, 1}, {128, -128, 128, 128, 128, 1}, {255, -1, 255, 255, 255, 1}, {256, 0, 256, 256, 256, 1},
            {-129, 127, -129, -129, -129, 1}, {32767, -1, 32767, 32767, 32767, 1}, {32768, 0, -32768, 32768, 32768, 1},
            {65536, 0, 0, 65536, 65536, 1}, {-32769, -1, 32767, -32769, -32769, 1}, {2147483647L, -1, -1, 2147483647L, 2147483647L, 1},
            {2147483648L, 0, 0, -2147483648L, 2147483648L, 1}, {4294967296L, 0, 0, 0, 4294967296L, 1},
            {Long.MAX_VALUE, -1, -1, -1, Long.MAX_VALUE, 1}, {Long.MIN_VALUE, 0, 0, 0, Long.MIN_VALUE, 1}, {-1, -1, -1, -1, -1, 1},
            {0, 0, 0, 0, 0, 0}};
        ClashDays w = Due.made("row 0 0 1;row 1 1 1;row 2 2 1;row 3 3 1;row 4 4 1");
        for (long[] one : put) {
            for (int sort = 0; sort < 5; sort++) {
                due("set", w.set(sort, 0, one[0]), 1);
                due("sort " + sort + " of " + one[0], w.element(sort, 0), one[sort + 1]);
            }
        }

        of("told they are numbers (1, 0)");
        ClashDays v = Due.made("row 0 4 2;set 0 1 7");
        due("so", v.element(0, 1), 1);
        due("not so", v.element(0, 0), 0);
        v.set(0, 1, 0L);
        due("not so any more", v.element(0, 1), 0);
    }
}
