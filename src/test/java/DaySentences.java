/** A test for each sentence of "2. A DAY OF ONE". */
final class DaySentences {
    private static final int[] ALL_LENGTHS = {1, 2, 3, 4, 5, 6, 7, 8, 9, 10, 11, 12};

    private DaySentences() {
    }

    static void all() {
        times();
        rests();
        freeAndAhead();
        orders();
        lawful();
        kept();
        plans();
        goesOver();
        notOver();
        ofSeveralOver();
        nextDay();
        cant();
        oneBehindTheOther();
        clash();
    }

    private static void of(String part) {
        Due.of("DAY", part);
    }

    private static void due(String call, long got, long want) {
        Due.due(call, got, want);
    }

    /** Can, kept, over, free, ahead, how many sit. */
    static void plan(ClashDays x, int cand, int day, int... want) {
        for (int what = 0; what < want.length; what++) {
            due("plan(" + cand + ", " + day + ", " + what + ")", x.plan(cand, day, what), want[what]);
        }
    }

    /** Paper, begin and end of each of an order, and no more. */
    static void sits(ClashDays x, int cand, int day, int... want) {
        int n = want.length / 3;
        due("how many sit", x.plan(cand, day, 5), n);
        for (int k = 0; k < want.length; k++) {
            due("sits(" + cand + ", " + day + ", " + k / 3 + ", " + k % 3 + ")", x.sits(cand, day, k / 3, k % 3), want[k]);
        }
    }

    /** One letter a slot from a slot on: the paper's digit, k kept, . none. */
    static void does(ClashDays x, int cand, int day, int from, String want) {
        for (int i = 0; i < want.length(); i++) {
            char w = want.charAt(i);
            int answer = w == '.' ? -1 : w == 'k' ? 20 : w - '0';
            due("does(" + cand + ", " + day + ", " + (from + i) + ")", x.does(cand, day, from + i), answer);
        }
    }

    /** Times of papers of 1 to 12 for one of a kind. */
    private static void times(int kind, int a, int... want) {
        ClashDays x = new ClashDays();
        x.cand(kind, a);
        for (int length : ALL_LENGTHS) {
            x.paper(0, 0, length);
        }
        for (int p = 0; p < 12; p++) {
            due("time of length " + (p + 1) + " for kind " + kind + " and a " + a, x.time(0, p), want[p]);
        }
    }

    private static void times() {
        of("TIME of a PAPER for one: CANDIDATE: LENGTH");
        times(0, 0, ALL_LENGTHS);
        times(0, 9, ALL_LENGTHS);

        of("SLOW: what a CANDIDATE has, and LENGTH times a, by 10 (upward), more");
        times(1, 0, ALL_LENGTHS);
        times(1, 1, 2, 3, 4, 5, 6, 7, 8, 9, 10, 11, 13, 14);
        times(1, 5, 2, 3, 5, 6, 8, 9, 11, 12, 14, 15, 17, 18);
        times(1, 9, 2, 4, 6, 8, 10, 12, 14, 16, 18, 19, 21, 23);

        of("SLOWER: what a SLOW has, and 1 more");
        times(3, 0, 2, 3, 4, 5, 6, 7, 8, 9, 10, 11, 12, 13);
        times(3, 1, 3, 4, 5, 6, 7, 8, 9, 10, 11, 12, 14, 15);
        times(3, 9, 3, 5, 7, 9, 11, 13, 15, 17, 19, 20, 22, 24);

        of("READER: what a CANDIDATE has, and 2 more");
        times(5, 0, 3, 4, 5, 6, 7, 8, 9, 10, 11, 12, 13, 14);
        times(5, 9, 3, 4, 5, 6, 7, 8, 9, 10, 11, 12, 13, 14);
    }

    private static void rests(int kind, int... want) {
        ClashDays x = new ClashDays();
        for (int a = 0; a < 10; a++) {
            x.cand(kind, a);
            due("rest of kind " + kind + " and a " + a, x.candOf(a, 4), want[a]);
        }
    }

    private static void rests() {
        of("REST of one: CANDIDATE 1");
        rests(0, 1, 1, 1, 1, 1, 1, 1, 1, 1, 1);

        of("RESTING: what a CANDIDATE has, and a by 3 (cut) more");
        rests(2, 1, 1, 1, 2, 2, 2, 3, 3, 3, 4);

        of("RESTED: what a RESTING has, twice");
        rests(4, 2, 2, 2, 4, 4, 4, 6, 6, 6, 8);

        of("READER: what a CANDIDATE has, and 1 more");
        rests(5, 2, 2, 2, 2, 2, 2, 2, 2, 2, 2);

        of("Others as the KIND above them");
        times(2, 9, ALL_LENGTHS);
        times(4, 9, ALL_LENGTHS);
        rests(1, 1, 1, 1, 1, 1, 1, 1, 1, 1, 1);
        rests(3, 1, 1, 1, 1, 1, 1, 1, 1, 1, 1);
    }

    private static void freeAndAhead() {
        of("FREE of a DAY (0, if nothing else is said)");
        ClashDays x = Due.made("paper 1 5 3;cand 4 9;takes 0 0;night 0");
        for (int day = 0; day < 5; day++) {
            due("free", x.plan(0, day, 3), 0);
        }
        ClashDays y = Due.made("paper 1 0 3;cand 4 9;takes 0 0");
        due("so one may begin in slot 0", y.sits(0, 1, 0, 1), 0);

        of("AHEAD of it (0, if nothing else is said)");
        for (int day = 0; day < 5; day++) {
            due("ahead", x.plan(0, day, 4), 0);
        }
    }

    private static void orders() {
        of("An ORDER of some PAPERS of one and the same DAY, each once");
        ClashDays x = Due.made("paper 2 0 1;paper 1 0 1;paper 2 0 1;paper 3 0 1;paper 2 0 1;paper 2 0 1;cand 0 0;takes 0 0 1 2 3 4 5");
        sits(x, 0, 2, 0, 0, 1, 2, 2, 3, 4, 4, 5, 5, 6, 7);
        sits(x, 0, 1, 1, 0, 1);
        due("orders of four", x.lawful(0, 2), 24);
        due("orders of one", x.lawful(0, 3), 1);
        x.takes(0, 2, 0);
        due("orders of three", x.lawful(0, 2), 6);
        x.takes(0, 0, 0);
        due("orders of two", x.lawful(0, 2), 2);

        of("each BEGINS at its START");
        ClashDays y = Due.made("paper 0 7 3;paper 0 30 2;cand 4 9;takes 0 0 1");
        sits(y, 0, 0, 0, 7, 10, 1, 30, 32);

        // 5 come over and the rest is 1, so FREE is 6
        of("or, if that is later: the first one at FREE");
        int[] begins = {6, 6, 6, 7};
        int[] starts = {0, 5, 6, 7};
        for (int i = 0; i < 4; i++) {
            ClashDays z = Due.made("paper 0 47 5;paper 1 " + starts[i] + " 2;cand 0 0;takes 0 0 1;night 0");
            sits(z, 0, 1, 1, begins[i], begins[i] + 2);
        }

        // the first ends at 11, and the rest is 6
        of("each other one at the END of the one ahead of it and REST");
        int[] seconds = {17, 17, 17, 18};
        int[] secondStarts = {5, 16, 17, 18};
        for (int i = 0; i < 4; i++) {
            ClashDays z = Due.made("paper 0 5 6;paper 0 " + secondStarts[i] + " 2;cand 4 6;takes 0 0 1");
            due("begin", z.sits(0, 0, 1, 1), seconds[i]);
            due("of the second", z.sits(0, 0, 1, 0), 1);
        }
    }

    private static void lawful() {
        of("END: BEGIN and TIME");
        ClashDays x = Due.made("paper 0 4 6;paper 0 9 5;cand 3 9;takes 0 0 1");
        // 6, 6 more and 1; behind a rest 5, 5 more and 1
        sits(x, 0, 0, 0, 4, 17, 1, 18, 29);

        of("It is LAWFUL, if no END is above 48");
        ClashDays y = Due.made("paper 0 47 1;paper 1 47 2;paper 2 36 12;paper 3 37 12;paper 4 40 4;paper 4 40 3;cand 0 0;takes 0 0 1 2 3 4 5");
        due("an end of 48", y.plan(0, 0, 0), 1);
        due("an end of 49", y.plan(0, 1, 0), 0);
        due("an end of 48", y.plan(0, 2, 0), 1);
        due("an end of 49", y.plan(0, 3, 0), 0);
        due("two, an end of 48", y.lawful(0, 4), 2);
        y.starts(5, 41);
        due("one of two orders ends at 49", y.lawful(0, 4), 1);
        sits(y, 0, 4, 4, 40, 44, 5, 45, 48);

        of("all TIME and AHEAD together are not above HOURS");
        ClashDays z = Due.made("paper 0 0 6;paper 0 20 5;paper 1 47 3;paper 2 10 8;cand 0 0;takes 0 0 1 2 3;night 0;hours 11");
        due("just hours", z.plan(0, 0, 2), -1);
        due("ahead and time are just hours", z.plan(0, 2, 4) + z.time(0, 3), 11);
        due("so nothing goes over", z.plan(0, 2, 2), -1);
        z.hours(10);
        due("one more", z.plan(0, 0, 2), 1);
        due("with ahead one more", z.plan(0, 2, 2), 3);
        due("lawful", z.lawful(0, 0) + z.lawful(0, 2), 0);
    }

    private static void kept() {
        of("One is KEPT in a SLOT, if it isn't ahead of the START of a PAPER of its, but ahead of its BEGIN");
        ClashDays x = Due.made("paper 0 4 6;paper 0 8 2;cand 4 6;takes 0 0 1");
        // the second waits from 8 to 15; up to 9 the first is sat
        does(x, 0, 0, 3, ".000000kkkkkk11.");
        due("kept", x.plan(0, 0, 1), 6);
        x.starts(1, 12);
        does(x, 0, 0, 9, "0..kkkk11.");
        x.starts(1, 15);
        does(x, 0, 0, 9, "0.....k11.");
        x.starts(1, 16);
        does(x, 0, 0, 9, "0......11.");
        due("kept", x.plan(0, 0, 1), 0);

        of("one sits none (from its BEGIN on, ahead of its END");
        ClashDays y = Due.made("paper 0 0 4;paper 0 1 4;paper 0 2 4;cand 0 0;takes 0 0 1 2");
        does(y, 0, 0, 0, "0000k1111k2222.");
        due("one slot, however many wait", y.plan(0, 0, 1), 2);

        of("also what came OVER from the DAY ahead) in that SLOT");
        ClashDays z = Due.made("paper 0 47 5;paper 1 2 3;cand 4 3;takes 0 0 1;night 0");
        does(z, 0, 1, 0, "00000kkkk111.");
        due("kept", z.plan(0, 1, 1), 4);
    }

    private static void plans() {
        of("of all ORDERS of all PAPERS of the DAY that one TAKES");
        ClashDays x = Due.made("paper 0 8 6;paper 0 4 3;paper 1 0 1;paper 0 0 1;cand 0 0;cand 0 0;takes 0 0 3;takes 1 1 0 2");
        sits(x, 0, 0, 3, 0, 1, 0, 8, 14);
        sits(x, 1, 0, 1, 4, 7, 0, 8, 14);
        sits(x, 1, 1, 2, 0, 1);
        sits(x, 0, 1);

        of("and that are LAWFUL");
        // of the six orders just this one ends at 47
        ClashDays y = Due.made("paper 0 40 5;paper 0 38 1;paper 0 43 2;cand 0 0;takes 0 0 1 2");
        due("lawful", y.lawful(0, 0), 1);
        sits(y, 0, 0, 1, 38, 39, 0, 40, 45, 2, 46, 48);

        of("that with fewest SLOTS in which one is KEPT");
        ClashDays z = Due.made("paper 0 8 6;paper 0 4 8;cand 0 0;takes 0 0 1");
        // 0 ahead of 1: kept in 4 to 7 and 14; 1 ahead of 0: in 12
        sits(z, 0, 0, 1, 4, 12, 0, 13, 19);
        due("kept", z.plan(0, 0, 1), 1);

        of("of several the first by rows");
        ClashDays w = Due.made("paper 0 10 1;paper 0 0 1;paper 0 10 1;cand 0 0;takes 0 0 1 2");
        sits(w, 0, 0, 1, 0, 1, 0, 10, 11, 2, 12, 13);
        ClashDays v = Due.made("paper 0 3 2;paper 0 3 2;paper 0 3 2;paper 0 3 2;cand 0 0;takes 0 3 2 1 0");
        sits(v, 0, 0, 0, 3, 5, 1, 6, 8, 2, 9, 11, 3, 12, 14);
    }

    private static void goesOver() {
        of("one of them goes OVER: it BEGINS, on this DAY, at 48");
        ClashDays x = Due.made("paper 0 40 9;cand 0 0;takes 0 0;night 0");
        plan(x, 0, 0, 1, 8, 0, 0, 0, 0);
        due("not at its start", x.paperOf(0, 4), 1);
        due("it isn't of the order", x.sits(0, 0, 0, 0), -52);

        of("so one is KEPT to the end of the DAY from its START on, where one sits none");
        does(x, 0, 0, 38, "..kkkkkkkk");
        ClashDays y = Due.made("paper 0 4 6;paper 0 6 8;cand 0 0;takes 0 0 1;night 0;hours 13");
        plan(y, 0, 0, 1, 36, 0, 0, 0, 1);
        does(y, 0, 0, 2, "..kk11111111k");
        does(y, 0, 0, 14, "kkkkkkkkkkkkkkkkkkkkkkkkkkkkkkkkkk");
        ClashDays z = Due.made("paper 0 47 2;cand 0 0;takes 0 0;night 0");
        plan(z, 0, 0, 1, 1, 0);
        does(z, 0, 0, 46, ".k");
    }

    private static void notOver() {
        of("Are there PAPERS, but none such");
        ClashDays x = Due.made("paper 0 47 1;paper 0 40 2;paper 2 0 1;cand 0 0;takes 0 0 1;night 0");
        plan(x, 0, 0, 1, 0, -1);
        plan(x, 0, 1, 1, 0, -1, 0, 0, 0);
        plan(x, 0, 2, 1, 0, -1, 0, 0, 0);
        x.starts(1, 46);
        // 46 to 48, then 49: none such, so one of them goes over
        plan(x, 0, 0, 1, 0, 0, 0, 0, 1);

        of("NIGHT is 1");
        ClashDays y = Due.made("paper 0 47 2;cand 0 0;takes 0 0");
        plan(y, 0, 0, 0, 0, -1, 0, 0, 0);
        y.night(0, 1);
        plan(y, 0, 0, 1, 1, 0, 0, 0, 0);
        y.night(0, 0);
        plan(y, 0, 0, 0, 0, -1, 0, 0, 0);

        of("the DAY isn't 4");
        ClashDays z = Due.made("paper 3 47 2;paper 4 47 2;cand 0 0;cand 0 0;night 0;night 1;takes 0 0;takes 1 1");
        plan(z, 0, 3, 1, 1, 0);
        plan(z, 1, 4, 0, 0, -1);
    }

    private static void ofSeveralOver() {
        of("of all ORDERS of all the others");
        ClashDays x = Due.made("paper 0 4 6;paper 0 9 6;paper 0 30 6;cand 0 0;takes 0 2 1 0;night 0;hours 17");
        // 2 goes over, as it waits from 30 on alone
        plan(x, 0, 0, 1, 19, 2, 0, 0, 2);
        sits(x, 0, 0, 0, 4, 10, 1, 11, 17);
        x.hours(11);
        // no two are lawful, so one can't
        plan(x, 0, 0, 0, 0, -1, 0, 0, 0);

        of("if that is one that is LAWFUL, nobody at all is one, too");
        ClashDays y = Due.made("paper 0 44 5;cand 0 0;takes 0 0;night 0");
        plan(y, 0, 0, 1, 4, 0, 0, 0, 0);

        of("where the TIME of what goes OVER is not above 48 or HOURS");
        ClashDays z = Due.made("paper 0 47 12;cand 5 0;takes 0 0;night 0;hours 14");
        plan(z, 0, 0, 1, 1, 0);
        z.hours(13);
        plan(z, 0, 0, 0, 0, -1);
        plan(z, 0, 1, 1, 0, -1, 0, 0, 0);
        ClashDays longOne = Due.made("paper 1 40 12;cand 3 9;takes 0 0;night 0;hours 24");
        plan(longOne, 0, 1, 1, 8, 0);
        longOne.hours(23);
        plan(longOne, 0, 1, 0, 0, -1);

        of("that with fewest KEPT, of several that with the lesser PAPER OVER");
        ClashDays w = Due.made("paper 2 4 6;paper 2 4 5;paper 2 4 6;cand 0 0;takes 0 0 1 2;night 0;hours 12");
        // without 1 one sits 12 slots, without another 11
        plan(w, 0, 2, 1, 32, 1);
        ClashDays v = Due.made("paper 2 4 6;paper 2 4 6;paper 2 4 6;cand 0 0;takes 0 0 1 2;night 0;hours 12");
        plan(v, 0, 2, 1, 32, 0);

        of("of several that with the lesser PAPER OVER, of several the first by rows");
        sits(v, 0, 2, 1, 4, 10, 2, 11, 17);
    }

    private static void nextDay() {
        of("on the next DAY it is sat from SLOT 0 to its TIME");
        ClashDays x = Due.made("paper 0 40 9;paper 2 0 1;cand 5 0;cand 0 0;takes 0 0;takes 1 0;night 0;night 1");
        does(x, 0, 1, 0, "00000000000..");
        does(x, 1, 1, 0, "000000000..");
        does(x, 0, 2, 0, ".");
        ClashDays y = Due.made("paper 0 47 1;paper 0 47 1;cand 0 0;takes 0 0 1;night 0");
        does(y, 0, 0, 46, ".1");
        does(y, 0, 1, 0, "0.");

        // also if one can't on that day
        ClashDays cant = Due.made("paper 0 47 3;paper 1 47 2;cand 0 0;takes 0 0 1;night 0;hours 8;paper 1 0 7;takes 0 2");
        plan(cant, 0, 1, 0, 0, -1, 4, 3, 0);
        does(cant, 0, 1, 0, "000.......");
        due("a sitting", cant.pieces(0, 1, 0), 1);
        due("nothing of day 1", cant.does(0, 2, 0), -1);

        of("the next DAY's AHEAD is its TIME, and FREE that and REST");
        ClashDays z = Due.made("paper 0 40 9;cand 4 9;cand 1 5;takes 0 0;takes 1 0;night 0;night 1");
        plan(z, 0, 1, 1, 0, -1, 17, 9, 0);
        plan(z, 1, 1, 1, 0, -1, 15, 14, 0);
        plan(z, 0, 2, 1, 0, -1, 0, 0, 0);
    }

    private static void cant() {
        of("None such, either: one CAN'T on that DAY (nothing of it is sat, and nothing goes OVER)");
        ClashDays x = Due.made("paper 0 4 9;paper 0 20 9;paper 0 47 1;cand 0 0;takes 0 0 1 2;night 0;hours 9");
        plan(x, 0, 0, 0, 0, -1, 0, 0, 0);
        does(x, 0, 0, 0, "................................................");
        does(x, 0, 1, 0, ".........");
        plan(x, 0, 1, 1, 0, -1, 0, 0, 0);
        due("no sitting", x.pieces(0, 0, 0), 0);
        due("days", x.candOf(0, 5), 1);
        x.hours(10);
        // 9 and 1 are just hours, so the other goes over: kept from 20 on, but in 47
        plan(x, 0, 0, 1, 27, 1, 0, 0, 2);
    }

    private static void oneBehindTheOther() {
        of("DAYS are planned one behind the other");
        ClashDays x = Due.made("paper 0 47 9;paper 1 40 8;paper 2 42 6;paper 3 44 3;cand 0 0;takes 0 0 1 2 3;night 0;hours 13");
        // 9 came, and 9 and 8 are above 13, so the next goes over, and so on
        plan(x, 0, 0, 1, 1, 0, 0, 0, 0);
        plan(x, 0, 1, 1, 8, 1, 10, 9, 0);
        plan(x, 0, 2, 1, 6, 2, 9, 8, 0);
        plan(x, 0, 3, 1, 0, -1, 7, 6, 1);
        plan(x, 0, 4, 1, 0, -1, 0, 0, 0);
        x.starts(0, 39);
        plan(x, 0, 0, 1, 0, -1, 0, 0, 1);
        plan(x, 0, 1, 1, 0, -1, 0, 0, 1);
        plan(x, 0, 2, 1, 0, -1, 0, 0, 1);
    }

    private static void clash() {
        of("CLASH of a DAY on which one CAN'T: the fewest PAPERS of those (bits)");
        ClashDays x = Due.made("paper 1 4 6;paper 0 4 6;paper 0 6 8;paper 0 0 1;paper 0 47 2;cand 0 0;takes 0 1 2 3;hours 13");
        due("two of three", x.plan(0, 0, 6), 2 + 4);
        x.hours(14);
        due("all three", x.plan(0, 0, 6), 2 + 4 + 8);
        x.takes(0, 4, 1);
        due("one alone, though of a greater number", x.plan(0, 0, 6), 16);
        x.takes(0, 4, 0);
        x.hours(15);
        due("one can", x.plan(0, 0, 6), 0);
        due("another day", x.plan(0, 1, 6), 0);
        ClashDays four = Due.made("paper 4 0 6;paper 4 10 6;paper 4 20 6;paper 4 30 6;cand 0 0;takes 0 0 1 2 3;hours 23");
        due("all four", four.plan(0, 4, 6), 15);
        four.hours(18);
        due("all four", four.plan(0, 4, 6), 15);
        four.hours(17);
        due("three of four", four.plan(0, 4, 6), 7);

        of("with FREE and AHEAD as they are");
        ClashDays y = Due.made("paper 3 47 12;paper 4 0 12;paper 4 0 1;cand 0 0;takes 0 0 1 2;night 0;hours 24");
        due("12 ahead, and 12 and 1", y.plan(0, 4, 6), 2 + 4);
        y.hours(23);
        due("12 ahead, and 12", y.plan(0, 4, 6), 2);
        ClashDays z = Due.made("paper 3 47 12;paper 4 0 12;paper 4 0 9;cand 4 9;takes 0 0 1 2;night 0;hours 40");
        due("free is 20, so the last ends at 49", z.plan(0, 4, 6), 2 + 4);
        z.takes(0, 0, 0);
        due("free is 0", z.plan(0, 4, 6), 0);

        of("of several that of the least number as bits");
        ClashDays w = Due.made("paper 1 40 5;paper 0 40 5;paper 0 40 5;paper 0 40 5;cand 0 0;takes 0 3 2 1");
        due("the least of three twos", w.plan(0, 0, 6), 2 + 4);
        ClashDays v = Due.made("paper 0 47 2;paper 0 47 2;cand 0 0;takes 0 1 0");
        due("the least of two", v.plan(0, 0, 6), 1);
    }
}
