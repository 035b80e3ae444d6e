/** A test for each sentence of promises 34 to 41. */
final class WhatIfSentences {
    private static final String WORLD = ShelfSentences.WORLD;
    /** Candidate 0 has four papers of day 0; 4 would be a fifth, 5 is of another day. */
    private static final String FOUR = "paper 0 4 6;paper 0 6 8;paper 0 30 1;paper 0 40 1;paper 0 44 2;paper 1 0 1;cand 0 0;takes 0 0 1 2 3";

    private WhatIfSentences() {
    }

    static void all() {
        whatIf();
        whatIfRefused();
        both();
        bothRefused();
        relief();
        retime();
        retimeByKept();
        hoursFor();
        kinds();
        kindsRefused();
        judge();
        judgeRefused();
        together();
    }

    private static void due(String call, long got, long want) {
        Due.due(call, got, want);
    }

    private static void whatIf() {
        Due.of("34", "How many DAYS of one there would be on which it CAN'T, if it TOOK a PAPER");
        ClashDays x = Due.made("paper 0 4 6;paper 0 6 8;paper 0 47 2;paper 2 47 2;paper 1 0 1;cand 0 0;cand 0 0;takes 0 0 1;hours 14");
        due("as it is", x.candOf(0, 5), 0);
        due("one more", x.whatIf(0, 2), 1);
        due("on another day", x.whatIf(0, 3), 1);
        due("none more", x.whatIf(0, 4), 0);
        x.takes(0, 2, 1);
        due("two then", x.whatIf(0, 3), 2);
        due("another", x.whatIf(1, 3), 1);
        due("another", x.whatIf(1, 0), 0);

        Due.of("34", "(or, if it does, didn't)");
        due("that one", x.whatIf(0, 2), 0);
        due("not that one", x.whatIf(0, 0), 1);
        x.takes(0, 3, 1);
        due("one of two", x.whatIf(0, 2), 1);

        // 12 come over, so 12 more are above 23 hours, and 11 aren't; day 1 is the last but one that is looked at
        ClashDays ahead = Due.made("paper 3 47 12;paper 4 0 12;paper 4 0 11;cand 0 0;cand 0 0;takes 0 0;night 0;hours 23");
        due("of another one nothing comes", ahead.whatIf(1, 1), 0);
        due("with what comes over", ahead.whatIf(0, 1), 1);
        due("with what comes over", ahead.whatIf(0, 2), 0);
        due("of another one nothing comes", ahead.whatIf(1, 1), 0);
        due("relief", ahead.relief(0), 0);

        Due.of("34", "How many DAYS of one");
        // what would go over changes the next day, and so what would come back
        ClashDays y = Due.made("paper 0 47 9;paper 1 0 12;paper 1 20 12;paper 2 0 12;paper 2 20 12;cand 0 0;takes 0 1 2;night 0;hours 24");
        due("day 1 then lets one go over", y.whatIf(0, 0), 0);
        y.takes(0, 3, 1);
        y.takes(0, 4, 1);
        due("and day 2 another", y.whatIf(0, 0), 0);
        y.hours(20);
        due("too few hours for 9 and 12", y.whatIf(0, 0), 1);
        y.takes(0, 3, 0);
        y.takes(0, 0, 1);
        due("as it is", y.candOf(0, 5), 1);
        due("without it", y.whatIf(0, 0), 0);
    }

    private static void whatIfRefused() {
        Due.of("34", "BAD");
        Due.badOutside(WORLD, 0, 1, (y, c) -> y.whatIf(c, 0));
        Due.badOutside(WORLD, 0, 5, (y, p) -> y.whatIf(0, p));
        Due.badOutside(WORLD, 0, 5, (y, p) -> y.whatIf(1, p));

        Due.of("34", "STUCK: a fifth of a DAY");
        Due.refused(WORLD, -55, y -> y.whatIf(1, 2));
        Due.refused(FOUR, -55, y -> y.whatIf(0, 4));
        ClashDays x = Due.made(FOUR);
        due("one of the four", x.whatIf(0, 3), 0);
        due("of another day", x.whatIf(0, 5), 0);
        Due.noneRefused(x);
    }

    private static void both() {
        Due.of("35", "All SLOTS together in which one would be KEPT, if both were changed");
        // kept in 10 by 0 and 1, in 4 of day 1 by 2 and 3
        ClashDays x = Due.made("paper 0 4 6;paper 0 6 8;paper 1 3 1;paper 1 4 1;paper 2 0 1;paper 2 47 9;cand 0 0;takes 0 0 1 2");
        due("two more that aren't kept", x.both(0, 3, 4), 2);
        due("another and one of them not", x.both(0, 3, 0), 1);
        due("two not", x.both(0, 1, 2), 0);
        due("one can't on day 2", x.both(0, 5, 4), 1);
        x.night(0, 1);
        due("the waiting of what goes over", x.both(0, 5, 3), 3);

        Due.of("35", "first p, then q");
        ClashDays four = Due.made(FOUR);
        due("first one not, then another", four.both(0, 3, 4), 1);
        due("first one not, then another", four.both(0, 1, 4), 0);

        Due.of("35", "(the same twice: as it is)");
        due("one that it takes", x.both(0, 0, 0), 1);
        due("one that it doesn't", x.both(0, 5, 5), 1);
        due("as it is", x.candOf(0, 3), 1 + 2 + 4);
    }

    private static void bothRefused() {
        Due.of("35", "BAD");
        Due.badOutside(WORLD, 0, 1, (y, c) -> y.both(c, 0, 1));
        Due.badOutside(WORLD, 0, 5, (y, p) -> y.both(0, p, 1));
        Due.badOutside(WORLD, 0, 5, (y, q) -> y.both(0, 1, q));
        Due.badOutside(WORLD, 0, 5, (y, q) -> y.both(1, 2, q));
        Due.badOutside(WORLD, 0, 5, (y, p) -> y.both(1, p, 2));

        Due.of("35", "STUCK: a fifth of a DAY at either");
        Due.refused(FOUR, -55, y -> y.both(0, 4, 3));
        Due.refused(FOUR, -55, y -> y.both(0, 4, 5));
        Due.refused(FOUR, -55, y -> y.both(0, 5, 4));
        Due.refused(FOUR, -55, y -> y.both(0, 4, 4));
        ClashDays x = Due.made("paper 0 4 6;paper 0 6 8;paper 0 30 1;paper 0 40 1;paper 0 44 2;cand 0 0;takes 0 0 1 2");
        due("a fourth, then a fifth", x.both(0, 3, 4), -55);
        due("three", x.both(0, 3, 2), 1);
    }

    private static void relief() {
        Due.of("36", "The PAPER by the changing of which");
        // 14 hours: 6 and 9 are too many; 3 can't be sat
        ClashDays x = Due.made("paper 0 1 1;paper 0 4 6;paper 0 6 9;paper 1 47 3;paper 2 0 1;cand 0 0;cand 0 0;takes 0 1 2;hours 14");
        due("one that it takes", x.relief(0), 1);
        x.hours(24);
        due("no day, so the first that adds none", x.relief(0), 0);
        x.takes(0, 3, 1);
        due("3 alone", x.relief(0), 3);

        Due.of("36", "of several the first");
        x.hours(14);
        due("1, 2 and 3 would be", x.relief(0), 1);
        due("all but 3", x.relief(1), 0);
        ClashDays none = Due.made("paper 0 47 2;paper 0 47 2;cand 0 0;takes 0 0 1");
        due("neither helps", none.relief(0), 0);
        ClashDays last = Due.made("paper 0 47 2;paper 1 47 2;paper 2 47 2;paper 3 47 1;cand 0 0");
        due("one to take, if each other one can't be sat", last.relief(0), 3);

        Due.of("36", "but where that would be STUCK");
        ClashDays z = Due.made("paper 0 0 1;paper 0 0 1;paper 0 0 1;paper 0 0 1;paper 0 0 1;cand 0 0;takes 0 1 2 3 4");
        due("0 would be a fifth", z.relief(0), 1);
        Due.noneRefused(z);

        Due.of("36", "NONE: no PAPERS, all STUCK");
        ClashDays y = Due.made("cand 0 0");
        due("no papers", y.relief(0), -1);

        Due.of("36", "NONE isn't refused");
        due("none", y.relief(0), -1);
        Due.noneRefused(y);

        Due.of("36", "BAD");
        Due.badOutside(WORLD, 0, 1, (w, c) -> w.relief(c));
        Due.refused("paper 0 0 1", -52, w -> w.relief(0));
        Due.refused("room 1", -52, w -> w.relief(0));
    }

    private static void retime() {
        Due.of("37", "The START (0 to 47) of a PAPER with which all CANDIDATES together would have fewest DAYS on which they CAN'T");
        // one sits from 0 to 11, the other from 36 to 47: behind the one and a rest, and ahead of the other and a rest
        ClashDays x = Due.made("paper 0 0 12;paper 0 36 12;paper 0 47 12;cand 0 0;cand 0 0;takes 0 0 2;takes 1 1 2");
        due("as it is", x.candOf(0, 5) + x.candOf(1, 5), 2);
        due("13 ends at 25", x.retime(2), 13);
        x.starts(2, 13);
        due("none", x.candOf(0, 5) + x.candOf(1, 5), 0);
        due("none is kept", x.plan(0, 0, 1) + x.plan(1, 0, 1), 0);
        ClashDays behind = Due.made("paper 0 0 12;paper 0 13 12;paper 0 26 12;paper 0 47 2;cand 0 0;takes 0 0 1 2 3;hours 40");
        due("behind all and a rest", behind.retime(3), 39);
        // one sits all from 0 to 37, the other from 34 to 45: but for 47 it waits, or lets one wait
        ClashDays last = Due.made("paper 0 34 12;paper 0 0 12;paper 0 13 12;paper 0 26 12;paper 0 0 1;cand 0 0;cand 0 0;takes 0 0 4;"
            + "takes 1 1 2 3 4;hours 40");
        due("the other, whose late starts can't be", last.retime(0), 2);
        due("the last slot", last.retime(4), 47);
        // at 47 one can't, so none is kept, but fewer days go ahead of fewer kept: 4 is kept with any other start
        ClashDays days = Due.made("paper 0 0 4;paper 0 3 4;paper 0 20 2;cand 0 0;takes 0 0 1 2");
        due("behind all and a rest", days.retime(2), 10);
        due("kept", days.plan(0, 0, 1), 1);

        Due.of("37", "BAD");
        Due.badOutside(WORLD, 0, 5, (y, p) -> y.retime(p));
        Due.refused("cand 0 0", -52, y -> y.retime(0));
    }

    private static void retimeByKept() {
        Due.of("37", "of several that with fewest SLOTS in which they are KEPT");
        ClashDays x = Due.made("paper 0 0 6;paper 0 3 6;cand 0 0;takes 0 0 1");
        due("behind it and a rest", x.retime(1), 7);
        due("kept as it is", x.plan(0, 0, 1), 1);
        // one sits 0 to 5 ahead of it, another 10 to 15: 7 suits one, 17 suits both, as 1 may not wait at all
        ClashDays y = Due.made("paper 0 0 6;paper 0 10 6;paper 0 3 6;cand 0 0;cand 0 0;takes 0 0 2;takes 1 1 2");
        due("for both", y.retime(2), 17);
        // what goes over at 47 is kept for one slot, and nothing at all is kept, if it is sat
        ClashDays z = Due.made("paper 0 47 12;cand 0 0;takes 0 0;night 0");
        due("sat", z.retime(0), 0);
        // it can be over night at 47 alone with 1 slot, or by day with many more
        ClashDays w = Due.made("paper 0 0 12;paper 0 12 12;paper 0 24 12;paper 0 30 4;cand 0 0;takes 0 0 1 2 3;night 0;hours 36");
        due("over, from the last slot on", w.retime(3), 47);

        // 12 come over to one, so it is free at 13; the other one is free at 0, and waits for nothing at 13, either
        ClashDays u = Due.made("paper 1 0 3;paper 0 47 12;cand 0 0;cand 0 0;cand 0 0;takes 0 0;takes 1 0 1;takes 2 0;night 1");
        due("behind what came over to one", u.retime(0), 13);
        due("again", u.retime(0), 13);
        // with the late starts it goes over, and then 1 isn't begun at 0, but that is worse than to wait one slot
        ClashDays t = Due.made("paper 0 40 2;paper 1 0 3;paper 0 0 12;paper 0 13 12;paper 0 26 12;cand 0 0;cand 0 0;takes 0 0 1;takes 1 0 2 3 4;night 0;"
            + "night 1;hours 40");
        due("behind all", t.retime(0), 39);
        due("again", t.retime(0), 39);

        // begun at 20 it makes another one wait for 4 slots; over from 47 on is 1 slot, but 8 more on the next day
        ClashDays s = Due.made("paper 0 47 5;paper 0 0 12;paper 0 29 12;paper 1 0 1;cand 4 9;takes 0 0 1 2 3;night 0;hours 40");
        due("as it is", s.plan(0, 0, 1) * 10 + s.plan(0, 1, 1), 18);
        due("the next day counts, too", s.retime(0), 20);

        Due.of("37", "of several the least");
        ClashDays behind = Due.made("paper 3 47 1;paper 3 47 1;paper 4 5 1;cand 0 0;takes 0 0 1 2;night 0");
        due("behind one slot that came over and a rest", behind.retime(2), 2);
        due("nobody takes it", Due.made("paper 0 9 9;cand 0 0").retime(0), 0);
        due("no candidates", Due.made("paper 0 9 9").retime(0), 0);
        due("one alone", Due.made("paper 0 47 12;cand 0 0;takes 0 0").retime(0), 0);
        ClashDays v = Due.made("paper 0 2 3;paper 0 9 2;cand 0 0;takes 0 0 1");
        // at 0 it is over at 2, but a rest is needed; behind 5 and a rest it is not kept
        due("6", v.retime(1), 6);
        v.starts(0, 3);
        due("0", v.retime(1), 0);
    }

    private static void hoursFor() {
        Due.of("38", "The least HOURS (8 to 40) with which one has no DAY on which it CAN'T");
        ClashDays x = Due.made("paper 0 4 6;paper 0 20 2;paper 1 0 12;paper 2 0 12;paper 2 13 12;paper 2 26 12;paper 2 39 4;paper 2 44 1;"
            + "cand 0 0;cand 0 0;cand 0 0;cand 0 0;takes 0 0 1;takes 1 2;takes 2 3 4 5 6;takes 3 0");
        due("the least there are", x.hoursFor(0), 8);
        due("12", x.hoursFor(1), 12);
        due("the most there are", x.hoursFor(2), 40);
        due("fewer than the least", x.hoursFor(3), 8);
        due("no papers", Due.made("cand 0 0").hoursFor(0), 8);
        x.hours(40);
        due("whatever they are", x.hoursFor(1), 12);
        x.night(1, 1);
        due("12 may go over at 12 alone", x.hoursFor(1), 12);
        ClashDays y = Due.made("paper 0 0 6;paper 0 20 6;paper 1 0 9;cand 0 0;takes 0 0 1 2");
        due("12", y.hoursFor(0), 12);
        y.night(0, 1);
        // with 9 to 11 one of 6 goes over, and then 9 more are too many, so one of them goes over, too
        due("by night", y.hoursFor(0), 9);
        ClashDays w = Due.made("paper 3 0 6;paper 3 20 6;paper 4 0 9;cand 0 0;takes 0 0 1 2;night 0");
        due("from day 4 nothing goes over", w.hoursFor(0), 12);

        Due.of("38", "NONE");
        ClashDays z = Due.made("paper 2 0 12;paper 2 13 12;paper 2 26 12;paper 2 39 5;paper 0 47 2;cand 0 0;cand 0 0;takes 0 0 1 2 3;takes 1 4");
        due("41 are needed", z.hoursFor(0), -1);
        due("no hours help", z.hoursFor(1), -1);
        due("hours", z.status(3), 24);

        Due.of("38", "NONE isn't refused");
        Due.noneRefused(z);

        Due.of("38", "BAD");
        Due.badOutside(WORLD, 0, 1, (v, c) -> v.hoursFor(c));
        Due.refused("paper 0 0 1", -52, v -> v.hoursFor(0));
    }

    private static ClashDays told(String things, long... row) {
        ClashDays x = Due.made(things);
        x.row(0, 3, row.length);
        for (int i = 0; i < row.length; i++) {
            x.set(0, i, row[i]);
        }
        return x;
    }

    private static void kinds() {
        Due.of("39", "KINDS (bits) of which one would have just the told TIMES");
        String things = "paper 0 0 10;paper 4 0 1;cand 0 2;cand 3 0;cand 5 9";
        due("as a CANDIDATE, RESTING and RESTED", told(things, 0, 10).kinds(0, 0, 1), 1 + 4 + 16);
        due("as a SLOW or READER", told(things, 0, 12).kinds(0, 0, 1), 2 + 32);
        due("as a SLOWER", told(things, 0, 13).kinds(0, 0, 1), 8);
        due("as a SLOW", told(things, 0, 12, 1, 2).kinds(0, 0, 2), 2);
        due("as a READER", told(things, 0, 12, 1, 3).kinds(0, 0, 2), 32);
        due("as none", told(things, 0, 12, 1, 1).kinds(0, 0, 2), 0);
        due("as none", told(things, 0, 9).kinds(0, 0, 1), 0);
        due("as none", told(things, 0, 14).kinds(0, 0, 1), 0);
        due("as none, far above", told(things, 0, 10 + (1L << 32)).kinds(0, 0, 1), 0);

        Due.of("39", "TIME, a as it is");
        due("an a of 0", told(things, 0, 10).kinds(1, 0, 1), 1 + 2 + 4 + 16);
        due("an a of 0", told(things, 0, 11).kinds(1, 0, 1), 8);
        due("an a of 9", told(things, 0, 19).kinds(2, 0, 1), 2);

        Due.of("39", "of the first n twos (0 to 12)");
        due("the first alone", told(things, 0, 13, 1, 1).kinds(0, 0, 1), 8);
        due("none", told(things, 0, 99).kinds(0, 0, 0), 63);
        long[] most = new long[24];
        for (int i = 0; i < 12; i++) {
            most[2 * i] = i % 2;
            most[2 * i + 1] = i % 2 == 0 ? 10 : 1;
        }
        due("twelve", told(things, most).kinds(0, 0, 12), 1 + 4 + 16);
        most[23] = 2;
        due("but the twelfth", told(things, most).kinds(0, 0, 12), 0);
        due("eleven", told(things, most).kinds(0, 0, 11), 1 + 4 + 16);
    }

    private static void kindsRefused() {
        Due.of("39", "BAD cand, SHELF, n");
        Due.badOutside(WORLD, 0, 1, (y, c) -> y.kinds(c, 0, 1));
        Due.badOutside(WORLD, 0, 7, (y, s) -> y.kinds(0, s, 1));
        Due.badOutside(WORLD + ";row 0 0 40", 0, 12, (y, n) -> y.kinds(0, 0, n));
        Due.badOutside(WORLD, 0, 12, (y, n) -> y.kinds(0, 2, n));
        Due.badOutside(WORLD, 0, 12, (y, n) -> y.kinds(0, 3, n));
        Due.badOutside(WORLD, 0, 1, (y, c) -> y.kinds(c, 2, 1));

        Due.of("39", "OTHER");
        Due.refused(WORLD, -53, y -> y.kinds(0, 2, 1));
        Due.refused(WORLD, -53, y -> y.kinds(0, 2, 0));

        Due.of("39", "NOTHING");
        Due.refused(WORLD, -54, y -> y.kinds(0, 3, 1));
        Due.refused(WORLD, -54, y -> y.kinds(0, 7, 0));

        Due.of("39", "BAD: fewer elements");
        String row = "paper 0 0 10;cand 0 2;row 0 3 3;set 0 1 10;set 0 2 -9";
        due("enough for one", Due.made(row).kinds(0, 0, 1), 1 + 4 + 16);
        Due.refused(row, -52, y -> y.kinds(0, 0, 2));
        Due.refused(row, -52, y -> y.kinds(0, 0, 12));
        Due.refused("cand 0 0;row 0 3 1", -52, y -> y.kinds(0, 0, 1));
        Due.refused("cand 0 0;row 0 3 0", -52, y -> y.kinds(0, 0, 1));
        Due.refused("cand 0 0;row 0 3 23", -52, y -> y.kinds(0, 0, 12));

        Due.of("39", "STUCK: no such PAPER");
        Due.refused("paper 0 0 10;cand 0 2;row 0 3 2;set 0 0 1", -55, y -> y.kinds(0, 0, 1));
        Due.refused("paper 0 0 10;cand 0 2;row 0 3 2;set 0 0 -1", -55, y -> y.kinds(0, 0, 1));
        Due.refused("paper 0 0 10;cand 0 2;row 0 3 4;set 0 1 99;set 0 2 1", -55, y -> y.kinds(0, 0, 2));
        Due.refused("cand 0 0;row 0 4 2", -55, y -> y.kinds(0, 0, 1));
        due("far above", told("paper 0 0 10;cand 0 2", 1L << 32, 10).kinds(0, 0, 1), -55);
        due("far below", told("paper 0 0 10;cand 0 2", Long.MIN_VALUE, 10).kinds(0, 0, 1), -55);
        due("behind the told ones", told("paper 0 0 10;cand 0 2", 0, 10, 9, 9).kinds(0, 0, 1), 1 + 4 + 16);
    }

    private static void judge() {
        String things = "paper 0 4 6;paper 0 6 8;paper 1 0 1;paper 0 40 4;paper 0 44 3;paper 0 0 1;cand 0 0;takes 0 0 1 2 3 4;hours 21";
        Due.of("40", "the first place at which it isn't a PAPER of that DAY that one TAKES");
        due("no paper, by one", told(things, 0, 6).judge(0, 0, 0, 2), 1);
        due("no paper, by one", told(things, -1, 0).judge(0, 0, 0, 2), 0);
        due("no paper, far above", told(things, 0, (1L << 32) + 1).judge(0, 0, 0, 2), 1);
        due("no paper, far below", told(things, Long.MIN_VALUE).judge(0, 0, 0, 1), 0);
        due("of another day", told(things, 0, 1, 2).judge(0, 0, 0, 3), 2);
        due("of that day", told(things, 2).judge(0, 1, 0, 1), -1);
        due("one doesn't take it", told(things, 0, 5).judge(0, 0, 0, 2), 1);
        due("the first of two", told(things, 5, 2).judge(0, 0, 0, 2), 0);

        Due.of("40", "or one that was ahead of it");
        due("at once", told(things, 0, 0).judge(0, 0, 0, 2), 1);
        due("later", told(things, 0, 1, 3, 0).judge(0, 0, 0, 4), 3);

        Due.of("40", "or its END is above 48");
        String end = "paper 0 30 6;paper 0 45 3;paper 0 41 5;cand 0 0;takes 0 0 1 2";
        due("48", told(end, 0, 1).judge(0, 0, 0, 2), -1);
        due("50, behind the other and a rest", told(end, 0, 2, 1).judge(0, 0, 0, 3), 2);
        due("the last can't be any more", told(end, 1, 0).judge(0, 0, 0, 2), 1);
        String free = "paper 0 47 12;paper 1 0 12;paper 1 0 7;cand 4 9;takes 0 0 1 2;night 0;hours 40";
        due("FREE is 20, then 20 to 32, then 40 to 47", told(free, 1, 2).judge(0, 1, 0, 2), -1);
        due("20 to 27, then 35 to 47", told(free, 2, 1).judge(0, 1, 0, 2), -1);
        String freer = "paper 0 47 12;paper 1 0 12;paper 1 0 9;cand 4 9;takes 0 0 1 2;night 0;hours 40";
        due("20 to 32, then 40 to 49", told(freer, 1, 2).judge(0, 1, 0, 2), 1);

        Due.of("40", "or all TIME so far and AHEAD are above HOURS");
        due("21 are just hours", told(things, 0, 1, 3, 4).judge(0, 0, 0, 4), -1);
        ClashDays fewer = told(things, 0, 1, 3, 4);
        fewer.hours(20);
        due("one fewer", fewer.judge(0, 0, 0, 4), 3);
        due("so far", fewer.judge(0, 0, 0, 3), -1);
        String ahead = "paper 0 47 12;paper 1 0 5;paper 1 0 4;cand 0 0;takes 0 0 1 2;night 0;hours 21";
        due("12, 5 and 4", told(ahead, 1, 2).judge(0, 1, 0, 2), -1);
        ClashDays above = told(ahead, 1, 2);
        above.hours(20);
        due("one fewer", above.judge(0, 1, 0, 2), 1);
        above.hours(16);
        due("12 and 5", above.judge(0, 1, 0, 2), 0);

        Due.of("40", "by the first n elements (0 to 12)");
        due("the first alone", told(things, 0, 99).judge(0, 0, 0, 1), -1);
        due("twelve", told(things, 0, 1, 3, 4, 0, 0, 0, 0, 0, 0, 0, 0).judge(0, 0, 0, 12), 4);

        Due.of("40", "NONE");
        ClashDays x = told(things, 0, 1, 3, 4);
        due("all is well", x.judge(0, 0, 0, 4), -1);
        due("not all need be told", x.judge(0, 0, 0, 1), -1);
        due("none told", x.judge(0, 0, 0, 0), -1);

        Due.of("40", "NONE isn't refused");
        Due.noneRefused(x);
    }

    private static void judgeRefused() {
        Due.of("40", "BAD cand, day, SHELF, n");
        Due.badOutside(WORLD, 0, 1, (y, c) -> y.judge(c, 0, 0, 1));
        Due.badOutside(WORLD, 0, 4, (y, day) -> y.judge(0, day, 0, 1));
        Due.badOutside(WORLD, 0, 7, (y, s) -> y.judge(0, 0, s, 1));
        Due.badOutside(WORLD + ";row 0 0 40", 0, 12, (y, n) -> y.judge(0, 0, 0, n));
        Due.badOutside(WORLD, 0, 12, (y, n) -> y.judge(0, 0, 2, n));
        Due.badOutside(WORLD, 0, 12, (y, n) -> y.judge(0, 0, 3, n));
        Due.badOutside(WORLD, 0, 4, (y, day) -> y.judge(0, day, 2, 1));
        Due.badOutside(WORLD, 0, 1, (y, c) -> y.judge(c, 0, 3, 1));

        Due.of("40", "OTHER");
        Due.refused(WORLD, -53, y -> y.judge(0, 0, 2, 1));
        Due.refused(WORLD, -53, y -> y.judge(0, 0, 2, 0));

        Due.of("40", "NOTHING");
        Due.refused(WORLD, -54, y -> y.judge(0, 0, 3, 1));
        Due.refused(WORLD, -54, y -> y.judge(0, 0, 7, 0));

        Due.of("40", "BAD: fewer elements");
        Due.refused("cand 0 0;row 0 3 3", -52, y -> y.judge(0, 0, 0, 4));
        Due.refused("cand 0 0;row 0 3 0", -52, y -> y.judge(0, 0, 0, 1));
        Due.refused("cand 0 0;row 0 3 11", -52, y -> y.judge(0, 0, 0, 12));
        due("enough", Due.made("cand 0 0;row 0 3 12").judge(0, 0, 0, 12), 0);
    }

    private static void together() {
        Due.of("41", "CANDIDATES (bits) who sit a PAPER (by THE PLAN or OVER) at the same SLOT of a DAY");
        ClashDays x = Due.made("paper 0 4 6;paper 0 44 9;cand 0 0;cand 1 9;cand 0 0;cand 0 0;takes 0 0;takes 1 0 1;takes 2 1;takes 3 0;"
            + "night 1;night 2");
        int[] slots = {3, 4, 9, 10, 15, 16};
        int[] who = {0, 1 + 2 + 8, 1 + 2 + 8, 2, 2, 0};
        for (int i = 0; i < slots.length; i++) {
            due("slot " + slots[i], x.together(0, 0, slots[i]), who[i]);
        }
        due("over, nobody yet", x.together(1, 0, 47), 0);
        due("from over", x.together(1, 1, 0), 2 + 4);
        due("the last slot of one", x.together(1, 1, 8), 2 + 4);
        due("one alone", x.together(1, 1, 9), 2);
        due("the last slot", x.together(1, 1, 17), 2);
        due("nobody", x.together(1, 1, 18), 0);
        due("another day", x.together(0, 1, 4), 0);
        x.night(2, 0);
        due("one who can't", x.together(1, 1, 0), 2);
        StringBuilder ten = new StringBuilder("paper 0 0 1");
        for (int c = 0; c < 10; c++) {
            ten.append(";cand 0 0;takes ").append(c).append(" 0");
        }
        due("all ten", Due.made(ten.toString()).together(0, 0, 0), 1023);

        Due.of("41", "BAD");
        Due.badOutside(WORLD, 0, 5, (y, p) -> y.together(p, 0, 4));
        Due.badOutside(WORLD, 0, 4, (y, day) -> y.together(0, day, 4));
        Due.badOutside(WORLD, 0, 47, (y, slot) -> y.together(0, 0, slot));
        Due.refused(WORLD, -52, y -> y.together(20, 0, 10));
        Due.refused(WORLD, -52, y -> y.together(-1, 0, 0));
    }
}
