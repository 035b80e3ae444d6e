/** Promises 34 to 41: what if, told rows, and who sits together. */
final class WhatIfTest {
    public static void main(String[] args) {
        whatIf();
        both();
        relief();
        retime();
        hoursFor();
        kinds();
        judge();
        together();
        Due.finish();
    }

    private static void whatIf() {
        ClashDays x = Due.withBook("paper 0 4 6;paper 0 6 8;paper 0 47 2;paper 0 0 1;paper 0 0 1;paper 2 47 2;cand 0 0;cand 0 0;"
            + "takes 0 0;takes 0 1;takes 0 3;hours 14");
        Due.due("34 as it is", x.candOf(0, 5), 1);
        Due.due("34 without", x.whatIf(0, 3), 0);
        Due.due("34 without", x.whatIf(0, 0), 0);
        Due.due("34 with", x.whatIf(0, 2), 1);
        Due.due("34 with", x.whatIf(0, 5), 2);
        Due.due("34 another", x.whatIf(1, 2), 1);
        Due.due("34 another", x.whatIf(1, 4), 0);
        Due.due("34 nothing changed", x.candOf(0, 3), 11);
        Due.due("34 nothing changed", x.candOf(0, 5), 1);
        x.takes(0, 4, 1);
        Due.due("34 a fifth", x.whatIf(0, 2), -55);
        Due.due("34 not a fifth", x.whatIf(0, 4), 1);
        Due.due("34 no cand", x.whatIf(2, 0), -52);
        Due.due("34 no cand", x.whatIf(-1, 0), -52);
        Due.due("34 no paper", x.whatIf(0, 6), -52);
        Due.due("34 no paper", x.whatIf(0, -1), -52);
        // what goes over makes the next day one on which one can't
        ClashDays y = Due.withBook("paper 0 47 9;paper 1 0 12;paper 1 0 12;cand 0 0;takes 0 1;takes 0 2;night 0");
        Due.due("34 as it is", y.candOf(0, 5), 0);
        Due.due("34 with", y.whatIf(0, 0), 0);
        y.night(0, 0);
        Due.due("34 with", y.whatIf(0, 0), 1);
        y.night(0, 1);
        y.hours(20);
        Due.due("34 with", y.whatIf(0, 0), 1);
        Due.due("34 without", y.whatIf(0, 1), 0);
    }

    private static void both() {
        ClashDays x = Due.withBook("paper 0 4 6;paper 0 6 8;paper 0 9 1;paper 0 0 1;paper 0 0 1;paper 1 4 6;paper 1 6 8;"
            + "cand 0 0;takes 0 0;takes 0 1;takes 0 5");
        Due.due("35 as it is", x.both(0, 2, 2), 1);
        Due.due("35 as it is", x.both(0, 0, 0), 1);
        Due.due("35 all days", x.both(0, 6, 6), 1);
        Due.due("35 one of two", x.both(0, 6, 3), 2);
        Due.due("35 both left", x.both(0, 0, 5), 0);
        Due.due("35 one left", x.both(0, 0, 6), 1);
        x.takes(0, 2, 1);
        x.takes(0, 3, 1);
        Due.due("35 first a fifth", x.both(0, 4, 3), -55);
        Due.due("35 first the other", x.both(0, 3, 4), x.both(0, 3, 3));
        Due.due("35 a fifth twice", x.both(0, 4, 4), -55);
        Due.due("35 then a fifth", x.both(0, 6, 4), -55);
        Due.due("35 nothing changed", x.candOf(0, 3), 47);
        Due.due("35 no cand", x.both(1, 0, 0), -52);
        Due.due("35 no paper", x.both(0, 7, 0), -52);
        Due.due("35 no paper", x.both(0, 0, 7), -52);
        Due.due("35 no paper", x.both(0, -1, 0), -52);
        Due.due("35 no paper", x.both(0, 4, -1), -52);
        x.hours(8);
        Due.due("35 none kept, if one can't", x.both(0, 6, 6), 0);
    }

    private static void relief() {
        ClashDays x = new ClashDays();
        Due.due("36 no cand", x.relief(0), -52);
        x.cand(0, 0);
        Due.due("36 no papers", x.relief(0), -1);
        Due.due("36 no cand", x.relief(-1), -52);
        Due.due("36 refused", x.status(12), 2);
        ClashDays y = Due.withBook("paper 0 1 1;paper 0 4 6;paper 0 6 9;paper 1 47 3;cand 0 0;cand 0 0;takes 0 1;takes 0 2;"
            + "hours 14");
        // to leave 1 or 2 helps; to take 0 doesn't
        Due.due("36 relief", y.relief(0), 1);
        Due.due("36 nothing to help", y.relief(1), 0);
        y.takes(0, 3, 1);
        Due.due("36 the first of three", y.relief(0), 1);
        Due.due("36 nothing changed", y.candOf(0, 5), 2);
        y.hours(20);
        Due.due("36 relief", y.relief(0), 3);
        ClashDays z = Due.withBook("paper 0 0 1;paper 0 0 1;paper 0 0 1;paper 0 0 1;paper 0 0 1;cand 0 0;"
            + "takes 0 1;takes 0 2;takes 0 3;takes 0 4");
        Due.due("36 not one that is stuck", z.relief(0), 1);
    }

    private static void retime() {
        ClashDays x = Due.withBook("paper 0 4 6;paper 0 4 6;cand 0 0;cand 0 0;takes 0 0;takes 0 1");
        Due.due("37 nobody takes it", Due.withBook("paper 0 9 9;cand 0 0").retime(0), 0);
        // 1 at 11 isn't waited for; ahead of 4 it would be, unless it is over at 3, which it isn't
        Due.due("37 retime", x.retime(1), 11);
        Due.due("37 retime", x.retime(0), 11);
        Due.due("37 nothing changed", x.paperOf(1, 1), 4);
        Due.due("37 nothing changed", x.plan(0, 0, 1), 1);
        x.starts(0, 7);
        Due.due("37 the least", x.retime(1), 0);
        // fewest days first: 9 and a rest have to be over at 42
        ClashDays y = Due.withBook("paper 1 42 6;paper 1 47 9;cand 0 0;cand 3 9;takes 0 0;takes 0 1;takes 1 1");
        Due.due("37 as it is", y.candOf(0, 5) + y.candOf(1, 5), 2);
        Due.due("37 retime", y.retime(1), 0);
        y.starts(0, 0);
        // cand 1 has 9 and 9 and 1 and must begin at 29 or ahead of that; cand 0 begins at 7
        Due.due("37 retime", y.retime(1), 7);
        ClashDays z = Due.withBook("paper 0 47 12;paper 1 0 12;paper 1 0 12;cand 0 0;takes 0 0;takes 0 1;takes 0 2;night 0;hours 30");
        // over at night it makes day 1 one on which one lets something go over too
        Due.due("37 retime", z.retime(0), 0);
        // each time anew, whatever was summed up ahead of it
        ClashDays w = Due.withBook("paper 0 0 1;paper 0 47 1;cand 0 0;takes 0 0;takes 0 1");
        Due.due("37 first", w.retime(0), 0);
        w.starts(1, 0);
        Due.due("37 again", w.retime(0), 2);
        Due.due("37 again", w.retime(0), 2);
        w.hours(8);
        w.paper(0, 3, 8);
        w.takes(0, 2, 1);
        Due.due("37 one can't with any", w.retime(2), 0);
        w.takes(0, 2, 0);
        Due.due("37 again", w.retime(0), 2);
        // behind what came over and a rest one begins at 3 at the earliest
        ClashDays v = Due.withBook("paper 0 47 2;paper 1 0 1;cand 0 0;takes 0 0;takes 0 1;night 0");
        Due.due("37 FREE", v.retime(1), 3);
        v.takes(0, 0, 0);
        Due.due("37 0", v.retime(1), 0);
        Due.due("37 no paper", z.retime(3), -52);
        Due.due("37 no paper", z.retime(-1), -52);
    }

    private static void hoursFor() {
        ClashDays x = Due.withBook("paper 0 4 6;paper 0 6 8;paper 1 47 2;paper 2 0 12;cand 0 0;cand 3 9;cand 0 0;takes 0 0;"
            + "takes 0 1;takes 2 2;takes 1 3");
        Due.due("38 together", x.hoursFor(0), 14);
        Due.due("38 one", x.hoursFor(1), 24);
        Due.due("38 NONE", x.hoursFor(2), -1);
        x.night(2, 1);
        Due.due("38 by night", x.hoursFor(2), 8);
        x.night(0, 1);
        Due.due("38 by night", x.hoursFor(0), 8);
        Due.due("38 nothing changed", x.status(3), 24);
        x.takes(1, 3, 0);
        Due.due("38 no papers", x.hoursFor(1), 8);
        x.hours(40);
        Due.due("38 whatever HOURS", x.hoursFor(0), 8);
        ClashDays y = Due.withBook("paper 0 0 12;paper 0 0 12;paper 0 0 12;paper 0 0 5;cand 0 0;takes 0 0;takes 0 1;takes 0 2;takes 0 3");
        Due.due("38 forty are too few", y.hoursFor(0), -1);
        y.takes(0, 3, 0);
        Due.due("38 36", y.hoursFor(0), 36);
        Due.due("38 NONE isn't refused", y.status(12), 0);
        Due.due("38 no cand", y.hoursFor(1), -52);
        Due.due("38 no cand", y.hoursFor(-1), -52);
    }

    private static void tell(ClashDays x, int s, long... row) {
        x.row(s, 3, row.length);
        for (int i = 0; i < row.length; i++) {
            x.set(s, i, row[i]);
        }
    }

    private static void kinds() {
        ClashDays x = Due.withBook("paper 0 0 10;paper 0 0 4;cand 0 2;cand 5 0");
        tell(x, 0, 0, 10, 1, 4);
        Due.due("39 CANDIDATE, RESTING, RESTED", x.kinds(0, 0, 2), 1 + 4 + 16);
        tell(x, 0, 0, 12, 1, 5);
        Due.due("39 the first by SLOW and READER", x.kinds(0, 0, 1), 2 + 32);
        Due.due("39 both by SLOW", x.kinds(0, 0, 2), 2);
        Due.due("39 a as it is", x.kinds(1, 0, 1), 32);
        tell(x, 0, 0, 13, 1, 6, 0, 13);
        Due.due("39 SLOWER", x.kinds(0, 0, 3), 8);
        tell(x, 0, 0, 99);
        Due.due("39 no kind", x.kinds(0, 0, 1), 0);
        tell(x, 0, 0, 10 + (1L << 32));
        Due.due("39 not its lowest bits", x.kinds(0, 0, 1), 0);
        Due.due("39 no elements", x.kinds(0, 0, 0), 63);
        tell(x, 0, 2, 10);
        Due.due("39 no such PAPER", x.kinds(0, 0, 1), -55);
        tell(x, 0, 0, 99, -1, 10);
        Due.due("39 no such PAPER", x.kinds(0, 0, 2), -55);
        tell(x, 0, 1L << 32, 10);
        Due.due("39 no such PAPER", x.kinds(0, 0, 1), -55);
        Due.due("39 fewer elements", x.kinds(0, 0, 2), -52);
        x.row(1, 0, 0);
        Due.due("39 none of none", x.kinds(0, 1, 0), 63);
        x.row(2, 0, 24);
        Due.due("39 twelve twos", x.kinds(0, 2, 12), 0);
        Due.due("39 n 13", x.kinds(0, 2, 13), -52);
        Due.due("39 n -1", x.kinds(0, 2, -1), -52);
        x.row(2, 0, 23);
        Due.due("39 fewer elements", x.kinds(0, 2, 12), -52);
        x.show(3, 0);
        Due.due("39 OTHER", x.kinds(0, 3, 1), -53);
        Due.due("39 n ahead of OTHER", x.kinds(0, 3, 13), -52);
        Due.due("39 n ahead of NOTHING", x.kinds(0, 4, -1), -52);
        Due.due("39 OTHER ahead of how many", x.kinds(0, 3, 12), -53);
        Due.due("39 NOTHING", x.kinds(0, 4, 1), -54);
        Due.due("39 shelf 8", x.kinds(0, 8, 1), -52);
        Due.due("39 shelf -1", x.kinds(0, -1, 1), -52);
        Due.due("39 no cand", x.kinds(2, 3, 1), -52);
        Due.due("39 no cand", x.kinds(-1, 4, 1), -52);
    }

    private static void judge() {
        ClashDays x = Due.withBook("paper 0 4 6;paper 0 6 8;paper 1 0 1;paper 0 40 4;paper 0 40 3;cand 0 0;takes 0 0;takes 0 1;"
            + "takes 0 2;takes 0 3;takes 0 4;hours 40");
        tell(x, 0, 0, 1, 3, 4, 0);
        Due.due("40 all is well", x.judge(0, 0, 0, 4), -1);
        Due.due("40 not refused", x.status(12), 0);
        Due.due("40 one that was ahead", x.judge(0, 0, 0, 5), 4);
        Due.due("40 none", x.judge(0, 0, 0, 0), -1);
        x.hours(20);
        Due.due("40 above HOURS", x.judge(0, 0, 0, 4), 3);
        x.hours(21);
        Due.due("40 not above HOURS", x.judge(0, 0, 0, 4), -1);
        x.hours(40);
        x.starts(4, 46);
        Due.due("40 an END of 49", x.judge(0, 0, 0, 4), 3);
        x.starts(4, 45);
        Due.due("40 an END of 48", x.judge(0, 0, 0, 4), -1);
        x.starts(3, 42);
        Due.due("40 a rest ahead of it", x.judge(0, 0, 0, 4), 3);
        tell(x, 0, 0, 2);
        Due.due("40 of another DAY", x.judge(0, 0, 0, 2), 1);
        x.takes(0, 0, 0);
        Due.due("40 one doesn't take it", x.judge(0, 0, 0, 2), 0);
        tell(x, 0, 5);
        Due.due("40 no paper", x.judge(0, 0, 0, 1), 0);
        tell(x, 0, -1);
        Due.due("40 no paper", x.judge(0, 0, 0, 1), 0);
        tell(x, 0, (1L << 32) + 1);
        Due.due("40 no paper", x.judge(0, 0, 0, 1), 0);
        Due.due("40 fewer elements", x.judge(0, 0, 0, 2), -52);
        x.row(2, 4, 12);
        Due.due("40 n 12", x.judge(0, 0, 2, 12), 0);
        Due.due("40 n 13", x.judge(0, 0, 2, 13), -52);
        Due.due("40 n -1", x.judge(0, 0, 2, -1), -52);
        x.show(3, 0);
        Due.due("40 OTHER", x.judge(0, 0, 3, 1), -53);
        Due.due("40 n ahead of OTHER", x.judge(0, 0, 3, 13), -52);
        Due.due("40 n ahead of NOTHING", x.judge(0, 0, 4, -1), -52);
        x.row(2, 4, 40);
        Due.due("40 n 13", x.judge(0, 0, 2, 13), -52);
        Due.due("40 NOTHING", x.judge(0, 0, 4, 1), -54);
        Due.due("40 shelf 8", x.judge(0, 0, 8, 1), -52);
        Due.due("40 shelf -1", x.judge(0, 0, -1, 1), -52);
        Due.due("40 no day", x.judge(0, 5, 3, 1), -52);
        Due.due("40 no day", x.judge(0, -1, 4, 1), -52);
        Due.due("40 no cand", x.judge(1, 0, 3, 1), -52);
        Due.due("40 no cand", x.judge(-1, 0, 3, 1), -52);
        // FREE and AHEAD: 12 came over, so 30 begins at 13 and 9 and 12 are above 20
        ClashDays y = Due.withBook("paper 0 47 12;paper 1 0 9;paper 1 30 6;cand 0 0;takes 0 0;takes 0 1;takes 0 2;night 0;hours 20");
        tell(y, 0, 1, 2);
        Due.due("40 with AHEAD", y.judge(0, 1, 0, 2), 0);
        tell(y, 0, 2, 1);
        Due.due("40 with AHEAD", y.judge(0, 1, 0, 2), 1);
        y.hours(27);
        y.starts(1, 39);
        Due.due("40 with AHEAD", y.judge(0, 1, 0, 2), -1);
        y.hours(21);
        Due.due("40 with AHEAD", y.judge(0, 1, 0, 1), -1);
        y.hours(27);
        y.starts(1, 0);
        y.starts(2, 16);
        tell(y, 0, 1, 2);
        Due.due("40 with FREE", y.judge(0, 1, 0, 2), -1);
        ClashDays z = Due.withBook("paper 0 47 12;paper 1 0 9;paper 1 30 9;paper 1 30 9;cand 4 9;takes 0 0;takes 0 1;takes 0 2;night 0;"
            + "takes 0 3;hours 40");
        // behind 12 and a rest of 8: 20 to 29, 37 to 46, 54
        tell(z, 0, 1, 2, 3);
        Due.due("40 with FREE", z.judge(0, 1, 0, 3), 2);
        Due.due("23 FREE", z.plan(0, 1, 3), 20);
    }

    private static void together() {
        ClashDays x = Due.withBook("paper 0 4 6;paper 0 47 9;cand 0 0;cand 1 9;cand 0 0;takes 0 0;takes 1 0;takes 2 1;"
            + "takes 1 1;night 1");
        Due.due("41 all", x.together(0, 0, 4), 3);
        Due.due("41 all", x.together(0, 0, 9), 3);
        Due.due("41 the slow one", x.together(0, 0, 10), 2);
        Due.due("41 the slow one", x.together(0, 0, 15), 2);
        Due.due("41 nobody", x.together(0, 0, 16), 0);
        Due.due("41 nobody", x.together(0, 0, 3), 0);
        Due.due("41 one who can't", x.together(1, 0, 47), 0);
        Due.due("41 from OVER", x.together(1, 1, 0), 2);
        Due.due("41 from OVER", x.together(1, 1, 17), 2);
        Due.due("41 from OVER", x.together(1, 1, 18), 0);
        x.night(2, 1);
        Due.due("41 from OVER", x.together(1, 1, 8), 6);
        Due.due("41 from OVER", x.together(1, 1, 9), 2);
        Due.due("41 no paper", x.together(2, 0, 0), -52);
        Due.due("41 no paper", x.together(-1, 0, 0), -52);
        Due.due("41 no paper", x.together(20, 0, 47), -52);
        Due.due("41 no day", x.together(0, 5, 0), -52);
        Due.due("41 slot 48", x.together(0, 0, 48), -52);
        Due.due("41 slot -1", x.together(0, 0, -1), -52);
    }
}
