/** Promises 22 to 28: a day of one. */
final class DayTest {
    public static void main(String[] args) {
        times();
        twoPapers();
        cantAndClash();
        overNight();
        overNightTies();
        overNightEdges();
        chain();
        measures();
        told();
        Due.finish();
    }

    private static void duePlan(ClashDays x, int cand, int day, int... want) {
        for (int what = 0; what < want.length; what++) {
            Due.due("23 plan(" + cand + ", " + day + ", " + what + ")", x.plan(cand, day, what), want[what]);
        }
    }

    /** Paper, begin, end of each of an order. */
    private static void dueSits(ClashDays x, int cand, int day, int... want) {
        int n = want.length / 3;
        Due.due("23 how many sit", x.plan(cand, day, 5), n);
        for (int k = 0; k < want.length; k++) {
            Due.due("24 sits(" + cand + ", " + day + ", " + k / 3 + ", " + k % 3 + ")",
                x.sits(cand, day, k / 3, k % 3), want[k]);
        }
        Due.due("24 no i-th", x.sits(cand, day, n, 0), -52);
        Due.due("24 no i-th", x.sits(cand, day, -1, 0), -52);
    }

    /** One letter a slot: the paper's digit, k kept, . none. */
    private static void dueDoes(ClashDays x, int cand, int day, String want) {
        for (int slot = 0; slot < 48; slot++) {
            char w = slot < want.length() ? want.charAt(slot) : '.';
            int due = w == '.' ? -1 : w == 'k' ? 20 : w - '0';
            Due.due("25 does(" + cand + ", " + day + ", " + slot + ")", x.does(cand, day, slot), due);
        }
    }

    private static void times() {
        ClashDays x = new ClashDays();
        for (int length = 1; length <= 12; length++) {
            x.paper(0, 0, length);
        }
        int[] as = {0, 1, 5, 9};
        for (int a : as) {
            ClashDays y = new ClashDays();
            for (int length = 1; length <= 12; length++) {
                y.paper(0, 0, length);
            }
            for (int kind = 0; kind < 6; kind++) {
                y.cand(kind, a);
            }
            for (int length = 1; length <= 12; length++) {
                int slow = length * a / 10 + (length * a % 10 > 0 ? 1 : 0);
                int[] more = {0, slow, 0, slow + 1, 0, 2};
                for (int kind = 0; kind < 6; kind++) {
                    Due.due("22 kind " + kind, y.time(kind, length - 1), length + more[kind]);
                }
            }
            int[] rests = {1, 1, 1 + a / 3, 1, 2 + a / 3 * 2, 2};
            for (int kind = 0; kind < 6; kind++) {
                Due.due("20 rest of kind " + kind, y.candOf(kind, 4), rests[kind]);
            }
        }
        Due.due("22 no cand", x.time(0, 0), -52);
        x.cand(0, 0);
        Due.due("22 no cand", x.time(-1, 0), -52);
        Due.due("22 no paper", x.time(0, 12), -52);
        Due.due("22 no paper", x.time(0, -1), -52);
        Due.due("22 time", x.time(0, 11), 12);
    }

    private static void twoPapers() {
        ClashDays x = Due.withBook("paper 0 4 6;paper 0 6 8;paper 1 0 1;cand 0 0;takes 0 0;takes 0 1");
        duePlan(x, 0, 0, 1, 1, -1, 0, 0, 2, 0);
        dueSits(x, 0, 0, 0, 4, 10, 1, 11, 19);
        dueDoes(x, 0, 0, "....000000k11111111");
        duePlan(x, 0, 1, 1, 0, -1, 0, 0, 0, 0);
        dueSits(x, 0, 1);
        dueDoes(x, 0, 1, "");
        x.starts(1, 4);
        x.starts(0, 8);
        duePlan(x, 0, 0, 1, 1, -1, 0, 0, 2, 0);
        dueSits(x, 0, 0, 1, 4, 12, 0, 13, 19);
        dueDoes(x, 0, 0, "....11111111k000000");
    }

    private static void cantAndClash() {
        ClashDays x = Due.withBook("paper 0 4 6;paper 0 6 8;paper 0 0 1;cand 0 0;takes 0 0;takes 0 1;takes 0 2;hours 13");
        duePlan(x, 0, 0, 0, 0, -1, 0, 0, 0, 3);
        dueSits(x, 0, 0);
        dueDoes(x, 0, 0, "");
        x.hours(14);
        // 0 and 1 go together, 2 and 0, 2 and 1 too; all three don't
        duePlan(x, 0, 0, 0, 0, -1, 0, 0, 0, 7);
        x.hours(15);
        duePlan(x, 0, 0, 1, 1, -1, 0, 0, 3, 0);
        x.paper(0, 47, 2);
        x.takes(0, 3, 1);
        duePlan(x, 0, 0, 0, 0, -1, 0, 0, 0, 8);
        x.paper(1, 40, 6);
        x.paper(1, 40, 6);
        x.paper(1, 40, 6);
        x.takes(0, 6, 1);
        x.takes(0, 5, 1);
        duePlan(x, 0, 1, 0, 0, -1, 0, 0, 0, 96);
        x.takes(0, 4, 1);
        // of the three twos the least number as bits
        duePlan(x, 0, 1, 0, 0, -1, 0, 0, 0, 48);
        Due.due("28 lawful", x.lawful(0, 1), 0);
        Due.due("23 no day", x.plan(0, 5, 0), -52);
        Due.due("23 no day", x.plan(0, -1, 0), -52);
        Due.due("23 no cand", x.plan(1, 0, 0), -52);
        Due.due("23 no cand", x.plan(-1, 0, 0), -52);
        Due.due("23 what 7", x.plan(0, 0, 7), -52);
        Due.due("23 what -1", x.plan(0, 0, -1), -52);
    }

    private static void overNight() {
        ClashDays x = Due.withBook("paper 0 4 6;paper 0 6 8;paper 1 5 3;cand 0 0;takes 0 0;takes 0 1;hours 13;night 0");
        // 0 over: kept in 4, 5 and from 14 on; 1 over: kept from 10 on
        duePlan(x, 0, 0, 1, 36, 0, 0, 0, 1, 0);
        dueSits(x, 0, 0, 1, 6, 14);
        dueDoes(x, 0, 0, "....kk11111111kkkkkkkkkkkkkkkkkkkkkkkkkkkkkkkkkk");
        duePlan(x, 0, 1, 1, 0, -1, 7, 6, 0, 0);
        dueDoes(x, 0, 1, "000000");
        x.takes(0, 2, 1);
        duePlan(x, 0, 1, 1, 1, -1, 7, 6, 1, 0);
        dueSits(x, 0, 1, 2, 7, 10);
        dueDoes(x, 0, 1, "000000k222");
        Due.due("26 MEASURE behind a night", x.measure(0, 1, 0), 1);
        Due.due("26 goes over", x.measure(0, 0, 0), -55);
        Due.due("27 none with something over", x.best(0, 0, 1, -1), -1);
        Due.due("28 none with something over", x.lawful(0, 0), 0);
        Due.due("28 behind a night", x.lawful(0, 1), 1);
        // AHEAD counts for HOURS: 6 and 3 are above 8
        x.hours(8);
        duePlan(x, 0, 0, 1, 36, 0);
        duePlan(x, 0, 1, 1, 42, 2, 7, 6, 0, 0);
        dueDoes(x, 0, 1, "000000kkkkkkkkkkkkkkkkkkkkkkkkkkkkkkkkkkkkkkkkkk");
        duePlan(x, 0, 2, 1, 0, -1, 4, 3, 0, 0);
        dueDoes(x, 0, 2, "222");
        // no night: one can't, and nothing comes
        x.night(0, 0);
        duePlan(x, 0, 0, 0, 0, -1, 0, 0, 0, 3);
        duePlan(x, 0, 1, 1, 0, -1, 0, 0, 1, 0);
    }

    private static void overNightTies() {
        ClashDays x = Due.withBook("paper 2 4 6;paper 2 4 6;paper 2 4 6;cand 0 0;takes 0 0;takes 0 1;takes 0 2;hours 12;night 0");
        duePlan(x, 0, 2, 1, 32, 0, 0, 0, 2, 0);
        dueSits(x, 0, 2, 1, 4, 10, 2, 11, 17);
        // of fewest kept: the shorter one goes over, though it isn't the lesser
        ClashDays y = Due.withBook("paper 2 4 6;paper 2 4 5;paper 2 4 6;cand 0 0;takes 0 0;takes 0 1;takes 0 2;hours 12;night 0");
        duePlan(y, 0, 2, 1, 32, 1, 0, 0, 2, 0);
        dueSits(y, 0, 2, 0, 4, 10, 2, 11, 17);
    }

    private static void overNightEdges() {
        ClashDays x = Due.withBook("paper 4 47 2;paper 3 47 2;paper 0 0 12;cand 0 0;cand 3 9;takes 0 0;takes 0 1;"
            + "night 0;takes 1 2;night 1;hours 23");
        // nobody else, too, is an order
        duePlan(x, 0, 3, 1, 1, 1, 0, 0, 0, 0);
        dueSits(x, 0, 3);
        dueDoes(x, 0, 3, "...............................................k");
        // from the last day nothing goes over, but what came is sat though one can't
        duePlan(x, 0, 4, 0, 0, -1, 3, 2, 0, 1);
        dueDoes(x, 0, 4, "11");
        // 24 is above HOURS: it can't go over either
        duePlan(x, 1, 0, 0, 0, -1, 0, 0, 0, 4);
        duePlan(x, 1, 1, 1, 0, -1, 0, 0, 0, 0);
        x.hours(24);
        duePlan(x, 1, 0, 1, 0, -1, 0, 0, 1, 0);
        x.starts(2, 30);
        duePlan(x, 1, 0, 1, 18, 2, 0, 0, 0, 0);
        duePlan(x, 1, 1, 1, 0, -1, 25, 24, 0, 0);
        x.starts(2, 24);
        duePlan(x, 1, 0, 1, 0, -1, 0, 0, 1, 0);
        Due.due("24 an end of 48", x.sits(1, 0, 0, 2), 48);
        Due.due("24 what 3", x.sits(1, 0, 0, 3), -52);
        Due.due("24 what -1", x.sits(1, 0, 0, -1), -52);
        Due.due("24 no cand", x.sits(2, 0, 0, 0), -52);
        Due.due("24 no day", x.sits(1, 5, 0, 0), -52);
        Due.due("25 slot 48", x.does(1, 0, 48), -52);
        Due.due("25 slot -1", x.does(1, 0, -1), -52);
        Due.due("25 no day", x.does(1, 5, 0), -52);
        Due.due("25 no cand", x.does(2, 0, 0), -52);
        Due.due("25 NONE isn't refused", x.does(1, 0, 0), -1);
        Due.due("25 refusals", x.status(12), 10);
    }

    /** What goes over each night, with FREE and AHEAD of one who rests. */
    private static void chain() {
        ClashDays x = Due.withBook("paper 0 40 9;paper 1 36 9;paper 1 10 2;paper 2 0 4;cand 4 6;takes 0 0;takes 0 1;"
            + "takes 0 2;takes 0 3;night 0;hours 10");
        duePlan(x, 0, 0, 1, 8, 0, 0, 0, 0, 0);
        // 9 are AHEAD, and neither 9 nor 2 more fit below 10 HOURS, whichever goes over
        duePlan(x, 0, 1, 0, 0, -1, 15, 9, 0, 2);
        dueDoes(x, 0, 1, "000000000");
        duePlan(x, 0, 2, 1, 0, -1, 0, 0, 1, 0);
        x.hours(11);
        duePlan(x, 0, 1, 1, 17, 1, 15, 9, 1, 0);
        dueSits(x, 0, 1, 2, 15, 17);
        dueDoes(x, 0, 1, "000000000.kkkkk22...................kkkkkkkkkkkk");
    }

    private static void measures() {
        ClashDays x = Due.withBook("paper 0 4 6;paper 0 6 8;paper 1 0 5;paper 1 0 5;paper 1 1 2;cand 0 0;takes 0 0;"
            + "takes 0 1;takes 0 2;takes 0 3;takes 0 4");
        int[] first = {1, 19, 5, 1, 5};
        // 2, 3, 4: begins 0, 6, 12: kept 5, 11; 2, 4, 3: begins 0, 6, 9: kept 5, 8, but it isn't the first
        int[] second = {2, 14, 17, 2, 11};
        for (int by = 0; by < 5; by++) {
            Due.due("26 by " + by, x.measure(0, 0, by), first[by]);
            Due.due("26 by " + by, x.measure(0, 1, by), second[by]);
        }
        Due.due("26 no papers", x.measure(0, 2, 0), -55);
        x.hours(13);
        Due.due("26 none", x.measure(0, 0, 0), -55);
        Due.due("26 BAD ahead of STUCK", x.measure(0, 0, 5), -52);
        Due.due("26 by -1", x.measure(0, 0, -1), -52);
        Due.due("26 no day", x.measure(0, 5, 0), -52);
        Due.due("26 no cand", x.measure(1, 0, 0), -52);
        Due.due("26 no cand", x.measure(-1, 0, 0), -52);
    }

    private static void told() {
        ClashDays x = Due.withBook("paper 0 0 12;paper 0 1 2;paper 0 2 2;cand 0 0;takes 0 0;takes 0 1;takes 0 2;hours 20");
        // rows and begins: 012 0 13 16; 021 0 13 16; 102 1 4 17; 120 1 4 7; 201 2 5 18; 210 2 5 8
        int[] least = {2, 18, 9, 2, 7};
        int[][] rows = {{0, 1, 2}, {0, 1, 2}, {1, 2, 0}, {0, 1, 2}, {1, 2, 0}};
        for (int by = 0; by < 5; by++) {
            Due.due("27 by " + by, x.best(0, 0, by, -1), least[by]);
            for (int i = 0; i < 3; i++) {
                Due.due("27 by " + by + " i " + i, x.best(0, 0, by, i), rows[by][i]);
            }
        }
        Due.due("28 lawful", x.lawful(0, 0), 6);
        Due.due("28 no papers", x.lawful(0, 1), 1);
        Due.due("27 no papers", x.best(0, 1, 0, 0), -1);
        x.starts(0, 33);
        // 0 ends at 45, so one more can end at 48, but not two
        Due.due("28 lawful", x.lawful(0, 0), 4);
        Due.due("27 by 3", x.best(0, 0, 3, -1), 1);
        x.starts(0, 34);
        Due.due("28 lawful", x.lawful(0, 0), 2);
        x.hours(15);
        Due.due("28 above HOURS", x.lawful(0, 0), 0);
        Due.due("27 no lawful one", x.best(0, 0, 0, -1), -1);
        Due.due("27 NONE isn't refused", x.status(12), 0);
        x.hours(16);
        Due.due("27 i 3", x.best(0, 0, 0, 3), -52);
        Due.due("27 i -2", x.best(0, 0, 0, -2), -52);
        Due.due("27 by 5", x.best(0, 0, 5, 0), -52);
        Due.due("27 by -1", x.best(0, 0, -1, 0), -52);
        Due.due("27 no day", x.best(0, 5, 0, 0), -52);
        Due.due("27 no cand", x.best(1, 0, 0, 0), -52);
        Due.due("28 no cand", x.lawful(1, 0), -52);
        Due.due("28 no day", x.lawful(0, 5), -52);
        Due.due("28 no day", x.lawful(0, -1), -52);
    }
}
