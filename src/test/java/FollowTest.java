/** Promises 29 to 33: watchers, and rooms. */
final class FollowTest {
    public static void main(String[] args) {
        noDuties();
        inOrder();
        turns();
        whoEndedLast();
        overMidnight();
        atOnceIsNoMore();
        pieces();
        rooms();
        moves();
        roomsByRows();
        manyDuties();
        ninePieces();
        Due.finish();
    }

    private static void dueDuty(ClashDays x, int i, int... want) {
        for (int what = 0; what < want.length; what++) {
            Due.due("30 duty(" + i + ", " + what + ")", x.duty(i, what), want[what]);
        }
    }

    private static void dueWatch(ClashDays x, int... want) {
        for (int what = 0; what < want.length; what++) {
            Due.due("29 watch(" + what + ")", x.watch(what), want[what]);
        }
    }

    private static void noDuties() {
        ClashDays x = Due.withBook("paper 0 0 3;cand 0 0;takes 0 0");
        dueWatch(x, 0, 0, 0);
        Due.due("29 what 3", x.watch(3), -52);
        Due.due("29 what -1", x.watch(-1), -52);
        Due.due("30 no i-th", x.duty(0, 0), -52);
        Due.due("30 no i-th", x.duty(-1, 0), -52);
    }

    private static void inOrder() {
        // cand 0: 4 to 10, kept in 10 (and on day 1 in 5, 6 and 7); cand 1: the same day 0; cand 2: kept in 2 on day 0
        ClashDays x = Due.withBook("paper 0 4 6;paper 0 6 8;paper 1 0 5;paper 1 5 1;paper 0 1 1;paper 0 2 1;cand 4 6;cand 0 0;"
            + "cand 0 0;takes 1 0;takes 1 1;takes 0 2;takes 0 3;takes 2 4;takes 2 5;takes 0 0");
        dueWatch(x, 3, 1, 1);
        dueDuty(x, 0, 2, 0, 2, 1, 0);
        dueDuty(x, 1, 1, 0, 10, 1, 0);
        dueDuty(x, 2, 0, 1, 5, 6, 0);
        x.takes(0, 1, 1);
        dueWatch(x, 4, 2, 2);
        dueDuty(x, 1, 0, 0, 10, 6, 0);
        dueDuty(x, 2, 1, 0, 10, 1, 1);
        // both are free long ago, and the one of 16 ended last
        dueDuty(x, 3, 0, 1, 5, 6, 0);
        Due.due("30 what 5", x.duty(0, 5), -52);
        Due.due("30 what -1", x.duty(0, -1), -52);
        Due.due("30 no i-th", x.duty(4, 0), -52);
        Due.due("30 no i-th", x.duty(-1, 0), -52);
    }

    /** One is kept in 2, another in 4: a slot lies between. */
    private static void turns() {
        ClashDays x = Due.withBook("paper 0 1 1;paper 0 2 1;paper 0 3 1;paper 0 4 1;cand 0 0;cand 0 0;takes 0 0;takes 0 1;"
            + "takes 1 2;takes 1 3");
        dueWatch(x, 2, 1, 1);
        x.turn(0);
        dueWatch(x, 2, 1, 1);
        x.turn(2);
        dueWatch(x, 2, 2, 2);
        dueDuty(x, 1, 1, 0, 4, 1, 1);
        x.turn(1);
        dueWatch(x, 2, 1, 1);
        x.starts(2, 2);
        x.starts(3, 3);
        // kept in 2 and in 3: near with a turn of 1, but not of 0
        dueWatch(x, 2, 2, 2);
        x.turn(0);
        dueWatch(x, 2, 1, 1);
    }

    private static void whoEndedLast() {
        // kept: cand 0 in 2; cand 1 in 4; cand 2 in 6; cand 3 in 6
        ClashDays x = Due.withBook("paper 0 1 1;paper 0 2 1;paper 0 0 4;paper 0 5 1;paper 0 6 1;cand 0 0;cand 0 0;cand 0 0;cand 0 0;"
            + "takes 0 0;takes 0 1;takes 1 2;takes 1 1;takes 2 3;takes 2 4;takes 3 3;takes 3 4");
        dueWatch(x, 4, 2, 2);
        dueDuty(x, 0, 0, 0, 2, 1, 0);
        dueDuty(x, 1, 1, 0, 4, 1, 0);
        dueDuty(x, 2, 2, 0, 6, 1, 0);
        dueDuty(x, 3, 3, 0, 6, 1, 1);
        x.turn(3);
        // 0 ended at 3, 1 at 5: only the first is free at 6
        dueWatch(x, 4, 3, 3);
        dueDuty(x, 1, 1, 0, 4, 1, 1);
        dueDuty(x, 2, 2, 0, 6, 1, 0);
        dueDuty(x, 3, 3, 0, 6, 1, 2);
        // kept: cand 0 in 2; cand 1 from 2 to 6; cand 2 in 8
        ClashDays y = Due.withBook("paper 0 1 1;paper 0 2 1;paper 0 7 1;paper 0 8 1;cand 0 0;cand 4 3;cand 0 0;takes 0 0;"
            + "takes 0 1;takes 1 0;takes 1 1;takes 2 2;takes 2 3");
        dueWatch(y, 3, 2, 2);
        dueDuty(y, 0, 0, 0, 2, 1, 0);
        dueDuty(y, 1, 1, 0, 2, 4, 1);
        dueDuty(y, 2, 2, 0, 8, 1, 1);
        y.turn(3);
        dueDuty(y, 2, 2, 0, 8, 1, 0);
    }

    private static void overMidnight() {
        // kept to the end of day 0, and on day 1 from 0 on: with no slot between
        ClashDays x = Due.withBook("paper 0 40 9;paper 1 0 2;paper 1 0 2;cand 0 0;cand 4 9;takes 0 0;night 0;turn 0;"
            + "paper 0 46 2;takes 1 3");
        dueWatch(x, 1, 1, 1);
        dueDuty(x, 0, 0, 0, 40, 8, 0);
        x.takes(0, 1, 1);
        // what came over is sat ahead of 9, then a rest
        dueWatch(x, 2, 1, 1);
        dueDuty(x, 1, 0, 1, 9, 1, 0);
        x.takes(1, 1, 1);
        x.takes(1, 2, 1);
        // cand 1, behind 2 slots, rests 8: kept from 2 to 9 on day 1
        dueWatch(x, 3, 2, 2);
        dueDuty(x, 1, 1, 1, 2, 8, 0);
        dueDuty(x, 2, 0, 1, 9, 1, 1);
        x.turn(3);
        // SLOTS are counted on: 48 and 2 is 2 behind the end of day 0, which is near, but 9 isn't
        dueWatch(x, 3, 2, 2);
        dueDuty(x, 1, 1, 1, 2, 8, 1);
        dueDuty(x, 2, 0, 1, 9, 1, 0);
        x.turn(2);
        dueWatch(x, 3, 2, 2);
    }

    private static void atOnceIsNoMore() {
        // two pairs, each pair at once, but not with the other
        ClashDays x = Due.withBook("paper 0 1 1;paper 0 2 1;paper 0 20 1;paper 0 21 1;cand 0 0;cand 0 0;"
            + "takes 0 0;takes 0 1;takes 0 2;takes 0 3;takes 1 0;takes 1 1;takes 1 2;takes 1 3");
        dueWatch(x, 4, 2, 2);
        dueDuty(x, 0, 0, 0, 2, 1, 0);
        dueDuty(x, 1, 1, 0, 2, 1, 1);
        dueDuty(x, 2, 0, 0, 21, 1, 0);
        dueDuty(x, 3, 1, 0, 21, 1, 1);
    }

    private static void duePieces(ClashDays x, int cand, int day, int n, int moves) {
        Due.due("31 pieces(" + cand + ", " + day + ", 0)", x.pieces(cand, day, 0), n);
        Due.due("31 pieces(" + cand + ", " + day + ", 1)", x.pieces(cand, day, 1), moves);
    }

    private static void dueRooms(ClashDays x, int cand, int day, int... want) {
        for (int i = 0; i < want.length; i++) {
            Due.due("32 roomOf(" + cand + ", " + day + ", " + i + ")", x.roomOf(cand, day, i), want[i]);
        }
        Due.due("32 no i-th", x.roomOf(cand, day, want.length), -52);
        Due.due("32 no i-th", x.roomOf(cand, day, -1), -52);
    }

    private static void pieces() {
        ClashDays x = Due.withBook("paper 0 4 6;paper 0 6 8;paper 1 0 2;cand 0 0;takes 0 0;takes 0 1;takes 0 2;hours 13;night 0");
        // kept in 4 and 5, 6 to 14, kept to the end; then what came over, kept in 6, and 7 to 9
        duePieces(x, 0, 0, 3, -1);
        duePieces(x, 0, 1, 3, -1);
        duePieces(x, 0, 2, 0, 0);
        dueRooms(x, 0, 0, -1, -1, -1);
        dueRooms(x, 0, 2);
        x.room(1);
        duePieces(x, 0, 0, 3, 0);
        dueRooms(x, 0, 0, 0, 0, 0);
        dueRooms(x, 0, 1, 0, 0, 0);
        Due.due("33 left", x.left(0, 0, 3), 1);
        Due.due("33 left", x.left(0, 0, 4), 0);
        Due.due("33 left", x.left(0, 0, 47), 0);
        Due.due("33 left", x.left(0, 1, 0), 0);
        Due.due("33 left", x.left(0, 1, 8), 0);
        Due.due("33 left", x.left(0, 1, 9), 1);
        x.night(0, 0);
        // one can't on day 0
        duePieces(x, 0, 0, 0, 0);
        duePieces(x, 0, 1, 1, 0);
        Due.due("31 what 2", x.pieces(0, 0, 2), -52);
        Due.due("31 what -1", x.pieces(0, 0, -1), -52);
        Due.due("31 no cand", x.pieces(1, 0, 0), -52);
        Due.due("31 no cand", x.pieces(-1, 0, 0), -52);
        Due.due("31 no day", x.pieces(0, 5, 0), -52);
        Due.due("32 no cand", x.roomOf(1, 0, 0), -52);
        Due.due("32 no day", x.roomOf(0, -1, 0), -52);
        Due.due("33 no room", x.left(1, 0, 0), -52);
        Due.due("33 no room", x.left(-1, 0, 0), -52);
        Due.due("33 no day", x.left(0, 5, 0), -52);
        Due.due("33 slot 48", x.left(0, 0, 48), -52);
        Due.due("33 slot -1", x.left(0, 0, -1), -52);
    }

    private static void rooms() {
        // four sit the same, in rooms of 1 and 2
        ClashDays x = Due.withBook("paper 0 4 6;cand 0 0;cand 0 0;cand 0 0;cand 0 0;takes 0 0;takes 1 0;takes 2 0;takes 3 0;"
            + "room 1;room 2;paper 0 20 2;takes 3 1");
        dueRooms(x, 0, 0, 0);
        dueRooms(x, 1, 0, 1);
        dueRooms(x, 2, 0, 1);
        // for one piece there is no room, so there is none for any
        duePieces(x, 3, 0, 2, -1);
        dueRooms(x, 3, 0, -1, -1);
        Due.due("33 left", x.left(0, 0, 20), 1);
        Due.due("33 left", x.left(1, 0, 9), 0);
        Due.due("33 left", x.left(1, 0, 10), 2);
        x.takes(1, 0, 0);
        dueRooms(x, 3, 0, 1, 1);
        Due.due("33 left", x.left(1, 0, 20), 1);
        Due.due("33 left", x.left(0, 0, 20), 1);
    }

    private static void moves() {
        ClashDays x = Due.withBook("paper 0 4 6;paper 0 8 6;paper 0 4 2;paper 0 11 2;cand 0 0;cand 0 0;cand 0 0;takes 0 0;"
            + "takes 1 1;takes 2 2;takes 2 3;room 1;room 1");
        dueRooms(x, 0, 0, 0);
        dueRooms(x, 1, 0, 1);
        // room 0 is taken from 4 to 10, room 1 from 8 to 14
        duePieces(x, 2, 0, 2, 1);
        dueRooms(x, 2, 0, 1, 0);
        x.room(1);
        // rather no move than a lesser room
        duePieces(x, 2, 0, 2, 0);
        dueRooms(x, 2, 0, 2, 2);
        x.starts(3, 14);
        dueRooms(x, 2, 0, 1, 1);
    }

    /** Ten who are kept three times on each of three days. */
    /** Twelve papers of three days, and ten who take them all; an object that has used up 142 calls. */
    private static ClashDays tenTimesTwelve() {
        ClashDays x = new ClashDays();
        for (int p = 0; p < 12; p++) {
            x.paper(p / 4, 0, 1);
        }
        for (int c = 0; c < 10; c++) {
            x.cand(0, 0);
            for (int p = 0; p < 12; p++) {
                x.takes(c, p, 1);
            }
        }
        return x;
    }

    private static void manyDuties() {
        for (int part = 0; part < 3; part++) {
            ClashDays x = tenTimesTwelve();
            for (int i = part * 30; i < part * 30 + 30; i++) {
                dueDuty(x, i, i % 10, i / 30, i / 10 % 3 * 2 + 1, 1, i % 10);
            }
        }
        ClashDays x = tenTimesTwelve();
        dueWatch(x, 90, 10, 10);
        Due.due("30 no i-th", x.duty(90, 0), -52);
        x.turn(2);
        dueWatch(x, 90, 20, 20);
        x.turn(8);
        dueWatch(x, 90, 30, 30);
    }

    /** What came over, four papers, and one is kept ahead of each of them. */
    private static void ninePieces() {
        ClashDays x = Due.withBook("paper 0 47 2;paper 1 0 1;paper 1 0 1;paper 1 0 1;paper 1 0 1;cand 0 0;takes 0 0;takes 0 1;"
            + "takes 0 2;takes 0 3;takes 0 4;night 0");
        duePieces(x, 0, 1, 9, -1);
        dueRooms(x, 0, 1, -1, -1, -1, -1, -1, -1, -1, -1, -1);
        x.room(1);
        x.room(1);
        duePieces(x, 0, 1, 9, 0);
        dueRooms(x, 0, 1, 0, 0, 0, 0, 0, 0, 0, 0, 0);
        Due.due("33 left", x.left(0, 1, 9), 0);
        Due.due("33 left", x.left(0, 1, 10), 1);
        // three others, each in room 0 or 1 for a while, so that it goes to and fro
        ClashDays y = Due.withBook("paper 0 47 2;paper 1 0 1;paper 1 0 1;paper 1 0 1;paper 1 0 1;paper 1 4 1;paper 1 7 1;paper 1 5 1;"
            + "paper 1 8 1;cand 0 0;cand 0 0;cand 0 0;cand 0 0;room 1;room 1");
        y.takes(0, 5, 1);
        y.takes(1, 5, 1);
        duePieces(y, 1, 1, 1, 0);
        dueRooms(y, 0, 1, 0);
        dueRooms(y, 1, 1, 1);
        y.takes(1, 5, 0);
        y.takes(1, 7, 1);
        y.takes(2, 6, 1);
        y.takes(0, 7, 1);
        // cand 0: 4, kept 5, 6; cand 1: 5; cand 2: 7
        dueRooms(y, 0, 1, 0, 0, 0);
        dueRooms(y, 1, 1, 1);
        dueRooms(y, 2, 1, 0);
        for (int p = 0; p < 5; p++) {
            y.takes(3, p, 1);
        }
        y.night(3, 1);
        // room 0 is taken in 4 to 7, room 1 in 5: no room in 5
        duePieces(y, 3, 1, 9, -1);
        y.takes(1, 7, 0);
        duePieces(y, 3, 1, 9, 0);
        dueRooms(y, 3, 1, 1, 1, 1, 1, 1, 1, 1, 1, 1);
        y.takes(1, 8, 1);
        y.takes(1, 6, 1);
        // cand 1 sits in room 1 in 7 and in 9, so cand 2 in 7 has none, and cand 3 in 7 none either
        Due.due("24 begin", y.sits(1, 1, 1, 1), 9);
        duePieces(y, 3, 1, 9, -1);
        y.takes(0, 5, 0);
        y.takes(0, 7, 0);
        y.takes(2, 6, 0);
        duePieces(y, 1, 1, 3, 0);
        dueRooms(y, 1, 1, 0, 0, 0);
        y.takes(2, 5, 1);
        dueRooms(y, 2, 1, 0);
        duePieces(y, 3, 1, 9, 0);
        dueRooms(y, 3, 1, 1, 1, 1, 1, 1, 1, 1, 1, 1);
    }

    private static void roomsByRows() {
        // taken: room 0 in 0 and 1, room 1 in 6 and 7, room 2 in 3 and 4: the last one's pieces are in 0, 3 and 6
        ClashDays x = Due.withBook("paper 0 0 2;paper 0 6 2;paper 0 3 2;cand 0 0;cand 0 0;cand 0 0;cand 0 0;takes 0 0;"
            + "room 1;room 1;room 1;takes 3 0;takes 3 1;takes 3 2");
        duePieces(x, 3, 0, 3, 0);
        dueRooms(x, 3, 0, 1, 1, 1);
        x.takes(1, 1, 1);
        dueRooms(x, 1, 0, 0);
        dueRooms(x, 3, 0, 1, 1, 1);
        x.takes(1, 0, 1);
        // one sits in room 1 in 0 and 6, so room 2 alone is left in 0
        dueRooms(x, 1, 0, 1, 1);
        dueRooms(x, 3, 0, 2, 2, 2);
        x.takes(2, 2, 1);
        dueRooms(x, 2, 0, 0);
        dueRooms(x, 3, 0, 2, 2, 2);
    }
}
