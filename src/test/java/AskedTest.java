/** Whatever was asked ahead of a change, or of two, the answers behind it are those of an object that wasn't asked. */
final class AskedTest {
    private static final String WORLD = "paper 0 4 6;paper 0 6 8;paper 0 45 9;paper 1 5 3;paper 1 6 2;cand 1 5;cand 4 7;cand 0 0;takes 0 0 1 3;"
        + "takes 1 0 1 2 3;takes 2 3 4;night 1;room 1;room 2;image;cand 2 9;takes 3 0 1 4;show 5 3;seed 5";

    private static final Due.Call[] CHANGES = {
        x -> x.paper(0, 9, 3), x -> x.starts(1, 9), x -> x.starts(0, 0), x -> x.cand(5, 1), x -> x.takes(0, 1, 0), x -> x.takes(2, 1, 1),
        x -> x.night(1, 0), x -> x.room(1), x -> x.hours(19), x -> x.hours(12), x -> x.turn(4), x -> x.changes(3), x -> x.back(),
        x -> x.image(), x -> x.seed(9), x -> x.show(5, 1), x -> book(x, "hours 13"), x -> book(x, "turn 0;takes 2 2;night 2"),
        x -> book(x, "drops 0 1;room 1;cand 0 0;takes 4 1"), x -> book(x, "drops 0 1;turn 99")};

    public static void main(String[] args) {
        for (int i = 0; i < CHANGES.length; i++) {
            for (int j = 0; j < CHANGES.length; j++) {
                ClashDays x = Due.made(WORLD);
                ClashDays twin = Due.made(WORLD);
                ask(x);
                due(i, j, CHANGES[i].on(x), CHANGES[i].on(twin));
                due(i, j, CHANGES[j].on(x), CHANGES[j].on(twin));
                Due.sameReading("asked ahead of changes " + i + " and " + j, x, twin);
            }
        }
        Due.finish();
    }

    private static void due(int i, int j, long answer, long twin) {
        Due.due("change " + i + " or " + j, answer, twin);
    }

    private static long book(ClashDays x, String text) {
        Due.feed(x, text);
        return x.book();
    }

    /** All that is worked out, and the seats of day 0 last, as a reading looks at that day first. */
    private static void ask(ClashDays x) {
        for (int c = 0; c < x.status(1); c++) {
            x.candOf(c, 5);
            x.relief(c);
        }
        x.retime(0);
        x.watch(1);
        x.pieces(0, 1, 1);
        x.pieces(0, 0, 1);
    }
}
