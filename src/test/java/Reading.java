import java.util.ArrayList;
import java.util.List;

/** Reads all that can be seen of an object, but its refusals; the tape is used up by that, and the image is gone back to. */
final class Reading {
    private final ClashDays x;
    private final List<Long> seen = new ArrayList<>();

    private Reading(ClashDays x) {
        this.x = x;
    }

    static long[] of(ClashDays x) {
        Reading r = new Reading(x);
        r.all();
        long[] numbers = new long[r.seen.size()];
        for (int i = 0; i < numbers.length; i++) {
            numbers[i] = r.seen.get(i);
        }
        return numbers;
    }

    private void see(long answer) {
        seen.add(answer);
    }

    private void all() {
        shelves();
        things();
        int cands = x.status(1);
        for (int c = 0; c < cands; c++) {
            for (int day = 0; day < 3; day++) {
                for (int what = 0; what < 6; what++) {
                    see(x.plan(c, day, what));
                }
                see(x.pieces(c, day, 1));
            }
        }
        int rooms = x.status(2);
        for (int r = 0; r < rooms; r++) {
            see(x.left(r, 0, 4));
        }
        see(x.watch(0));
        see(x.watch(1));
        // what the tape holds is seen by what it says; what was kept, by going back
        see(x.book());
        things();
        see(x.back());
        things();
    }

    private void shelves() {
        for (int s = 0; s < 8; s++) {
            int what = x.holds(s);
            see(what);
            for (int i = 0; i < 5 && what >= 0; i++) {
                see(x.element(s, i));
            }
        }
    }

    private void things() {
        for (int what = 0; what < 10; what++) {
            see(x.status(what));
        }
        int papers = x.status(0);
        for (int p = 0; p < papers; p++) {
            see(x.paperOf(p, 0) * 10000 + x.paperOf(p, 1) * 100 + x.paperOf(p, 2));
        }
        int cands = x.status(1);
        for (int c = 0; c < cands; c++) {
            for (int what = 0; what < 4; what++) {
                see(x.candOf(c, what));
            }
        }
    }
}
