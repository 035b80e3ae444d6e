/** Compares answers with those that are due; a test ends with finish(). */
final class Due {
    private static int looked = 0;
    private static int wrong = 0;

    private Due() {
    }

    static void due(String call, long got, long want) {
        looked++;
        if (got != want) {
            wrong++;
            if (wrong <= 50) {
                System.out.println(call + " answered " + got + ", due is " + want);
            }
        }
    }

    /** Feeds a text to the tape, letter by letter. */
    static void feed(ClashDays x, String text) {
        for (int i = 0; i < text.length(); i++) {
            x.feed(text.charAt(i));
        }
    }

    /** What book() answers to a text. */
    static void book(ClashDays x, String text, long want) {
        x.wipe();
        feed(x, text);
        due("book of '" + text + "'", x.book(), want);
    }

    static ClashDays withBook(String text) {
        ClashDays x = new ClashDays();
        feed(x, text);
        if (x.book() < 0) {
            wrong++;
            System.out.println("no book: " + text);
        }
        return x;
    }

    static void finish() {
        System.out.println(looked + " answers looked at, " + wrong + " not as due");
        if (wrong != 0 || looked == 0) {
            System.exit(1);
        }
    }
}
