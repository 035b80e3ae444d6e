/** Compares answers with those that are due; a test ends with finish(). */
final class Due {
    /** A call, or a few, on an object: the last answer. */
    interface Call {
        long on(ClashDays x);
    }

    /** A call on an object with one number that is tried out. */
    interface CallWith {
        long on(ClashDays x, int v);
    }

    private static int looked = 0;
    private static int wrong = 0;
    /** The sentence of the document that the next answers are for. */
    private static String sentence = "";
    private static int lookedAhead = 0;

    private Due() {
    }

    /** The next answers are for this sentence, or part of one, of a section of the document. */
    static void of(String section, String part) {
        closeSentence();
        sentence = section + " \"" + part + "\": ";
        Doc.quote(section, part);
    }

    static void closeSentence() {
        if (!sentence.isEmpty() && looked == lookedAhead) {
            wrong++;
            System.out.println(sentence + "no answer was looked at");
        }
        lookedAhead = looked;
        sentence = "";
    }

    static void due(String call, long got, long want) {
        looked++;
        if (got != want) {
            wrong++;
            if (wrong <= 50) {
                System.out.println(sentence + call + " answered " + got + ", due is " + want);
            }
        }
    }

    /** Feeds a text to the tape, letter by letter. */
    static void feed(ClashDays x, String text) {
        for (int i = 0; i < text.length(); i++) {
            x.feed(text.charAt(i));
        }
    }

    /** What book() answers to a text. */
    static void book(ClashDays x, String text, long want) {
        x.wipe();
        feed(x, text);
        due("book of '" + text + "'", x.book(), want);
    }

    static ClashDays withBook(String text) {
        ClashDays x = new ClashDays();
        feed(x, text);
        if (x.book() < 0) {
            wrong++;
            System.out.println("no book: " + text);
        }
        return x;
    }

    // ---- objects made by few calls, as only 512 on one object are promised

    /** An object made by calls, told as the statements of a book are, but not by the tape. */
    static ClashDays made(String text) {
        ClashDays x = new ClashDays();
        more(x, text);
        return x;
    }

    static void more(ClashDays x, String text) {
        for (String statement : text.split(";")) {
            String[] words = statement.trim().split(" +");
            int[] v = new int[words.length];
            for (int i = 1; i < words.length && !words[0].equals("feed"); i++) {
                v[i - 1] = Integer.parseInt(words[i]);
            }
            if (words[0].equals("feed")) {
                feed(x, statement.trim().substring(5));
            } else if (words[0].equals("takes")) {
                for (int i = 2; i < words.length; i++) {
                    well(statement, x.takes(v[0], v[i - 1], 1));
                }
            } else {
                well(statement, oneOf(x, words[0], v));
            }
        }
    }

    private static void well(String statement, long answer) {
        if (answer <= -52) {
            wrong++;
            System.out.println(sentence + "can't make '" + statement + "': " + answer);
        }
    }

    private static long oneOf(ClashDays x, String word, int[] v) {
        switch (word) {
            case "paper": return x.paper(v[0], v[1], v[2]);
            case "cand": return x.cand(v[0], v[1]);
            case "drops": return x.takes(v[0], v[1], 0);
            case "night": return x.night(v[0], 1);
            case "room": return x.room(v[0]);
            case "hours": return x.hours(v[0]);
            case "turn": return x.turn(v[0]);
            case "row": return x.row(v[0], v[1], v[2]);
            case "set": return x.set(v[0], v[1], v[2]);
            case "show": return x.show(v[0], v[1]);
            case "seed": return x.seed(v[0]) * 0;
            case "image": return x.image();
            default: throw new IllegalArgumentException(word);
        }
    }

    // ---- refused calls

    /** A refused call answers its number, which is counted once, and changes nothing else. */
    static void refused(String world, int number, Call call) {
        ClashDays x = made(world);
        ClashDays twin = made(world);
        due("refused", call.on(x), number);
        for (int i = 0; i < 5; i++) {
            due("refusals of " + (-52 - i), x.status(12 + i), -52 - i == number ? 1 : 0);
        }
        sameReading("behind a refused call", x, twin);
    }

    /** All numbers out of bounds are BAD: the nearest ones, and the farthest. */
    static void badOutside(String world, int least, int most, CallWith call) {
        int[] outside = {least - 1, most + 1, Integer.MIN_VALUE, Integer.MAX_VALUE};
        for (int v : outside) {
            refused(world, -52, x -> call.on(x, v));
        }
    }

    /** Nothing was refused so far. */
    static void noneRefused(ClashDays x) {
        for (int i = 0; i < 5; i++) {
            due("refusals of " + (-52 - i), x.status(12 + i), 0);
        }
    }

    /** Two objects with the same in them; both are read to their ends, by fewer than 400 calls. */
    static void sameReading(String what, ClashDays x, ClashDays y) {
        long[] one = Reading.of(x);
        long[] other = Reading.of(y);
        int at = 0;
        while (at < one.length && at < other.length && one[at] == other[at]) {
            at++;
        }
        due(what + ": first place at which two readings differ", at, Math.max(one.length, other.length));
    }

    static void finish() {
        closeSentence();
        System.out.println(looked + " answers looked at, " + wrong + " not as due");
        if (wrong != 0 || looked == 0) {
            System.exit(1);
        }
    }
}
