/** A test for each sentence of "1. THE BOOK". */
final class BookSentences {
    private static final String ONE = "paper 1 7 3;cand 0 0;takes 0 0;room 2";

    private BookSentences() {
    }

    static void all() {
        daysAndSlots();
        papers();
        hoursAndTurn();
        rooms();
        candidates();
        kinds();
        ofOne();
        tape();
        tokens();
        words();
        numbersAndSigns();
        blanks();
        statements();
        paperStatement();
        candStatement();
        takesStatement();
        dropsAndNight();
        numberStatements();
        allOrNothing();
        faults();
        numbersThatMayNotBe();
        longNumbers();
        fifths();
        noRoom();
        endsTooEarly();
    }

    private static void of(String part) {
        Due.of("BOOK", part);
    }

    private static void due(String call, long got, long want) {
        Due.due(call, got, want);
    }

    private static void daysAndSlots() {
        of("DAYS 0 to 4");
        ClashDays x = new ClashDays();
        due("the first day", x.paper(0, 0, 1), 0);
        due("the last day", x.paper(4, 0, 1), 1);
        due("told", x.paperOf(0, 0) * 10 + x.paperOf(1, 0), 4);
        x.cand(0, 0);
        due("plan of the first", x.plan(0, 0, 0), 1);
        due("plan of the last", x.plan(0, 4, 0), 1);
        Due.badOutside(ONE, 0, 4, (y, v) -> y.paper(v, 0, 1));
        Due.badOutside(ONE, 0, 4, (y, v) -> y.plan(0, v, 0));

        of("each of SLOTS 0 to 47");
        ClashDays z = Due.made("paper 2 0 1;paper 2 47 1;cand 0 0;takes 0 0 1");
        due("the first slot", z.does(0, 2, 0), 0);
        due("the last slot", z.does(0, 2, 47), 1);
        Due.badOutside(ONE, 0, 47, (y, v) -> y.does(0, 1, v));
        Due.badOutside(ONE, 0, 47, (y, v) -> y.paper(0, v, 1));
    }

    private static void papers() {
        of("PAPERS have numbers, 0 on, 12 at most");
        ClashDays x = new ClashDays();
        for (int p = 0; p < 12; p++) {
            due("number", x.paper(p % 5, p, 1 + p % 12), p);
        }
        due("a thirteenth", x.paper(0, 0, 1), -56);
        due("the last has its own", x.paperOf(11, 0) * 10000 + x.paperOf(11, 1) * 100 + x.paperOf(11, 2), 11112);
        due("there is no thirteenth", x.paperOf(12, 0), -52);
        due("how many", x.status(0), 12);

        of("a DAY, a START (a SLOT)");
        ClashDays y = new ClashDays();
        y.paper(4, 47, 2);
        due("day", y.paperOf(0, 0), 4);
        due("start", y.paperOf(0, 1), 47);

        of("a LENGTH (1 to 12)");
        due("1", y.paper(0, 0, 1), 1);
        due("12", y.paper(0, 0, 12), 2);
        due("lengths", y.paperOf(1, 2) * 100 + y.paperOf(2, 2), 112);
        Due.badOutside(ONE, 1, 12, (z, v) -> z.paper(0, 0, v));
    }

    private static void hoursAndTurn() {
        of("HOURS (8 to 40");
        ClashDays x = new ClashDays();
        due("the least", x.hours(8), 24);
        due("the most", x.hours(40), 8);
        due("told", x.status(3), 40);
        Due.badOutside(ONE, 8, 40, (y, v) -> y.hours(v));

        of("24 at first");
        ClashDays z = Due.made("paper 0 0 12;paper 0 20 12;paper 0 40 1;cand 0 0;takes 0 0 1");
        due("hours", z.status(3), 24);
        due("24 are not above", z.plan(0, 0, 0), 1);
        z.takes(0, 2, 1);
        due("25 are", z.plan(0, 0, 0), 0);

        of("TURN (0 to 8");
        ClashDays t = new ClashDays();
        due("the most", t.turn(8), 1);
        due("the least", t.turn(0), 8);
        due("told", t.status(4), 0);
        Due.badOutside(ONE, 0, 8, (y, v) -> y.turn(v));

        of("1 at first");
        due("turn", new ClashDays().status(4), 1);
    }

    private static void rooms() {
        of("ROOMS have numbers, 0 on, 6 at most");
        ClashDays x = new ClashDays();
        for (int r = 0; r < 6; r++) {
            due("number", x.room(r + 1), r);
        }
        due("a seventh", x.room(1), -56);
        due("how many", x.status(2), 6);
        due("the last has its own", x.left(5, 0, 0), 6);
        due("there is no seventh", x.left(6, 0, 0), -52);

        of("each with SEATS (1 to 9)");
        ClashDays y = new ClashDays();
        due("the fewest", y.room(1), 0);
        due("the most", y.room(9), 1);
        due("told", y.left(0, 0, 0) * 10 + y.left(1, 0, 0), 19);
        Due.badOutside(ONE, 1, 9, (z, v) -> z.room(v));
    }

    private static void candidates() {
        of("CANDIDATES have numbers, 0 on, 10 at most");
        ClashDays x = new ClashDays();
        for (int c = 0; c < 10; c++) {
            due("number", x.cand(c % 6, 9 - c), c);
        }
        due("an eleventh", x.cand(0, 0), -56);
        due("how many", x.status(1), 10);
        due("the last has its own", x.candOf(9, 0) * 10 + x.candOf(9, 1), 30);
        due("there is no eleventh", x.candOf(10, 0), -52);

        of("CANDIDATES have numbers, 0 on, 10 at most, each of a KIND");
        ClashDays all = full();
        due("takers", all.paperOf(11, 3), 10);
        due("those who wait", all.paperOf(11, 4), 10);
        due("those who don't", all.paperOf(0, 4), 0);
        due("together", all.together(11, 4, 45), 1023);
        due("retime", all.retime(11), 0);
        due("relief", all.relief(9), 0);
        due("duties", all.watch(0), 10);
        due("watchers", all.watch(1), 10);
        due("moves of the last", all.pieces(9, 4, 1), 0);
        due("room of the first", all.roomOf(0, 4, 4), 0);
        due("room of the last", all.roomOf(9, 4, 4), 5);
        due("nobody else", all.does(9, 4, 0), -1);

        of("each of a KIND: 0 CANDIDATE");
        ClashDays y = new ClashDays();
        for (int kind = 0; kind < 6; kind++) {
            due("a kind", y.cand(kind, 0), kind);
            due("told", y.candOf(kind, 0), kind);
        }
        Due.badOutside(ONE, 0, 5, (z, v) -> z.cand(v, 0));
    }

    /** Twelve papers on three days, each taken by each of ten; all are sat in time but the last, which waits for a slot. */
    private static ClashDays full() {
        ClashDays x = new ClashDays();
        for (int p = 0; p < 12; p++) {
            int day = new int[] {0, 2, 4}[p / 4];
            x.paper(day, p == 11 ? 44 : 39 + p % 4 * 2, 1);
        }
        for (int c = 0; c < 10; c++) {
            x.cand(0, 0);
            for (int p = 0; p < 12; p++) {
                x.takes(c, p, 1);
            }
        }
        for (int r = 0; r < 6; r++) {
            x.room(r == 5 ? 5 : 1);
        }
        return x;
    }

    /** Which kinds are under which, by what one taken for them says. */
    private static void kinds() {
        of("1 SLOW, 2 RESTING, 5 READER, each under CANDIDATE");
        ClashDays x = Due.made("cand 1 4;cand 2 4;cand 5 4;show 1 0;show 2 1;show 5 2");
        due("1", x.says(1, 0, 1), 4);
        due("2", x.says(2, 0, 1), 4);
        due("5", x.says(5, 0, 1), 4);
        due("SLOW isn't under RESTING", x.says(1, 2, 1), -53);
        due("RESTING isn't under SLOW", x.says(2, 1, 1), -53);
        due("READER isn't under SLOW", x.says(5, 1, 1), -53);
        due("READER isn't under RESTING", x.says(5, 2, 1), -53);
        due("SLOW isn't under READER", x.says(1, 5, 1), -53);

        of("3 SLOWER, under SLOW");
        ClashDays y = Due.made("cand 3 4;cand 1 4;show 0 0;show 1 1");
        due("under SLOW", y.says(0, 1, 5), 8);
        due("so under CANDIDATE, too", y.says(0, 0, 5), 4);
        due("not under RESTING", y.says(0, 2, 5), -53);
        due("SLOW isn't under it", y.says(1, 3, 5), -53);

        of("4 RESTED, under RESTING");
        ClashDays z = Due.made("cand 4 4;cand 2 4;show 0 0;show 1 1");
        due("under RESTING", z.says(0, 2, 5), 4);
        due("so under CANDIDATE, too", z.says(0, 0, 5), 4);
        due("not under SLOW", z.says(0, 1, 5), -53);
        due("RESTING isn't under it", z.says(1, 4, 5), -53);
    }

    private static void ofOne() {
        of("a (0 to 9)");
        ClashDays x = new ClashDays();
        due("the least", x.cand(1, 0), 0);
        due("the most", x.cand(1, 9), 1);
        due("told", x.candOf(0, 1) * 10 + x.candOf(1, 1), 9);
        Due.badOutside(ONE, 0, 9, (y, v) -> y.cand(1, v));

        of("NIGHT (0 or 1");
        due("1", x.night(0, 1), 0);
        due("0", x.night(0, 0), 1);
        Due.badOutside(ONE, 0, 1, (y, v) -> y.night(0, v));

        of("0 at first)");
        due("night", new ClashDays().cand(5, 9) + Due.made("cand 5 9").candOf(0, 2), 0);

        of("PAPERS it TAKES (none at first");
        ClashDays none = Due.made("paper 0 0 1;cand 3 3");
        due("papers", none.candOf(0, 3), 0);
        due("it doesn't", none.takes(0, 0, 0), 0);

        of("4 of one DAY at most");
        ClashDays z = Due.made("paper 3 0 1;paper 3 4 1;paper 3 8 1;paper 3 12 1;paper 3 16 1;paper 2 0 1;cand 0 0");
        for (int p = 0; p < 4; p++) {
            due("one of four", z.takes(0, p, 1), 0);
        }
        due("a fifth", z.takes(0, 4, 1), -55);
        due("a fifth paper, but of another day", z.takes(0, 5, 1), 0);
        due("all", z.candOf(0, 3), 15 + 32);
        due("all four are sat", z.plan(0, 3, 5), 4);
    }

    private static void tape() {
        of("A BOOK is read from THE TAPE (bytes, 250 at most)");
        ClashDays x = new ClashDays();
        for (int i = 1; i <= 244; i++) {
            due("size", x.feed(' '), i);
        }
        Due.feed(x, "turn 7");
        due("one more", x.feed(' '), -56);
        due("size", x.status(7), 250);
        due("the last byte is read, too", x.book(), 1);
        due("turn", x.status(4), 7);
        ClashDays y = new ClashDays();
        for (int i = 0; i < 249; i++) {
            y.feed(' ');
        }
        due("the last place", y.feed('#'), 250);
        due("a fault at the last place", y.book(), -849);
        ClashDays z = new ClashDays();
        for (int i = 0; i < 250; i++) {
            z.feed(' ');
        }
        due("a fault at the size", z.book(), -850);
        ClashDays w = new ClashDays();
        for (int i = 0; i < 250; i++) {
            w.feed(i < 4 ? "turn".charAt(i) : '0');
        }
        due("a number of 246 digits", w.book(), -604);
        ClashDays v = new ClashDays();
        for (int i = 0; i < 250; i++) {
            v.feed(i % 6 == 5 ? ';' : "turn0".charAt(i % 6));
        }
        due("many statements, and the last is cut", v.book(), -850);
    }

    private static void tokens() {
        of("TOKENS, each as long as can be");
        ClashDays x = new ClashDays();
        Due.book(x, "hours 12", 1);
        due("12 isn't 1 and 2", x.status(3), 12);
        Due.book(x, "hours 1 2", -606);
        Due.book(x, "turn 1 2", -607);
        Due.book(x, "paper 0 0 12", 1);
        Due.book(x, "paper 0 01 2", 1);
        Due.book(x, "paper 0 012", -608);
        Due.book(x, "paper 0 0 1paper 0 0 1", -611);
        Due.book(x, "turnturn 1", -600);
        Due.book(x, "turns 1", -600);
        Due.book(x, "tur 1", -600);
    }

    private static void words() {
        of("WORDS (a .. z)");
        ClashDays x = new ClashDays();
        // a longer word is another word; behind a sign that is no letter the word is the right one
        Due.book(x, "turna 1", -600);
        Due.book(x, "turnz 1", -600);
        Due.book(x, "turn` 1", -604);
        Due.book(x, "turn{ 1", -604);
        Due.book(x, "turn 1a", -606);
        Due.book(x, "xurn 1", -600);
        Due.book(x, "tuxn 1", -600);
        Due.book(x, "turx 1", -600);
        Due.book(x, "Turn 1", -600);
        Due.book(x, "turN 1", -600);
        Due.book(x, "turn 1", 1);
    }

    private static void numbersAndSigns() {
        of("NUMBERS (digits)");
        ClashDays x = new ClashDays();
        Due.book(x, "hours 09", 1);
        due("0 and 9 are digits", x.status(3), 9);
        Due.book(x, "turn 1/", -606);
        Due.book(x, "turn 1:", -606);
        Due.book(x, "turn /", -605);
        Due.book(x, "turn :", -605);
        Due.book(x, "turn -1", -605);
        Due.book(x, "turn x", -605);
        Due.book(x, "turn ;", -605);
        due("turn", x.status(4), 1);

        of("the SIGN ; - blanks (32) may stand anywhere between");
        ClashDays y = new ClashDays();
        Due.book(y, "turn 2;turn 3", 2);
        due("turn", y.status(4), 3);
        Due.book(y, "turn 2:turn 3", -606);
        Due.book(y, "turn 2,turn 3", -606);
        Due.book(y, "turn 2<turn 3", -606);
    }

    private static void blanks() {
        of("blanks (32) may stand anywhere between");
        ClashDays x = new ClashDays();
        Due.book(x, "   paper   1   2   3   ;   turn   4   ", 2);
        due("read", x.paperOf(0, 0) * 100 + x.paperOf(0, 1) * 10 + x.paperOf(0, 2), 123);
        due("read", x.status(4), 4);
        Due.book(x, "pa per 0 0 1", -600);
        int[] no = {0, 9, 10, 31, 33, 160, 255};
        for (int b : no) {
            x.wipe();
            Due.feed(x, "turn");
            x.feed(b);
            Due.feed(x, "5");
            due("byte " + b + " is no blank", x.book(), -604);
        }
        due("turn", x.status(4), 4);
    }

    private static void statements() {
        of("STATEMENTS, one or more, with ; between: paper D S L");
        ClashDays x = new ClashDays();
        Due.book(x, "turn 2", 1);
        Due.book(x, "turn 2;turn 3;turn 4", 3);
        due("the last holds", x.status(4), 4);
        Due.book(x, "", -600);
        Due.book(x, ";turn 5", -600);
        Due.book(x, ";", -600);
        Due.book(x, "turn 5;", -607);
        Due.book(x, "turn 5;;turn 6", -607);
        Due.book(x, "turn 5 turn 6", -607);
        due("turn", x.status(4), 4);
    }

    private static void paperStatement() {
        of("paper D S L");
        ClashDays x = new ClashDays();
        Due.book(x, "paper 0 0 1", 1);
        Due.book(x, "paper 4 47 12", 1);
        due("the least ones", x.paperOf(0, 0) * 10000 + x.paperOf(0, 1) * 100 + x.paperOf(0, 2), 1);
        due("the most ones", x.paperOf(1, 0) * 10000 + x.paperOf(1, 1) * 100 + x.paperOf(1, 2), 44712);
        Due.book(x, "paper 5 0 1", -606);
        Due.book(x, "paper 0 48 1", -608);
        Due.book(x, "paper 0 0 0", -610);
        Due.book(x, "paper 0 0 13", -610);
        due("papers", x.status(0), 2);
    }

    private static void candStatement() {
        of("cand K A");
        ClashDays x = new ClashDays();
        Due.book(x, "cand 0 0", 1);
        Due.book(x, "cand 5 9", 1);
        due("the least ones", x.candOf(0, 0) * 10 + x.candOf(0, 1), 0);
        due("the most ones", x.candOf(1, 0) * 10 + x.candOf(1, 1), 59);
        Due.book(x, "cand 6 0", -605);
        Due.book(x, "cand 0 10", -607);
        due("candidates", x.status(1), 2);
    }

    private static void takesStatement() {
        of("takes C P (also if it does");
        ClashDays x = Due.made("paper 0 0 1;paper 0 0 1;paper 0 0 1;paper 0 0 1;paper 0 0 1;cand 0 0;cand 0 0");
        Due.book(x, "takes 1 3", 1);
        Due.book(x, "takes 1 3;takes 1 3", 2);
        due("the one", x.candOf(1, 3), 8);
        due("not the other", x.candOf(0, 3), 0);
        Due.book(x, "takes 1 0;takes 1 1;takes 1 2;takes 1 3", 4);
        due("four, and one of them again", x.candOf(1, 3), 15);
        Due.book(x, "takes 2 0", -606);
        Due.book(x, "takes 0 5", -608);

        of("not a fifth of a DAY");
        ClashDays y = Due.made("paper 0 0 1;paper 0 0 1;paper 0 0 1;paper 0 0 1;paper 0 0 1;paper 1 0 1;cand 0 0;takes 0 0 1 2 3");
        Due.book(y, "takes 0 4", -608);
        Due.book(y, "takes 0 5", 1);
        Due.book(y, "drops 0 2;takes 0 4", 2);
        due("papers", y.candOf(0, 3), 1 + 2 + 8 + 16 + 32);
    }

    private static void dropsAndNight() {
        of("drops C P (also if it doesn't)");
        ClashDays x = Due.made("paper 0 0 1;paper 0 0 1;cand 0 0;cand 0 0;takes 0 0 1;takes 1 0 1");
        Due.book(x, "drops 0 1", 1);
        Due.book(x, "drops 0 1", 1);
        due("the one", x.candOf(0, 3), 1);
        due("not the other", x.candOf(1, 3), 3);
        Due.book(x, "drops 2 0", -606);
        Due.book(x, "drops 0 2", -608);

        of("night C (NIGHT is 1)");
        Due.book(x, "night 1", 1);
        due("night", x.candOf(1, 2), 1);
        Due.book(x, "night 1", 1);
        due("still", x.candOf(1, 2), 1);
        due("not the other", x.candOf(0, 2), 0);
        Due.book(x, "night 2", -606);
    }

    private static void numberStatements() {
        of("room N");
        ClashDays x = new ClashDays();
        Due.book(x, "room 1;room 9", 2);
        due("seats", x.left(0, 0, 0) * 10 + x.left(1, 0, 0), 19);
        Due.book(x, "room 0", -605);
        Due.book(x, "room 10", -605);
        due("rooms", x.status(2), 2);

        of("hours N");
        Due.book(x, "hours 8", 1);
        due("hours", x.status(3), 8);
        Due.book(x, "hours 40", 1);
        due("hours", x.status(3), 40);
        Due.book(x, "hours 7", -606);
        Due.book(x, "hours 41", -606);

        of("turn N");
        Due.book(x, "turn 0", 1);
        due("turn", x.status(4), 0);
        Due.book(x, "turn 8", 1);
        due("turn", x.status(4), 8);
        Due.book(x, "turn 9", -605);
    }

    private static void allOrNothing() {
        of("All comes to what there is, or nothing");
        String world = "paper 0 4 6;cand 0 0;takes 0 0;room 2";
        String[] each = {"paper 1 1 1", "cand 1 1", "room 3", "night 0", "drops 0 0", "hours 30", "turn 5", "paper 0 0 1;takes 0 1"};
        for (String statement : each) {
            ClashDays x = Due.made(world);
            Due.book(x, statement + ";turn 9", -600 - statement.length() - 6);
            Due.sameReading("nothing of '" + statement + "'", x, Due.made(world));
        }
        ClashDays y = Due.made(world);
        Due.book(y, "paper 2 2 2;cand 3 3;room 4;night 0;drops 0 0;takes 1 1;hours 30;turn 5", 8);
        ClashDays asked = Due.made("paper 0 20 9;cand 0 0;takes 0 0");
        due("can", asked.plan(0, 0, 0), 1);
        Due.book(asked, "hours 8", 1);
        due("can't any more", asked.plan(0, 0, 0), 0);
        ClashDays all = Due.made("paper 0 4 6;cand 0 0;room 2;paper 2 2 2;cand 3 3;room 4;night 0;takes 1 1;hours 30;turn 5");
        Due.sameReading("all", y, all);
    }

    private static void faults() {
        of("The FAULT: the place of the first byte of the first TOKEN that can't stand there");
        ClashDays x = new ClashDays();
        Due.book(x, "hello", -600);
        Due.book(x, "  hello", -602);
        Due.book(x, "7", -600);
        Due.book(x, "turn turn", -605);
        Due.book(x, "turn 1 hello", -607);
        Due.book(x, "turn 1; 22", -608);
        Due.book(x, "turn 99;turn #", -605);
        Due.book(x, "turn 1;turn 99;hours 99", -612);
        Due.book(x, "paper 9 99 99", -606);
        Due.book(x, "paper 0;", -607);

        of("a byte that begins none");
        int[] none = {0, 9, 31, 33, 47, 58, 60, 64, 65, 90, 96, 123, 127, 128, 255};
        for (int b : none) {
            x.wipe();
            Due.feed(x, " ");
            x.feed(b);
            Due.feed(x, "turn 1");
            due("byte " + b, x.book(), -601);
        }
        Due.book(x, "turn 1;#", -607);
        Due.book(x, "turn 1 #", -607);
        Due.book(x, "turn 1#", -606);
    }

    private static void numbersThatMayNotBe() {
        of("also a NUMBER that may not be");
        ClashDays x = new ClashDays();
        Due.book(x, "turn 00", 1);
        Due.book(x, "turn   09", -607);
        Due.book(x, "takes 0 0", -606);
        Due.book(x, "drops 0 0", -606);
        Due.book(x, "night 0", -606);
        x.cand(0, 0);
        Due.book(x, "takes 0 0", -608);
        Due.book(x, "drops 0 0", -608);
        // what a statement ahead of it has made may be told
        Due.book(x, "takes 0 0;paper 0 0 1", -608);
        Due.book(x, "paper 0 0 1;takes 0 0;cand 0 0;takes 1 0", 4);
    }

    private static void longNumbers() {
        of("or has more than 2 digits");
        ClashDays x = new ClashDays();
        Due.book(x, "turn 1", 1);
        Due.book(x, "turn 02", 1);
        due("two digits", x.status(4), 2);
        Due.book(x, "turn 003", -605);
        Due.book(x, "hours 0010", -606);
        Due.book(x, "hours 010", -606);
        Due.book(x, "hours 4294967304", -606);
        Due.book(x, "paper 0 0 012", -610);
        due("hours", x.status(3), 24);
    }

    private static void fifths() {
        of("a fifth of a DAY: its P");
        ClashDays x = Due.made("paper 0 0 1;paper 0 0 1;paper 0 0 1;paper 0 0 1;paper 0 0 1;cand 0 0;takes 0 0 1 2");
        Due.book(x, "takes 0 3;takes  0  4 ;turn 99", -620);
        due("nothing", x.candOf(0, 3), 7);
        Due.book(x, "takes 0 3", 1);
        Due.book(x, "takes 0 04", -608);
    }

    private static void noRoom() {
        of("what there is no room for: its word");
        ClashDays x = new ClashDays();
        for (int i = 0; i < 11; i++) {
            x.paper(0, 0, 1);
        }
        Due.book(x, "paper 0 0 1; paper 0 0 1", -613);
        due("nothing", x.status(0), 11);
        Due.book(x, "paper 0 0 1", 1);
        Due.book(x, "paper 0 0 1", -600);
        Due.book(x, "paper 99 0 1", -600);
        Due.book(x, "paper", -600);
        ClashDays y = new ClashDays();
        for (int i = 0; i < 9; i++) {
            y.cand(0, 0);
        }
        Due.book(y, "cand 0 0;cand 0 0", -609);
        Due.book(y, "cand 0 0", 1);
        Due.book(y, "cand 0 0", -600);
        ClashDays z = new ClashDays();
        for (int i = 0; i < 5; i++) {
            z.room(1);
        }
        Due.book(z, "room 1;room 1", -607);
        Due.book(z, "room 1", 1);
        Due.book(z, "room 1", -600);
    }

    private static void endsTooEarly() {
        of("THE TAPE's size, if it ends too early");
        String[] cut = {"paper", "paper 0", "paper 0 0", "paper 0 0 ", "cand", "cand 0", "takes", "drops", "night", "room", "hours",
            "turn", "turn   ", "turn 1;", "turn 1;  ", "turn 1;paper 0 47"};
        for (String text : cut) {
            Due.book(new ClashDays(), text, -600 - text.length());
        }
        ClashDays x = Due.made("paper 0 0 1;cand 0 0");
        Due.book(x, "takes 0", -607);
        Due.book(x, "drops 0 ", -608);
    }
}
