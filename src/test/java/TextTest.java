/** Promises 2 to 5: the tape, and what is told by texts. */
public final class TextTest {
    private static final Check check = new Check();

    public static void main(String[] args) {
        tape();
        longest();
        statements();
        tokens();
        cannotStand();
        cannotBe();
        tooMany();
        staysAsItWas();
        check.end("TextTest");
    }

    private static void tape() {
        QuickestOut x = new QuickestOut();
        check.due("end(0) of an empty tape", true, x.end(0));
        check.due("end(1) of an empty tape", false, x.end(1));
        for (int i = 1; i <= 20; i++) {
            check.due("feed " + i, 20 * i, x.feed(i, i, i, i, i));
        }
        check.due("feed too much", -1, x.feed(1, 1, 1, 1, 1));
        check.due("none came", 400, x.count(3));
        check.due("end(401)", false, x.end(401));
        check.due("end(-1)", false, x.end(-1));
        check.due("end(lowest)", false, x.end(Integer.MIN_VALUE));
        check.due("end(400)", true, x.end(400));
        check.due("end(381)", true, x.end(381));
        check.due("feed one byte too much", -1, x.feed(1, 1, 1, 1, 1));
        check.due("end(380)", true, x.end(380));
        check.due("feed what just goes", 400, x.feed(1, 1, 1, 1, 1));
        check.due("tell() of bytes 0", -1, x.tell());
        check.due("fault at the first", 1, x.fault());
        check.due("the tape is empty then", 0, x.count(3));
        check.due("tell() of nothing", 0, x.tell());
        check.due("no fault then", 0, x.fault());

        // What end() has cut off counts no more.
        Check.feed(x, "place -1 9 9 9;");
        x.end(7);
        check.due("a - with a digit cut off", -1, x.tell());
        check.due("fault at the -", 1 + 8 * 6, x.fault());
        Check.feed(x, "place 1 9 9 99;");
        x.end(14);
        Check.feed(x, ";");
        check.due("a text cut and mended", 1, x.tell());
        Check.feed(x, "place 1 9 9 999");
        x.end(13);
        check.due("a text cut in a number", -1, x.tell());
        check.due("fault at its end", 1 + 8 * 13, x.fault());
        x = new QuickestOut();

        // The highest byte of each number comes first, and a text may come in parts.
        Check.feed(x, "place 1 ");
        Check.feed(x, "2 3 4;");
        check.due("in parts", 14, x.count(3));
        check.due("told", 1, x.tell());
        check.due("of(0, 3)", 4, x.of(0, 3));
    }

    /** Texts of 400 bytes, with this at their end. */
    private static void longest() {
        String[] ends = {"place", "place -", "place 60", "place 60 ", "place -6", "place 6000", "place 1 1 1 1;"};
        int[] due = {1 + 8 * 400, 1 + 8 * 399, 1 + 8 * 400, 1 + 8 * 400, 2 + 8 * 398, 1 + 8 * 396, 0};
        for (int i = 0; i < ends.length; i++) {
            QuickestOut x = new QuickestOut();
            String text = " ".repeat(400 - ends[i].length()) + ends[i];
            check.due("tell of 400 bytes to '" + ends[i] + "'", due[i] == 0 ? 1 : -1, Check.tell(x, text));
            check.due("fault of 400 bytes to '" + ends[i] + "'", due[i], x.fault());
        }
        QuickestOut x = new QuickestOut();
        check.due("tell of 400 statements at most", -1, Check.tell(x, ";".repeat(400)));
        x.place(0, 0, 0, 0);
        x.place(0, 0, 0, 0);
        x.road(0, 1, 1, 1, 1);
        StringBuilder many = new StringBuilder();
        for (int i = 0; i < 22; i++) {
            many.append("turn0 1;turn0-1;");
        }
        check.due("tell of many statements", 44, Check.tell(x, many.toString()));
    }

    private static void statements() {
        QuickestOut x = new QuickestOut();
        check.due("all statements", 6, Check.tell(x, "place 5 6 7 8;place 0 300 20 300;road 1 0 9 0 9;turn 0 4;"
            + "move 40 0 there 60;move 0 0 back 1;"));
        check.due("fault()", 0, x.fault());
        int[] road = {1, 0, 9, 4, 5};
        for (int what = 0; what < 5; what++) {
            check.due("of place 0", what < 4 ? 5 + what : -1, x.of(0, what));
            check.due("along(0, " + what + ")", road[what], Check.along(x, 0, what));
        }
        int[][] moves = {{40, 0, 0, 60}, {0, 0, 1, 1}};
        for (int what = 0; what < 4; what++) {
            check.due("moved(0, " + what + ")", moves[0][what], x.moved(0, what));
            check.due("moved(1, " + what + ")", moves[1][what], x.moved(1, what));
        }
        check.due("it goes on", 2, Check.tell(x, "turn 0 -4;road 0 1 1 1 1;"));
        check.due("turned back", 0, Check.along(x, 0, 3));
        check.due("one road more", 2, x.count(1));
        check.due("blanks alone", 0, Check.tell(x, " \n \n"));
        check.due("nothing more", 2, x.count(0));
    }

    private static void tokens() {
        QuickestOut x = new QuickestOut();
        check.due("as few blanks as can be", 3, Check.tell(x, "place1 2 3 4;place-0 00 000 1;road0 1 1 0 9;"));
        check.due("none between a word and a number", 2, Check.tell(x, "turn0 5;move5 0there3;"));
        check.due("moved(0, 3)", 3, x.moved(0, 3));
        check.due("none between numbers", 1, Check.tell(x, "turn 0-2;"));
        check.due("THERE", 3, Check.along(x, 0, 3));
        check.due("blanks as one likes", 1, Check.tell(x, "\n  turn \n 0 \n\n -1  \n ; \n"));
        check.due("THERE", 2, Check.along(x, 0, 3));
        check.due("PEOPLE -0", 0, x.of(1, 0));
    }

    /** Tells a text to an object with two places, a road with 2 lanes there and 3 back, and a move. */
    private static void fault(String text, int kind, int place) {
        QuickestOut x = new QuickestOut();
        x.place(5, 0, 0, 9);
        x.place(0, 9, 0, 9);
        x.road(0, 1, 1, 2, 3);
        x.move(0, 0, false, 1);
        check.due("tell of '" + text + "'", -1, Check.tell(x, text));
        check.due("fault of '" + text + "'", kind + 8 * place, x.fault());
        check.due("places behind '" + text + "'", 2, x.count(0));
        check.due("roads behind '" + text + "'", 1, x.count(1));
        check.due("moves behind '" + text + "'", 1, x.count(2));
        check.due("THERE behind '" + text + "'", 2, Check.along(x, 0, 3));
        check.due("tape behind '" + text + "'", 0, x.count(3));
    }

    private static void cannotStand() {
        fault(";", 1, 0);
        fault(" \n;", 1, 2);
        fault("5;", 1, 0);
        fault("places 1 1 1 1;", 1, 0);
        fault("plac 1 1 1 1;", 1, 0);
        fault("xlace 1 1 1 1;", 1, 0);
        fault("placx 1 1 1 1;", 1, 0);
        fault("placez 1 1 1 1;", 1, 0);
        fault("zplace 1 1 1 1;", 1, 0);
        fault("place`1 1 1 1;", 1, 5);
        fault("place{1 1 1 1;", 1, 5);
        fault("place/1 1 1 1;", 1, 5);
        fault("place:1 1 1 1;", 1, 5);
        fault("Place 1 1 1 1;", 1, 0);
        fault("there", 1, 0);
        fault("\u00ff", 1, 0);
        fault("\u00bb", 1, 0);
        fault("\tplace 1 1 1 1;", 1, 0);
        fault("place 1 1 1 1", 1, 13);
        fault("place 1 1 1 1 \n", 1, 15);
        fault("place 1 1 1 ;", 1, 12);
        fault("place 1 1 1 1 1;", 1, 14);
        fault("place 1 1 1 1;;", 1, 14);
        fault("place 1 1 1 1,", 1, 13);
        fault("place", 1, 5);
        fault("place place 1 1 1;", 1, 6);
        fault("place 1 x 1 1;", 1, 8);
        fault("place - 1 1 1 1;", 1, 6);
        fault("place -", 1, 6);
        fault("place --1 1 1 1;", 1, 6);
        fault("place 0001 1 1 1;", 1, 6);
        fault("place -0001 1 1 1;", 1, 6);
        fault("place 1 12345678901234567890 1 1;", 1, 8);
        fault("place 1 1 1 1 0001", 1, 14);
        fault("move 0 0 up 1;", 1, 9);
        fault("move 0 0 backs 1;", 1, 9);
        fault("move 0 0 1 1;", 1, 9);
        fault("move 0 there 0 1;", 1, 7);
        fault("move 0 0 there there 1;", 1, 15);
        fault("turn 0 1 1;", 1, 9);
        fault("turn there 1;", 1, 5);
        fault("place 1 1 1 1;\nturn 0 1;x", 1, 24);
    }

    private static void cannotBe() {
        fault("place 61 1 1 1;", 2, 6);
        fault("place -1 1 1 1;", 2, 6);
        fault("place 1 301 1 1;", 2, 8);
        fault("place 1 1 21 1;", 2, 10);
        fault("place 1 1 1 301;", 2, 12);
        fault("place 999 x", 2, 6);
        fault("road 2 0 1 1 1;", 2, 5);
        fault("road -1 0 1 1 1;", 2, 5);
        fault("road 0 2 1 1 1;", 2, 7);
        fault("road 1 1 1 1 1;", 2, 7);
        fault("road 0 1 0 1 1;", 2, 9);
        fault("road 0 1 10 1 1;", 2, 9);
        fault("road 0 1 1 10 1;", 2, 11);
        fault("road 0 1 1 1 10;", 2, 13);
        fault("road 0 1 1 0 0;", 2, 13);
        fault("turn 1 1;", 2, 5);
        fault("turn 0 0;", 2, 7);
        fault("turn 0 4;", 2, 7);
        fault("turn 0 -3;", 2, 7);
        fault("turn 0 3;turn 0 1;", 2, 16);
        fault("turn 0 2;turn 0 -5;", 2, 16);
        fault("move 41 0 there 1;", 2, 5);
        fault("move 0 1 there 1;", 2, 7);
        fault("move 0 0 back 0;", 2, 14);
        fault("move 0 0 back 61;", 2, 14);
        fault("place 1 1 1 1;road 2 3 1 1 1;", 2, 21);
        fault("road 0 1 1 1 1;move 0 2 there 1;", 2, 22);
    }

    private static void tooMany() {
        QuickestOut x = new QuickestOut();
        for (int i = 0; i < 7; i++) {
            x.place(1, 1, 1, 1);
        }
        check.due("two places more", -1, Check.tell(x, "place 0 0 0 0; place 61 0 0 0;"));
        check.due("the ninth at its word", 3 + 8 * 15, x.fault());
        check.due("seven still", 7, x.count(0));
        check.due("one more", 1, Check.tell(x, "place 0 0 0 0;"));
        check.due("a ninth, and nothing behind it", -1, Check.tell(x, "place"));
        check.due("at its word", 3, x.fault());

        for (int i = 0; i < 12; i++) {
            x.road(0, 1, 1, 1, 1);
        }
        check.due("a thirteenth road", -1, Check.tell(x, " road 0 0 1 1 1;"));
        check.due("at its word", 3 + 8, x.fault());
        for (int i = 0; i < 39; i++) {
            x.move(0, 0, false, 1);
        }
        check.due("two moves more", -1, Check.tell(x, "move 0 0 there 1;move 0 0 there 1;"));
        check.due("the second at its word", 3 + 8 * 17, x.fault());
        check.due("39 still", 39, x.count(2));
        check.due("turns go on", 1, Check.tell(x, "turn 0 1;"));
        check.due("fault()", 0, x.fault());
    }

    private static void staysAsItWas() {
        QuickestOut x = new QuickestOut();
        check.due("tell", 4, Check.tell(x, "place 9 0 0 9;place 0 9 0 9;road 0 1 1 3 3;move 0 0 there 2;"));
        check.due("a fault behind good ones", -1, Check.tell(x,
            "turn 0 -2;place 1 1 1 1;road 2 0 1 9 9;turn 1 -9;turn 0 -1;move 1 1 back 5;x"));
        check.due("fault()", 1 + 8 * 75, x.fault());
        check.due("QUICKEST is as it was", 3, x.quickest());
        check.due("count(0)", 2, x.count(0));
        check.due("count(1)", 1, x.count(1));
        check.due("count(2)", 1, x.count(2));
        check.due("THERE", 3, Check.along(x, 0, 3));
        check.due("BACK", 3, Check.along(x, 0, 4));
        check.due("fault() stays", 1 + 8 * 75, x.fault());
        x.place(1, 1, 1, 1);
        check.due("fault() stays behind other calls", 1 + 8 * 75, x.fault());
        check.due("a road behind it", 1, x.road(2, 0, 1, 4, 5));
        check.due("its lanes", 4, Check.along(x, 1, 3));
        check.due("next tell", 0, x.tell());
        check.due("no fault", 0, x.fault());
    }
}
