/** The boundary cases of Term 4 and of promises 2 to 5: the tape, the texts and their faults. */
public final class EdgeTextTest {
    private static final Edge edge = new Edge();

    public static void main(String[] args) {
        feedAtMost();
        feedOrder();
        endRange();
        tellEmpties();
        faultOfLatest();
        nothingTold();
        statementsCounted();
        words();
        digits();
        minus();
        blanks();
        singleBytes();
        endOfText();
        placeInts();
        roadInts();
        turnInts();
        moveInts();
        tooManyPlaces();
        tooManyRoads();
        tooManyMoves();
        firstAlong();
        leastOfOnePlace();
        goesOn();
        staysAsItWas();
        edge.end("EdgeTextTest");
    }

    /** A text that is told: so many statements, no fault, the tape is empty. */
    private static QuickestOut good(Edge.Maker maker, String text, int statements) {
        QuickestOut x = maker.make();
        edge.due("tell of '" + text + "'", statements, Check.tell(x, text));
        edge.due("fault of '" + text + "'", 0, x.fault());
        edge.due("the tape behind '" + text + "'", 0, x.count(3));
        return x;
    }

    /** A text that is refused: its fault, the tape is empty, all else is as it was. */
    private static void fault(Edge.Maker maker, String text, int kind, int at) {
        QuickestOut x = maker.make();
        edge.due("tell of '" + text + "'", -1, Check.tell(x, text));
        edge.due("fault of '" + text + "'", kind + 8 * at, x.fault());
        edge.due("the tape behind '" + text + "'", 0, x.count(3));
        edge.same("'" + text + "'", Edge.town(maker.make()), Edge.town(x));
    }

    private static void fault(String text, int kind, int at) {
        fault(Edge::few, text, kind, at);
    }

    private static QuickestOut good(String text, int statements) {
        return good(Edge::few, text, statements);
    }

    // ---- Promises 2 and 3: feed, end

    /** So many bytes on the tape, a good statement first and blanks behind it. */
    private static QuickestOut taped(int bytes) {
        QuickestOut x = Edge.few();
        Check.feed(x, "turn 0 1;" + " ".repeat(bytes - 9));
        return x;
    }

    private static void feedAtMost() {
        edge.says("Term 4: TEXTS, at most 400 bytes; Promise 2, NONE, and none come: more than 400");
        QuickestOut x = new QuickestOut();
        for (int times = 1; times <= 20; times++) {
            edge.due("feed " + times, 20 * times, x.feed(0, 0, 0, 0, 0));
        }
        edge.due("count(3)", 400, x.count(3));
        for (int bytes : new int[] {381, 390, 399, 400}) {
            // Were some of the bytes to come, or all, the text could not be told.
            edge.refused("feed behind " + bytes, () -> taped(bytes), -1, y -> y.feed(-1, -1, -1, -1, -1));
        }
        for (int bytes : new int[] {9, 379, 380}) {
            edge.due("feed behind " + bytes, bytes + 20, taped(bytes).feed(0x20202020, 0, 0, 0, 0));
        }
        edge.says("Promise 2: refused once, it goes when there is space again");
        edge.due("feed", -1, x.feed(0, 0, 0, 0, 0));
        edge.due("end(380)", true, x.end(380));
        edge.due("feed", 400, x.feed(0, 0, 0, 0, 0));
        edge.due("tell()", -1, x.tell());
        edge.due("feed behind tell()", 20, x.feed(0, 0, 0, 0, 0));
    }

    private static void feedOrder() {
        edge.says("Promise 2: of each number the highest first");
        QuickestOut x = Edge.few();
        edge.due("feed", 20, x.feed(0x7475726e, 0x20302031, 0x3b747572, 0x6e203120, 0x333b200a));
        edge.due("tell of 'turn 0 1;turn 1 3; '", 2, x.tell());
        edge.due("THERE of road 0", 4, Check.along(x, 0, 3));
        edge.due("THERE of road 1", 3, Check.along(x, 1, 3));
        // A byte of 128 and more fills all its bits; it must not reach into the others.
        x.feed(0x20202020, 0x202020ff, 0x20ff2020, 0xff202020, 0x20202020);
        edge.due("tell", -1, x.tell());
        edge.due("fault at the lowest byte of the second", 1 + 8 * 7, x.fault());
        x.feed(0xff202020, -1, -1, -1, -1);
        edge.due("tell", -1, x.tell());
        edge.due("fault at the highest byte of the first", 1, x.fault());
    }

    private static void endRange() {
        edge.says("Promise 3: false: it has not so many");
        for (int n : new int[] {21, 22, 40, 400, Edge.HIGHEST}) {
            edge.refused("end(" + n + ") of 20", Edge::some, 0, x -> Edge.bit(x.end(n)));
        }
        edge.refused("end(1) of none", Edge::none, 0, x -> Edge.bit(x.end(1)));
        edge.refused("end(401) of 400", () -> taped(400), 0, x -> Edge.bit(x.end(401)));
        edge.says("Promise 3: false: n is below 0");
        for (int n : new int[] {-1, -20, Edge.LOWEST}) {
            edge.refused("end(" + n + ")", Edge::some, 0, x -> Edge.bit(x.end(n)));
        }
        edge.says("Promise 3: the TAPE has its first n bytes alone: true");
        edge.due("end(0) of none", true, Edge.none().end(0));
        for (int n : new int[] {20, 19, 9, 1, 0}) {
            QuickestOut x = Edge.some();
            edge.due("end(" + n + ")", true, x.end(n));
            edge.due("count(3)", n, x.count(3));
            edge.due("end of one more", false, x.end(n + 1));
        }
        QuickestOut x = Edge.some();
        x.end(9);
        edge.due("tell of the first nine", 1, x.tell());
        edge.due("turned", 4, Check.along(x, 0, 3));
        edge.due("not turned", 0, Check.along(x, 1, 3));
        QuickestOut y = Edge.some();
        y.end(8);
        y.feed(0x3b202020, 0x20202020, 0x20202020, 0x20202020, 0x20202020);
        edge.due("what comes behind the cut", 28, y.count(3));
        edge.due("tell", 1, y.tell());
        edge.due("end(20) of what is told", false, y.end(20));
    }

    // ---- Promises 4 and 5: tell, fault

    private static void tellEmpties() {
        edge.says("Promise 4: the TAPE (empty then)");
        QuickestOut x = Edge.some();
        edge.due("tell()", 2, x.tell());
        edge.due("count(3)", 0, x.count(3));
        edge.due("tell() again", 0, x.tell());
        Check.feed(x, "turn 0 1");
        edge.due("tell() with a fault", -1, x.tell());
        edge.due("count(3)", 0, x.count(3));
        edge.due("tell() again", 0, x.tell());
        edge.due("the next text starts anew", 1, Check.tell(x, "turn 1 1;"));
    }

    private static void faultOfLatest() {
        edge.says("Promise 5: FAULT of the latest tell(); 0 without, ahead of any");
        QuickestOut x = Edge.few();
        edge.due("ahead of any", 0, x.fault());
        Check.feed(x, " x");
        edge.due("with a text that is not told yet", 0, x.fault());
        x.tell();
        edge.due("of it", 9, x.fault());
        x.place(1, 1, 1, 1);
        x.place(61, 1, 1, 1);
        x.feed(0, 0, 0, 0, 0);
        x.end(0);
        edge.due("behind other calls", 9, x.fault());
        Check.tell(x, "turn 0 2;");
        edge.due("of the latest", 2 + 8 * 7, x.fault());
        Check.tell(x, "turn 0 1;");
        edge.due("without", 0, x.fault());
        Check.tell(x, "x");
        edge.due("one again", 1, x.fault());
        x.tell();
        edge.due("of an empty text", 0, x.fault());
    }

    private static void nothingTold() {
        edge.says("Term 4: { STATEMENT ; }: none at all");
        good("", 0);
        good(" ", 0);
        good("\n", 0);
        good(" ".repeat(400), 0);
        good("\n".repeat(400), 0);
        good(Edge::none, "", 0);
    }

    private static void statementsCounted() {
        edge.says("Promise 4: how many STATEMENTS");
        good("turn 0 1;", 1);
        good("turn 0 1;turn 0 -1;", 2);
        good("place 0 0 0 0;road 0 3 1 1 1;turn 2 1;move 0 2 there 1;move 0 2 back 1;", 5);
        StringBuilder most = new StringBuilder();
        for (int i = 0; i < 25; i++) {
            most.append("turn0 1;turn0-1;");
        }
        edge.due("bytes of it", 400, most.length());
        good(most.toString(), 50);
    }

    // ---- tokens

    private static void words() {
        edge.says("Term 4: words (letters a to z, as many as stand there)");
        good("place1 1 1 1;", 1);
        good("move 0 0there1;", 1);
        good("move 0 0back1;", 1);
        fault("placea 1 1 1 1;", 1, 0);
        fault("placez 1 1 1 1;", 1, 0);
        fault("plac 1 1 1 1;", 1, 0);
        fault("pla ce 1 1 1 1;", 1, 0);
        fault("placeplace 1 1 1 1;", 1, 0);
        fault("PLACE 1 1 1 1;", 1, 0);
        fault("placE 1 1 1 1;", 1, 0);
        fault("place@1 1 1 1;", 1, 5);
        fault("place`1 1 1 1;", 1, 5);
        fault("place{1 1 1 1;", 1, 5);
        fault("placeA1 1 1 1;", 1, 5);
        fault("roads 0 1 1 1 1;", 1, 0);
        fault("turns 0 1;", 1, 0);
        fault("moves 0 0 there 1;", 1, 0);
        fault("move 0 0 theres 1;", 1, 9);
        fault("move 0 0 ther 1;", 1, 9);
        fault("move 0 0 backs 1;", 1, 9);
        fault("move 0 0 bac 1;", 1, 9);
        fault("move 0 0 thereback 1;", 1, 9);
        fault("there 0 0;", 1, 0);
        String[] near = {"qlace 1 1 1 1;", "soad 0 1 1 1 1;", "uurn 0 1;", "nove 0 0 there 1;", "plaxe 1 1 1 1;", "placf 1 1 1 1;"};
        for (String text : near) {
            fault(text, 1, 0);
        }
        fault("move 0 0 uhere 1;", 1, 9);
        fault("move 0 0 cack 1;", 1, 9);
        fault("a", 1, 0);
        fault("z", 1, 0);
    }

    private static void digits() {
        edge.says("Term 4: INTS ([ - ] digits, 1 to 3, as many as stand there)");
        good("place 5 05 005 000;", 1);
        good("turn 00 001;turn 000 -01;turn 0 -001;", 3);
        edge.says("Term 4: four digits and more: 1");
        fault("place 0000 1 1 1;", 1, 6);
        fault("place 0001 1 1 1;", 1, 6);
        fault("place 1000 1 1 1;", 1, 6);
        fault("place 1 1 1 0300;", 1, 12);
        fault("place 1 1 1 00000;", 1, 12);
        // These would wrap around to 1 and to 0.
        fault("place 4294967297 1 1 1;", 1, 6);
        fault("place 18446744073709551616 1 1 1;", 1, 6);
        fault("place " + "0".repeat(380) + " 1 1 1;", 1, 6);
        fault("turn 0 -0001;", 1, 7);
        fault("turn 0000 1;", 1, 5);
        fault("0000", 1, 0);
        edge.says("Term 4: digits are 0 to 9");
        fault("place / 1 1 1;", 1, 6);
        fault("place : 1 1 1;", 1, 6);
        fault("place 1/ 1 1 1;", 1, 7);
        fault("place 1: 1 1 1;", 1, 7);
        edge.due("the digits 9 and 0", 90, good("place 1 90 1 1;", 1).of(3, 1));
    }

    private static void minus() {
        edge.says("Term 4: a - without a digit right behind it: 1");
        fault("turn 0 -;", 1, 7);
        fault("turn 0 - 1;", 1, 7);
        fault("turn 0 -\n1;", 1, 7);
        fault("turn 0 --1;", 1, 7);
        fault("turn 0 -a;", 1, 7);
        fault("turn 0 -", 1, 7);
        fault("turn 0-", 1, 6);
        fault("-", 1, 0);
        fault("-turn 0 1;", 1, 0);
        fault("turn -", 1, 5);
        fault("turn 0 -/;", 1, 7);
        fault("turn 0 -:;", 1, 7);
        fault("turn 0 +1;", 1, 7);
        fault("turn 0 1-;", 1, 8);
        QuickestOut x = Edge.few();
        Check.feed(x, "turn 0 -1;");
        x.end(8);
        edge.due("tell, the digit cut off", -1, x.tell());
        edge.due("fault", 1 + 8 * 7, x.fault());
        edge.says("Term 4: with one right behind it, it is an INT");
        good("turn 0 -1;", 1);
        good("turn 0-1;", 1);
        good("turn -0 -1;", 1);
        good("place -0 -00 -000 0;", 1);
        edge.due("THERE", 2, Check.along(good("turn 0-1;", 1), 0, 3));
    }

    private static void blanks() {
        edge.says("Term 4: blanks (32, 10) between them as one likes");
        good("  turn \n 0\n\n1 ; \n", 1);
        good("\nturn\n0\n1\n;\n", 1);
        good("turn0 1;turn0-1;", 2);
        good(" ".repeat(391) + "turn 0 1;", 1);
        good("turn 0 1;" + "\n".repeat(391), 1);
        good("turn" + " ".repeat(391) + "0 1;", 1);
        edge.says("Term 4: other bytes are no blanks");
        for (int sign : new int[] {0, 9, 11, 12, 13, 31, 33, 127, 128, 138, 160, 255}) {
            char c = (char) sign;
            fault("turn" + c + "0 1;", 1, 4);
            fault("turn 0" + c + "1;", 1, 6);
            fault(c + "turn 0 1;", 1, 0);
            fault("turn 0 1;" + c, 1, 9);
        }
        edge.says("Term 4: a blank ends a word and an INT");
        fault("tu rn 0 1;", 1, 0);
        fault("place 1 1 1 1 0;", 1, 14);
        fault("place 6 0 1 1 1;", 1, 14);
    }

    private static void singleBytes() {
        edge.says("Term 4: ; behind each STATEMENT, and nowhere else");
        fault(";", 1, 0);
        fault(";;", 1, 0);
        fault("turn 0 1;;", 1, 9);
        fault("turn 0 1,", 1, 8);
        fault("turn 0 1:", 1, 8);
        fault("turn 0 1<", 1, 8);
        fault("turn 0 1 turn 0 -1;", 1, 9);
        fault("turn 0 1", 1, 8);
        fault("turn 0 1;turn 0 -1", 1, 18);
        fault("turn ;", 1, 5);
        fault("turn 0;", 1, 6);
        fault("turn 0 1 1;", 1, 9);
        fault("turn;0 1;", 1, 4);
        fault("turn 0;1;", 1, 6);
        fault("place 1 1 1;", 1, 11);
        fault("place 1 1 1 1 1;", 1, 14);
        fault("road 0 1 1 1;", 1, 12);
        fault("road 0 1 1 1 1 1;", 1, 15);
        fault("move 0 0 there;", 1, 14);
        fault("move 0 0 there 1 1;", 1, 17);
        fault("move 0 there 1;", 1, 7);
        fault("move 0 0 0 there 1;", 1, 9);
        fault("move 0 0 ;", 1, 9);
        fault("move there 0 0 1;", 1, 5);
        fault("move 0 0 turn 1;", 1, 9);
        fault("move 0 0 there back 1;", 1, 15);
    }

    private static void endOfText() {
        edge.says("Term 4: the place of the end: the text's length");
        String[] cut = {"move", "move ", "move 1", "move 1 ", "move 1 0", "move 1 0 ", "move 1 0 there", "move 1 0 there ",
            "move 1 0 back 5", "move 1 0 there 5 \n", "place 1 2 3 4", "place", "road 0 1 1 1 1", "road 0 1", "turn 0", "turn 0 1  "};
        for (String text : cut) {
            fault(text, 1, text.length());
        }
        String first = "turn 0 1;" + " ".repeat(382);
        fault(first + "turn 0 -1", 1, 400);
        fault(first + "turn 0 1 ", 2, 398);
        fault(first + "turn 0 -2", 1, 400);
        fault(first + "     turn", 1, 400);
        fault(first + "     tur-", 1, 396);
        fault(first + " turn 0 -", 1, 399);
        fault(first + "turn 0 - ", 1, 398);
        fault(first + "        x", 1, 399);
        fault(first + " turn 000", 1, 400);
        fault(first + "turn 0000", 1, 396);
        good("turn 0 1;" + " ".repeat(381) + "turn 0 -1;", 2);
    }

    // ---- FAULT 2: an INT that can't be; the text has a % where the INT stands

    private static void ints(String text, int least, int most) {
        int at = text.indexOf('%');
        good(text.replace("%", "" + least), 1);
        good(text.replace("%", "" + most), 1);
        for (int v : new int[] {least - 1, most + 1, 999, -999}) {
            fault(text.replace("%", "" + v), 2, at);
            // What stands behind it counts no more.
            fault(text.substring(0, at) + v, 2, at);
            fault(text.substring(0, at) + v + " ! x", 2, at);
        }
    }

    private static void placeInts() {
        edge.says("Term 4: place INT INT INT INT (PEOPLE 0 to 60)");
        ints("place % 1 1 1;", 0, 60);
        edge.says("Term 4: place INT INT INT INT (ROOM 0 to 300)");
        ints("place 1 % 1 1;", 0, 300);
        edge.says("Term 4: place INT INT INT INT (BEGINS 0 to 20)");
        ints("place 1 1 % 1;", 0, 20);
        edge.says("Term 4: place INT INT INT INT (HOLD 0 to 300)");
        ints("place 1 1 1 %;", 0, 300);
        QuickestOut x = good("place 60 300 20 300;", 1);
        int[] told = {60, 300, 20, 300};
        for (int what = 0; what < 4; what++) {
            edge.due("of(3, " + what + ")", told[what], x.of(3, what));
        }
    }

    private static void roadInts() {
        edge.says("Term 4: road INT INT INT INT INT (A)");
        ints("road % 1 1 1 1;", 0, 2);
        edge.says("Term 4: road INT INT INT INT INT (B)");
        ints("road 1 % 1 1 1;", 0, 2);
        edge.says("Term 4: FAULT 2, B that is A");
        fault("road 0 0 1 1 1;", 2, 7);
        fault("road 1 1 1 1 1;", 2, 7);
        fault("road 2 2 x", 2, 7);
        fault("road 3 3 1 1 1;", 2, 5);
        edge.says("Term 4: road INT INT INT INT INT (MINUTES 1 to 9)");
        ints("road 0 1 % 1 1;", 1, 9);
        edge.says("Term 4: road INT INT INT INT INT (THERE 0 to 9)");
        ints("road 0 1 1 % 1;", 0, 9);
        edge.says("Term 4: road INT INT INT INT INT (BACK 0 to 9)");
        ints("road 0 1 1 1 %;", 0, 9);
        edge.says("Term 4: FAULT 2, BACK 0 behind THERE 0");
        ints("road 0 1 1 0 %;", 1, 9);
        fault("road 0 1 1 0 -0;", 2, 13);
        QuickestOut x = good("road 2 1 7 9 8;", 1);
        int[] told = {2, 1, 7, 9, 8};
        for (int what = 0; what < 5; what++) {
            edge.due("along(2, " + what + ")", told[what], Check.along(x, 2, what));
        }
        edge.says("Term 4: a road without places, an A that is not there");
        fault(Edge::none, "road 0 1 1 1 1;", 2, 5);
        fault(Edge::none, "place 1 1 1 1;road 0 1 1 1 1;", 2, 21);
        good(Edge::none, "place 1 1 1 1;place 1 1 1 1;road 0 1 1 1 1;", 3);
    }

    private static void turnInts() {
        edge.says("Term 4: turn INT INT (ROAD)");
        ints("turn % 1;", 0, 1);
        fault(Edge::none, "turn 0 1;", 2, 5);
        edge.says("Term 4: FAULT 2, a k by which LANES would be below 0");
        ints("turn 0 %;", -3, 1);
        ints("turn 1 %;", 1, 9);
        edge.says("Term 4: FAULT 2, k 0");
        fault("turn 0 0;", 2, 7);
        fault("turn 0 -0;", 2, 7);
        fault("turn 1 000;", 2, 7);
        edge.says("Term 4: LANES as they are by then");
        good("turn 0 1;turn 0 -4;turn 0 4;", 3);
        fault("turn 0 1;turn 0 1;", 2, 16);
        fault("turn 0 -3;turn 0 -1;", 2, 17);
        edge.says("Term 2: they may be above 9, by a text too");
        QuickestOut x = good("road 0 1 1 9 9;turn 2 9;", 2);
        edge.due("THERE", 18, Check.along(x, 2, 3));
        edge.due("BACK", 0, Check.along(x, 2, 4));
        good("road 0 1 1 9 9;turn 2 9;turn 2 -18;", 3);
        fault("road 0 1 1 9 9;turn 2 9;turn 2 -19;", 2, 31);
    }

    private static void moveInts() {
        edge.says("Term 4: move INT INT there INT (MINUTE 0 to 40)");
        ints("move % 0 there 1;", 0, 40);
        ints("move % 0 back 1;", 0, 40);
        edge.says("Term 4: move INT INT there INT (ROAD)");
        ints("move 0 % there 1;", 0, 1);
        ints("move 0 % back 1;", 0, 1);
        fault(Edge::none, "move 0 0 there 1;", 2, 7);
        edge.says("Term 4: move INT INT there INT (how many 1 to 60)");
        ints("move 0 0 there %;", 1, 60);
        ints("move 0 0 back %;", 1, 60);
        QuickestOut x = good("move 40 1 back 60;move 39 0 there 59;", 2);
        int[][] told = {{40, 1, 1, 60}, {39, 0, 0, 59}};
        for (int what = 0; what < 4; what++) {
            edge.due("moved(3, " + what + ")", told[0][what], x.moved(3, what));
            edge.due("moved(4, " + what + ")", told[1][what], x.moved(4, what));
        }
    }

    // ---- FAULT 3: one too many (at its word)

    private static void tooManyPlaces() {
        edge.says("Term 4: FAULT 3, one too many (at its word): a place");
        fault(EdgeTextTest::fullWithoutTape, "place 1 1 1 1;", 3, 0);
        fault(EdgeTextTest::fullWithoutTape, " \nplace 61 1 1 1;", 3, 2);
        fault(EdgeTextTest::fullWithoutTape, "place", 3, 0);
        fault(EdgeTextTest::fullWithoutTape, "turn 0 -1;place", 3, 10);
        // Three are there, so a text can bring five.
        String one = "place 1 1 1 1;";
        edge.due("count(0)", 8, good(one.repeat(5), 5).count(0));
        fault(one.repeat(6), 3, 70);
        good(Edge::none, one.repeat(8), 8);
        fault(Edge::none, one.repeat(9), 3, 112);
        fault(Edge::none, one.repeat(8) + "place x", 3, 112);
        fault(Edge::none, one.repeat(8) + "places", 1, 112);
    }

    private static void tooManyRoads() {
        edge.says("Term 4: FAULT 3, one too many (at its word): a road");
        fault(EdgeTextTest::fullWithoutTape, "road 0 1 1 1 1;", 3, 0);
        fault(EdgeTextTest::fullWithoutTape, " road 0 0 1 1 1;", 3, 1);
        fault(EdgeTextTest::fullWithoutTape, "road;", 3, 0);
        // Two are there, so a text can bring ten.
        String one = "road 0 1 1 1 1;";
        edge.due("count(1)", 12, good(one.repeat(10), 10).count(1));
        fault(one.repeat(11), 3, 150);
        fault(one.repeat(10) + "road 9", 3, 150);
        fault(one.repeat(10) + "roa", 1, 150);
        good(one.repeat(10) + "turn 11 1;", 11);
    }

    private static void tooManyMoves() {
        edge.says("Term 4: FAULT 3, one too many (at its word): a move");
        fault(EdgeTextTest::fullWithoutTape, "move 0 0 there 1;", 3, 0);
        fault(EdgeTextTest::fullWithoutTape, " move 41 0 there 1;", 3, 1);
        fault(EdgeTextTest::fullWithoutTape, "move", 3, 0);
        Edge.Maker thirtyEight = () -> {
            QuickestOut x = fullWithoutTape();
            x.back(2);
            return x;
        };
        edge.due("count(2)", 40, good(thirtyEight, "move0 0back1;move0 0there1;", 2).count(2));
        fault(thirtyEight, "move0 0back1;move0 0there1;move0 0there1;", 3, 27);
        fault(thirtyEight, "move0 0back1;move0 0there1;move", 3, 27);
        edge.says("Term 4: of turns there are never too many");
        good(EdgeTextTest::fullWithoutTape, "turn 0 -1;turn 0 1;", 2);
    }

    private static QuickestOut fullWithoutTape() {
        QuickestOut x = Edge.full();
        x.end(0);
        return x;
    }

    // ---- which of several, and what stays

    private static void firstAlong() {
        edge.says("Term 4: FAULTS: the first along the text");
        fault("place 61 301 21 301;", 2, 6);
        fault("place 1 301 21 301", 2, 8);
        fault("place 1 1 21 x", 2, 10);
        fault("place 1 x 21 1;", 1, 8);
        fault("x place 61 1 1 1;", 1, 0);
        fault("turn 0 1;turn 5 5;x", 2, 14);
        fault("turn 0 1;x;turn 5 5;", 1, 9);
        fault("place 1 1 1 1;".repeat(5) + "place 61 x", 3, 70);
        fault("place 1 1 1 1;".repeat(4) + "place 61 1 1 1;place 1 1 1 1;", 2, 62);
    }

    private static void leastOfOnePlace() {
        edge.says("Term 4: FAULTS: of one place the least");
        // Four digits can't stand there, and such a number can't be: 1 goes ahead of 2.
        fault("place 9999 1 1 1;", 1, 6);
        fault("turn 0 -9999;", 1, 7);
        fault("move 9999 0 there 1;", 1, 5);
        fault("road 0 0000 1 1 1;", 1, 7);
        fault("road 0 1 1 0 0000;", 1, 13);
        fault("turn 0 0000;", 1, 7);
    }

    private static void goesOn() {
        edge.says("Term 4: a TEXT goes on from what there is");
        QuickestOut x = good("place 1 0 0 1;road 3 0 1 1 0;move 0 2 there 1;", 3);
        edge.due("the fourth place", 1, x.of(3, 0));
        edge.due("the third road starts there", 3, Check.along(x, 2, 0));
        edge.due("the fourth move is on it", 2, x.moved(3, 1));
        edge.due("the next text goes on from it", 1, Check.tell(x, "move 1 2 back 2;"));
        edge.due("the next call too", 5, x.move(1, 2, true, 2));
        edge.due("the first place is as it was", 5, x.of(0, 0));
        fault("road 3 0 1 1 0;place 1 0 0 1;", 2, 5);
        fault("move 0 2 there 1;road 0 1 1 1 0;", 2, 7);
        x.drop();
        edge.due("behind drop() the road is gone for texts too", -1, Check.tell(x, "turn 2 -1;"));
        edge.due("fault", 2 + 8 * 5, x.fault());
    }

    private static void staysAsItWas() {
        edge.says("Promise 4: NONE: a FAULT (all else stays as it was)");
        String all = "turn 0 1;turn 1 9;place 1 2 3 4;road 3 0 1 2 3;turn 2 -2;move 0 0 back 1;move 5 2 back 1;";
        good(all, 7);
        fault(all + "x", 1, all.length());
        fault(all + "turn 2 -1;", 2, all.length() + 7);
        fault(all + "place", 1, all.length() + 5);
        fault("turn 0 -3;turn 0 4;turn 0 -2;turn 0 -9;", 2, 36);
        QuickestOut x = Edge.few();
        Check.tell(x, all + "x");
        edge.due("the next place", 3, x.place(0, 0, 0, 0));
        edge.due("the next road", 2, x.road(0, 3, 1, 1, 1));
        edge.due("the next move", 3, x.move(0, 2, false, 1));
        edge.due("turn as far as it goes", true, x.turn(0, -3));
        Check.tell(x, "turn 0 1;turn 0 1;turn 0 9;");
        edge.due("THERE stays", 0, Check.along(x, 0, 3));
        edge.due("BACK stays", 4, Check.along(x, 0, 4));
    }
}
