/** Promises 1 and 6 to 15: what is told by calls. */
public final class ToldTest {
    private static final Check check = new Check();
    private static final int THROWS = Integer.MIN_VALUE;
    private static final int LOWEST = Integer.MIN_VALUE;
    private static final int HIGHEST = Integer.MAX_VALUE;

    public static void main(String[] args) {
        newObject();
        places();
        roads();
        turn();
        set();
        drop();
        moves();
        back();
        count();
        check.end("ToldTest");
    }

    private static void newObject() {
        QuickestOut x = new QuickestOut();
        for (int what = 0; what < 6; what++) {
            check.due("new count(" + what + ")", 0, x.count(what));
        }
        check.due("new fault()", 0, x.fault());
        check.due("new of(0, 0)", -1, x.of(0, 0));
        check.due("new along(0, 0)", THROWS, Check.along(x, 0, 0));
        check.due("new wrong()", 0, x.wrong());
        check.due("NONE", -1, QuickestOut.NONE);
    }

    private static void places() {
        QuickestOut x = new QuickestOut();
        int[][] bad = {{-1, 0, 0, 0}, {61, 0, 0, 0}, {0, -1, 0, 0}, {0, 301, 0, 0}, {0, 0, -1, 0}, {0, 0, 21, 0},
            {0, 0, 0, -1}, {0, 0, 0, 301}, {LOWEST, 0, 0, 0}, {0, HIGHEST, 0, 0}};
        for (int[] b : bad) {
            check.due("place that can't be", -1, x.place(b[0], b[1], b[2], b[3]));
        }
        check.due("count(0) behind them", 0, x.count(0));
        check.due("least place", 0, x.place(0, 0, 0, 0));
        check.due("greatest place", 1, x.place(60, 300, 20, 300));
        check.due("another place", 2, x.place(7, 8, 9, 10));
        int[] told = {7, 8, 9, 10};
        for (int what = 0; what < 4; what++) {
            check.due("of(2, " + what + ")", told[what], x.of(2, what));
        }
        check.due("of(1, 3)", 300, x.of(1, 3));
        for (int[] b : new int[][] {{2, 4}, {2, -1}, {3, 0}, {-1, 0}, {LOWEST, HIGHEST}, {HIGHEST, 0}}) {
            check.due("of() none such", -1, x.of(b[0], b[1]));
        }
        for (int number = 3; number < 8; number++) {
            check.due("place " + number, number, x.place(1, 1, 1, 1));
        }
        check.due("a ninth", -2, x.place(1, 1, 1, 1));
        check.due("a ninth that can't be", -1, x.place(61, 1, 1, 1));
        check.due("count(0)", 8, x.count(0));
    }

    private static void roads() {
        QuickestOut x = new QuickestOut();
        check.due("road without places", -1, x.road(0, 1, 1, 1, 1));
        x.place(0, 0, 0, 0);
        x.place(0, 0, 0, 0);
        int[][] bad = {{0, 0, 1, 1, 1}, {0, 2, 1, 1, 1}, {2, 0, 1, 1, 1}, {-1, 0, 1, 1, 1}, {0, -1, 1, 1, 1},
            {0, 1, 0, 1, 1}, {0, 1, 10, 1, 1}, {0, 1, 1, -1, 1}, {0, 1, 1, 10, 1}, {0, 1, 1, 1, -1}, {0, 1, 1, 1, 10},
            {0, 1, 1, 0, 0}, {LOWEST, 1, 1, 1, 1}, {0, 1, HIGHEST, 1, 1}, {0, 1, 1, HIGHEST, HIGHEST}};
        for (int[] b : bad) {
            check.due("road that can't be", -1, x.road(b[0], b[1], b[2], b[3], b[4]));
        }
        check.due("least road", 0, x.road(0, 1, 1, 0, 1));
        check.due("greatest road", 1, x.road(1, 0, 9, 9, 9));
        int[] told = {1, 0, 9, 9, 9};
        int[] first = {0, 1, 1, 0, 1};
        for (int what = 0; what < 5; what++) {
            check.due("along(1, " + what + ")", told[what], Check.along(x, 1, what));
            check.due("along(0, " + what + ")", first[what], Check.along(x, 0, what));
        }
        for (int[] b : new int[][] {{0, 5}, {0, -1}, {2, 0}, {-1, 0}, {LOWEST, 0}, {HIGHEST, 2}, {0, HIGHEST}}) {
            check.due("along() none such", THROWS, Check.along(x, b[0], b[1]));
        }
        for (int number = 2; number < 12; number++) {
            check.due("road " + number, number, x.road(0, 1, 1, 1, 0));
        }
        check.due("a thirteenth", -2, x.road(0, 1, 1, 1, 0));
        check.due("a thirteenth that can't be", -1, x.road(0, 0, 1, 1, 0));
        check.due("count(1)", 12, x.count(1));
    }

    private static void turn() {
        QuickestOut x = new QuickestOut();
        x.place(0, 0, 0, 0);
        x.place(0, 0, 0, 0);
        x.road(0, 1, 1, 9, 8);
        int[][] bad = {{0, 0}, {0, 9}, {0, -10}, {1, 1}, {-1, 1}, {0, LOWEST}, {0, HIGHEST}, {LOWEST, 1}, {HIGHEST, 1}};
        for (int[] b : bad) {
            check.due("turn(" + b[0] + ", " + b[1] + ")", false, x.turn(b[0], b[1]));
        }
        check.due("turn(0, 8)", true, x.turn(0, 8));
        check.due("THERE above 9", 17, Check.along(x, 0, 3));
        check.due("BACK", 0, Check.along(x, 0, 4));
        check.due("turn(0, 1) with none BACK", false, x.turn(0, 1));
        check.due("turn(0, -17)", true, x.turn(0, -17));
        check.due("THERE", 0, Check.along(x, 0, 3));
        check.due("BACK above 9", 17, Check.along(x, 0, 4));
    }

    private static void set() {
        QuickestOut x = new QuickestOut();
        x.place(1, 2, 3, 4);
        int[] most = {60, 300, 20, 300};
        for (int what = 0; what < 4; what++) {
            check.due("set to what it is", false, x.set(0, what, what + 1));
            check.due("set above", false, x.set(0, what, most[what] + 1));
            check.due("set below", false, x.set(0, what, -1));
            check.due("it stays", what + 1, x.of(0, what));
            check.due("set to the most", true, x.set(0, what, most[what]));
            check.due("it is so", most[what], x.of(0, what));
            check.due("set to 0", true, x.set(0, what, 0));
            check.due("it is 0", 0, x.of(0, what));
        }
        check.due("set another what", false, x.set(0, 4, 1));
        check.due("set what below 0", false, x.set(0, -1, 1));
        check.due("set no such place", false, x.set(1, 0, 1));
        check.due("set place below 0", false, x.set(-1, 0, 1));
        check.due("set far off", false, x.set(HIGHEST, LOWEST, HIGHEST));
    }

    private static void drop() {
        QuickestOut x = new QuickestOut();
        check.due("drop() without roads", -1, x.drop());
        x.place(0, 0, 0, 0);
        x.place(0, 0, 0, 0);
        x.road(0, 1, 1, 1, 0);
        x.road(1, 0, 2, 2, 0);
        x.move(1, 0, false, 11);
        x.move(2, 1, false, 12);
        x.move(3, 0, true, 13);
        x.move(4, 1, true, 14);
        check.due("drop()", 1, x.drop());
        check.due("its moves go", 2, x.count(2));
        check.due("the first stays", 11, x.moved(0, 3));
        check.due("the third is the second now", 13, x.moved(1, 3));
        check.due("all of it", 3, x.moved(1, 0));
        check.due("its way", 1, x.moved(1, 2));
        check.due("the road is gone", THROWS, Check.along(x, 1, 0));
        check.due("drop() again", 0, x.drop());
        check.due("no moves", 0, x.count(2));
        check.due("drop() once more", -1, x.drop());
        check.due("a road again", 0, x.road(1, 0, 3, 3, 0));
    }

    private static void moves() {
        QuickestOut x = new QuickestOut();
        check.due("move without roads", -1, x.move(0, 0, false, 1));
        x.place(0, 0, 0, 0);
        x.place(0, 0, 0, 0);
        x.road(0, 1, 1, 1, 0);
        int[][] bad = {{-1, 0, 1}, {41, 0, 1}, {0, 1, 1}, {0, -1, 1}, {0, 0, 0}, {0, 0, 61}, {LOWEST, 0, 1}, {0, HIGHEST, 1},
            {0, 0, LOWEST}};
        for (int[] b : bad) {
            check.due("move that can't be", -1, x.move(b[0], b[1], false, b[2]));
        }
        check.due("least move", 0, x.move(0, 0, false, 1));
        check.due("greatest move, against lanes", 1, x.move(40, 0, true, 60));
        int[] told = {40, 0, 1, 60};
        for (int what = 0; what < 4; what++) {
            check.due("moved(1, " + what + ")", told[what], x.moved(1, what));
        }
        check.due("moved(0, 2)", 0, x.moved(0, 2));
        for (int[] b : new int[][] {{0, 4}, {0, -1}, {2, 0}, {-1, 0}, {LOWEST, 0}, {HIGHEST, HIGHEST}}) {
            check.due("moved() none such", -1, x.moved(b[0], b[1]));
        }
        for (int number = 2; number < 40; number++) {
            check.due("move " + number, number, x.move(1, 0, false, 1));
        }
        check.due("a forty-first", -2, x.move(1, 0, false, 1));
        check.due("a forty-first that can't be", -1, x.move(41, 0, false, 1));
        check.due("count(2)", 40, x.count(2));
    }

    private static void back() {
        QuickestOut x = new QuickestOut();
        check.due("back(1) without moves", 0, x.back(1));
        x.place(0, 0, 0, 0);
        x.place(0, 0, 0, 0);
        x.road(0, 1, 1, 1, 0);
        for (int i = 0; i < 10; i++) {
            x.move(i, 0, false, 1);
        }
        check.due("back(0)", -1, x.back(0));
        check.due("back(lowest)", -1, x.back(LOWEST));
        check.due("back(3)", 7, x.back(3));
        check.due("the last of those left", 6, x.moved(6, 0));
        check.due("none behind it", -1, x.moved(7, 0));
        check.due("back(7)", 0, x.back(7));
        x.move(5, 0, false, 1);
        check.due("back(highest)", 0, x.back(HIGHEST));
    }

    private static void count() {
        QuickestOut x = new QuickestOut();
        x.place(60, 300, 0, 0);
        x.place(11, 5, 0, 0);
        x.road(0, 1, 1, 1, 1);
        x.move(0, 0, false, 1);
        x.feed(1, 2, 3, 4, 5);
        int[] told = {2, 1, 1, 20, 71, 305};
        for (int what = 0; what < 6; what++) {
            check.due("count(" + what + ")", told[what], x.count(what));
        }
        check.due("count(6)", -1, x.count(6));
        check.due("count(-1)", -1, x.count(-1));
        check.due("count(highest)", -1, x.count(HIGHEST));
        x.set(0, 0, 1);
        check.due("count(4) behind set", 12, x.count(4));
    }
}
