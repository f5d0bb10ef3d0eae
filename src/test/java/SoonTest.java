/** Promises 16 to 19: as soon as can be. */
public final class SoonTest {
    private static final Check check = new Check();
    private static final int LOWEST = Integer.MIN_VALUE;
    private static final int HIGHEST = Integer.MAX_VALUE;

    public static void main(String[] args) {
        nobody();
        atHome();
        waiting();
        lanesEachWay();
        sheltersFill();
        edges();
        open();
        check.end("SoonTest");
    }

    private static void nobody() {
        QuickestOut x = new QuickestOut();
        x.place(0, 0, 20, 0);
        check.due("quickest() of nobody", 0, x.quickest());
        check.due("safe(40) of nobody", 0, x.safe(40));
    }

    private static void atHome() {
        QuickestOut x = new QuickestOut();
        x.place(60, 60, 20, 0);
        check.due("safe(19) ahead of BEGINS", 0, x.safe(19));
        check.due("safe(20): all at once, HOLD counts not at home", 60, x.safe(20));
        check.due("quickest()", 20, x.quickest());
        x.set(0, 1, 59);
        check.due("quickest() with too little ROOM", -1, x.quickest());
        check.due("safe(40)", 59, x.safe(40));
    }

    /** 0 to 1 wide, 1 to 2 narrow: who has come to 1 waits, as many as HOLD. */
    private static void waiting() {
        QuickestOut x = new QuickestOut();
        x.place(9, 0, 0, 0);
        x.place(0, 0, 0, 0);
        x.place(0, 9, 0, 0);
        x.road(0, 1, 1, 9, 0);
        x.road(1, 2, 1, 1, 0);
        check.due("at home they wait as long as they like", 10, x.quickest());
        check.due("safe(1)", 0, x.safe(1));
        check.due("safe(2)", 1, x.safe(2));
        check.due("safe(5)", 4, x.safe(5));

        // Two crowds meet at 1.
        QuickestOut y = new QuickestOut();
        y.place(2, 0, 0, 0);
        y.place(0, 0, 0, 0);
        y.place(0, 9, 0, 0);
        y.place(2, 0, 0, 0);
        y.road(0, 1, 1, 1, 0);
        y.road(3, 1, 2, 1, 0);
        y.road(1, 2, 1, 1, 0);
        check.due("two crowds through one lane", 5, y.quickest());
        y.set(1, 3, 2);
        check.due("HOLD does not widen the lane", 5, y.quickest());
        y.set(0, 2, 3);
        y.set(3, 2, 2);
        check.due("they come from minute 4 on", 8, y.quickest());
        check.due("safe(7)", 3, y.safe(7));
    }

    private static void lanesEachWay() {
        QuickestOut x = new QuickestOut();
        x.place(3, 0, 0, 0);
        x.place(0, 9, 0, 0);
        x.road(1, 0, 4, 2, 1);
        check.due("BACK leads from B to A", 6, x.quickest());
        x.road(0, 1, 9, 9, 0);
        check.due("a wider one is no use, it takes longer", 6, x.quickest());
        x.turn(0, -1);
        check.due("with a lane turned", 5, x.quickest());
        x.turn(0, 2);
        check.due("with all lanes from the shelter", 9, x.quickest());
    }

    /** The near shelter fills; he who can reach no other one goes into it. */
    private static void sheltersFill() {
        QuickestOut x = new QuickestOut();
        x.place(1, 0, 0, 5);
        x.place(0, 1, 0, 5);
        x.place(0, 5, 0, 5);
        x.place(1, 0, 3, 5);
        x.road(0, 1, 1, 1, 0);
        x.road(0, 2, 6, 1, 0);
        x.road(3, 1, 1, 1, 0);
        check.due("safe(1)", 1, x.safe(1));
        check.due("safe(5)", 1, x.safe(5));
        check.due("safe(6): the first goes to the far one", 2, x.safe(6));
        check.due("quickest()", 6, x.quickest());
    }

    private static void edges() {
        QuickestOut x = new QuickestOut();
        x.place(1, 0, 20, 0);
        for (int i = 0; i < 3; i++) {
            x.place(0, 0, 0, 0);
        }
        x.set(3, 1, 1);
        x.road(0, 1, 9, 1, 0);
        x.road(1, 2, 9, 1, 0);
        x.road(2, 3, 2, 1, 0);
        check.due("the last T", 40, x.quickest());
        check.due("safe(39)", 0, x.safe(39));
        check.due("safe(40)", 1, x.safe(40));
        check.due("safe(41)", -1, x.safe(41));
        check.due("safe(-1)", -1, x.safe(-1));
        check.due("safe(lowest)", -1, x.safe(LOWEST));
        check.due("safe(highest)", -1, x.safe(HIGHEST));
        x.drop();
        x.road(2, 3, 3, 1, 0);
        check.due("a minute too late", -1, x.quickest());
        check.due("safe(40)", 0, x.safe(40));
    }

    private static void open() {
        QuickestOut x = new QuickestOut();
        x.place(4, 0, 0, 1);
        x.place(0, 5, 0, 0);
        x.place(0, 0, 0, 0);
        x.road(0, 1, 2, 2, 0);
        check.due("quickest()", 3, x.quickest());
        check.due("open(4, 0, 0)", true, x.open(4, 0, 0));
        check.due("open(4, 0, 2)", true, x.open(4, 0, 2));
        check.due("open(4, 0, 3): too late", false, x.open(4, 0, 3));
        check.due("open(3, 0, 0): full", false, x.open(3, 0, 0));
        check.due("open(4, 1, 4): the shelter itself", true, x.open(4, 1, 4));
        check.due("open(4, 2, 0): no way out", false, x.open(4, 2, 0));
        check.due("openings(4, 0)", 3, x.openings(4, 0));
        check.due("openings(3, 0)", 0, x.openings(3, 0));
        check.due("openings(3, 1)", 4, x.openings(3, 1));
        check.due("openings(4, 2)", 0, x.openings(4, 2));
        check.due("openings(0, 1)", 1, x.openings(0, 1));
        x.set(1, 1, 4);
        check.due("open(4, 0, 0): the shelter is full", false, x.open(4, 0, 0));
        check.due("open(2, 1, 0): room is left by 2", true, x.open(2, 1, 0));
        check.due("openings(3, 1): no room is left by 3", 0, x.openings(3, 1));
        x.set(1, 1, 5);
        x.set(0, 3, 0);
        check.due("open(4, 0, 0): those at home wait, he need not", true, x.open(4, 0, 0));
        int[][] bad = {{41, 0, 0}, {-1, 0, 0}, {4, 3, 0}, {4, -1, 0}, {4, 1, 5}, {4, 1, -1}, {HIGHEST, 0, 0},
            {4, LOWEST, 0}, {4, 0, HIGHEST}, {LOWEST, LOWEST, LOWEST}};
        for (int[] b : bad) {
            check.due("open() none such", false, x.open(b[0], b[1], b[2]));
        }
        for (int[] b : new int[][] {{41, 0}, {-1, 0}, {4, 3}, {4, -1}, {HIGHEST, HIGHEST}, {LOWEST, 0}}) {
            check.due("openings() none such", -1, x.openings(b[0], b[1]));
        }
        check.due("open(40, 1, 40)", true, x.open(40, 1, 40));
    }
}
