/** Promises 20 to 29: what would be. */
public final class WouldBeTest {
    private static final Check check = new Check();
    private static final int LOWEST = Integer.MIN_VALUE;
    private static final int HIGHEST = Integer.MAX_VALUE;

    public static void main(String[] args) {
        shutAndWorst();
        wider();
        turned();
        bestTurn();
        bestTurnOfEquals();
        bestTurnFromNone();
        turns();
        turnsOfEquals();
        roomyAndBest();
        latest();
        lacks();
        check.end("WouldBeTest");
    }

    /** 12 people, a shelter for all, and a road between them. */
    private static QuickestOut simple(int there, int back) {
        QuickestOut x = new QuickestOut();
        x.place(12, 0, 0, 0);
        x.place(0, 300, 0, 0);
        x.road(0, 1, 1, there, back);
        return x;
    }

    private static void stays(QuickestOut x, int quickest, int there, int back) {
        check.due("QUICKEST stays", quickest, x.quickest());
        check.due("THERE stays", there, Check.along(x, 0, 3));
        check.due("BACK stays", back, Check.along(x, 0, 4));
    }

    private static void shutAndWorst() {
        QuickestOut x = simple(2, 1);
        check.due("shut(0), no other", -1, x.shut(0));
        x.road(1, 0, 2, 0, 1);
        x.road(0, 1, 1, 3, 3);
        check.due("quickest()", 3, x.quickest());
        check.due("shut(0)", 4, x.shut(0));
        check.due("shut(1)", 3, x.shut(1));
        check.due("shut(2)", 5, x.shut(2));
        check.due("worst()", 2, x.worst());
        for (int bad : new int[] {3, -1, LOWEST, HIGHEST}) {
            check.due("shut() none such", -2, x.shut(bad));
        }
        stays(x, 3, 2, 1);
        x.place(1, 0, 0, 0);
        x.road(2, 1, 9, 1, 0);
        check.due("NONE is worse than any number", 3, x.worst());
        x.road(2, 1, 9, 1, 0);
        check.due("quickest()", 9, x.quickest());
        check.due("of equals the first", 0, x.worst());
        x.place(1, 0, 0, 0);
        check.due("all NONE: the first", 0, x.worst());
        check.due("worst() without roads", -2, new QuickestOut().worst());
    }

    private static void wider() {
        QuickestOut x = simple(2, 1);
        check.due("quickest()", 6, x.quickest());
        check.due("wider by 0", 6, x.wider(0, false, 0));
        check.due("wider by 1", 4, x.wider(0, false, 1));
        check.due("wider by 10", 1, x.wider(0, false, 10));
        check.due("wider by 30", 1, x.wider(0, false, 30));
        check.due("wider BACK", 6, x.wider(0, true, 30));
        check.due("narrower", 12, x.wider(0, false, -1));
        check.due("none THERE", -1, x.wider(0, false, -2));
        check.due("below 0", -2, x.wider(0, false, -3));
        check.due("none BACK", 6, x.wider(0, true, -1));
        check.due("BACK below 0", -2, x.wider(0, true, -2));
        check.due("by 31", -2, x.wider(0, false, 31));
        for (int bad : new int[] {1, -1, LOWEST, HIGHEST}) {
            check.due("wider() none such road", -2, x.wider(bad, false, 1));
            check.due("wider() none such k", -2, x.wider(0, true, bad == 1 || bad == -1 ? 31 : bad));
        }
        stays(x, 6, 2, 1);
        QuickestOut y = simple(9, 9);
        y.turn(0, 9);
        check.due("by -9", 2, y.wider(0, false, -9));
        check.due("by -10", -2, y.wider(0, false, -10));
    }

    private static void turned() {
        QuickestOut x = simple(2, 2);
        check.due("turned(0, 1)", 4, x.turned(0, 1));
        check.due("turned(0, 2)", 3, x.turned(0, 2));
        check.due("turned(0, -1)", 12, x.turned(0, -1));
        check.due("turned(0, -2)", -1, x.turned(0, -2));
        int[][] bad = {{0, 0}, {0, 3}, {0, -3}, {1, 1}, {-1, 1}, {0, LOWEST}, {0, HIGHEST}, {LOWEST, 1}, {HIGHEST, -1}};
        for (int[] b : bad) {
            check.due("turned() none such", -2, x.turned(b[0], b[1]));
        }
        stays(x, 6, 2, 2);
    }

    private static void bestTurn() {
        QuickestOut x = simple(2, 6);
        check.due("bestTurn(0)", 2, x.bestTurn(0));
        check.due("bestTurn(1)", 0, x.bestTurn(1));
        check.due("bestTurn(2): as few as do", 4, x.bestTurn(2));
        for (int bad : new int[] {-1, 3, LOWEST, HIGHEST}) {
            check.due("bestTurn() another what", -2, x.bestTurn(bad));
        }
        stays(x, 6, 2, 6);
        QuickestOut y = simple(5, 0);
        check.due("there is none", -2, y.bestTurn(0));
        check.due("there is none", -2, y.bestTurn(1));
        check.due("there is none", -2, y.bestTurn(2));
        QuickestOut z = simple(4, 1);
        check.due("no turn is quicker", 3, z.turned(0, 1));
        check.due("so it counts not", -2, z.bestTurn(0));
        check.due("without places", -2, new QuickestOut().bestTurn(0));
        z.set(0, 0, 0);
        check.due("with nobody", -2, z.bestTurn(0));
    }

    private static void bestTurnOfEquals() {
        QuickestOut x = simple(3, 1);
        x.road(1, 0, 1, 1, 1);
        check.due("quickest()", 3, x.quickest());
        x.drop();
        x.road(1, 0, 1, 1, 0);
        check.due("quickest()", 4, x.quickest());
        check.due("bestTurn(0)", 3, x.bestTurn(0));
        check.due("of equals the least road", 0, x.bestTurn(1));
        check.due("bestTurn(2)", 1, x.bestTurn(2));
        x.turn(0, 1);
        check.due("quickest()", 3, x.quickest());
        check.due("none is quicker", -2, x.bestTurn(0));
        x.turn(0, -2);
        x.drop();
        x.road(1, 0, 1, 3, 0);
        check.due("quickest()", 6, x.quickest());
        check.due("with 2 of road 0", 3, x.turned(0, 2));
        check.due("with 3 of road 1", 3, x.turned(1, -3));
        check.due("with 2 of road 1", 3, x.turned(1, -2));
        check.due("bestTurn(0)", 3, x.bestTurn(0));
        check.due("bestTurn(1)", 0, x.bestTurn(1));
        check.due("bestTurn(2)", 2, x.bestTurn(2));

        // Size goes ahead of the road: road 0 needs two lanes, being the longer one.
        QuickestOut y = new QuickestOut();
        y.place(2, 0, 0, 0);
        y.place(0, 9, 0, 0);
        y.road(0, 1, 2, 0, 2);
        y.road(1, 0, 1, 1, 0);
        check.due("from NONE, by size", 2, y.bestTurn(0));
        check.due("the road with the least size", 1, y.bestTurn(1));
        check.due("k", -1, y.bestTurn(2));

        // People at both ends: a lane either way is as good, that above 0 goes ahead.
        QuickestOut z = new QuickestOut();
        z.place(10, 5, 0, 0);
        z.place(10, 5, 0, 0);
        z.place(0, 10, 0, 0);
        z.road(0, 1, 1, 2, 2);
        z.road(0, 2, 1, 1, 0);
        z.road(2, 1, 1, 0, 1);
        check.due("quickest()", 5, z.quickest());
        check.due("none is quicker", -2, z.bestTurn(0));
    }

    private static void bestTurnFromNone() {
        QuickestOut x = simple(0, 3);
        check.due("quickest()", -1, x.quickest());
        check.due("a number is ahead of NONE", 4, x.bestTurn(0));
        check.due("k", 3, x.bestTurn(2));
        stays(x, -1, 0, 3);
        QuickestOut all = simple(9, 9);
        all.set(0, 0, 18);
        all.turn(0, -9);
        check.due("all 18 lanes", 1, all.bestTurn(0));
        check.due("k", 18, all.bestTurn(2));
        QuickestOut y = simple(0, 3);
        y.set(1, 1, 11);
        check.due("NONE by every turn", -2, y.bestTurn(0));
    }

    private static void turns() {
        QuickestOut x = simple(1, 2);
        x.road(1, 0, 1, 2, 1);
        x.road(0, 1, 1, 0, 6);
        check.due("quickest()", 6, x.quickest());
        check.due("turns(0, 0)", 6, x.turns(0, 0));
        check.due("turns(0, 1)", 0, x.turns(0, 1));
        check.due("turns(1, 0)", 3, x.turns(1, 0));
        check.due("turns(1, 1)", 1, x.turns(1, 1));
        check.due("turns(2, 0)", 3, x.turns(2, 0));
        check.due("turns(2, 1)", 2, x.turns(2, 1));
        check.due("turns(3, 0)", 2, x.turns(3, 0));
        check.due("turns(3, 1): least road highest", 5, x.turns(3, 1));
        check.due("turns(7, 0)", 1, x.turns(7, 0));
        check.due("turns(7, 1)", 9 + 6 + 1, x.turns(7, 1));
        check.due("turns(6, 0)", 2, x.turns(6, 0));
        check.due("turns(6, 1): one alone does", 1, x.turns(6, 1));
        for (int bad : new int[] {-1, 2, LOWEST, HIGHEST}) {
            check.due("turns() another what", -2, x.turns(1, bad));
        }
        for (int bad : new int[] {8, 9, -1, LOWEST, HIGHEST, -8}) {
            check.due("turns() no such roads", -2, x.turns(bad, 0));
        }
        stays(x, 6, 1, 2);
        x.road(0, 1, 1, 0, 1);
        x.road(0, 1, 1, 0, 1);
        check.due("four", 1, x.turns(15, 0));
        check.due("five", -2, x.turns(31, 0));
        check.due("four of five", 1, x.turns(23, 0));
        stays(x, 6, 1, 2);
    }

    private static void turnsOfEquals() {
        QuickestOut x = simple(4, 0);
        check.due("as it is goes ahead", 0, x.turns(1, 1));
        x.set(1, 1, 0);
        check.due("NONE by all", -1, x.turns(1, 0));
        check.due("its row", 0, x.turns(1, 1));
        QuickestOut y = simple(0, 3);
        y.road(0, 1, 1, 0, 3);
        check.due("both are needed", 2, y.turns(3, 0));
        check.due("row", 4, y.turns(3, 1));
        y.set(0, 0, 3);
        check.due("one does", 1, y.turns(3, 0));
        check.due("the least row: the last road", 1, y.turns(3, 1));
        QuickestOut z = new QuickestOut();
        z.place(3, 0, 0, 0);
        z.place(3, 0, 0, 0);
        z.place(0, 30, 0, 0);
        z.road(0, 2, 1, 3, 3);
        z.road(2, 1, 1, 3, 3);
        check.due("quickest()", 1, z.quickest());
        check.due("nothing is quicker", 0, z.turns(3, 1));
        z.set(0, 0, 6);
        z.set(1, 0, 6);
        check.due("both", 1, z.turns(3, 0));
        check.due("row: there, back", 3 + 2, z.turns(3, 1));
    }

    private static void roomyAndBest() {
        QuickestOut x = new QuickestOut();
        check.due("best() without places", -2, x.best(1));
        x.place(10, 0, 0, 300);
        x.place(0, 10, 0, 300);
        x.place(0, 5, 0, 300);
        x.road(0, 1, 5, 9, 0);
        x.road(0, 2, 1, 9, 0);
        check.due("quickest()", 5, x.quickest());
        check.due("roomy(0, 10)", 0, x.roomy(0, 10));
        check.due("roomy(0, 9)", 1, x.roomy(0, 9));
        check.due("roomy(2, 300)", 2, x.roomy(2, 300));
        check.due("roomy(1, 4)", -1, x.roomy(1, 4));
        check.due("roomy(1, 5)", 5, x.roomy(1, 5));
        check.due("roomy(1, 0)", -1, x.roomy(1, 0));
        for (int[] b : new int[][] {{0, -1}, {0, 301}, {3, 1}, {-1, 1}, {LOWEST, 1}, {0, HIGHEST}, {HIGHEST, LOWEST}}) {
            check.due("roomy() none such", -2, x.roomy(b[0], b[1]));
        }
        check.due("best(1)", 0, x.best(1));
        check.due("best(5)", 0, x.best(5));
        check.due("best(300)", 0, x.best(300));
        for (int bad : new int[] {0, 301, -1, LOWEST, HIGHEST}) {
            check.due("best() no such k", -2, x.best(bad));
        }
        x.set(0, 2, 2);
        x.drop();
        x.road(0, 2, 3, 9, 0);
        check.due("by 0 in 5 with 5 more", 7, x.roomy(0, 4));
        check.due("by 2", 6, x.roomy(2, 10));
        check.due("the first of equals", 0, x.best(1));
        check.due("ROOM stays", 0, x.of(0, 1));
        check.due("ROOM stays", 5, x.of(2, 1));
        x.place(60, 0, 0, 0);
        check.due("all NONE: the first", 0, x.best(59));
        check.due("a number ahead of NONE", 3, x.best(60));
        x.set(3, 0, 0);
        x.set(1, 1, 300);
        check.due("300 at most", 300, x.of(1, 1));
        check.due("best(300)", 0, x.best(300));
    }

    private static void latest() {
        QuickestOut x = new QuickestOut();
        x.place(4, 0, 0, 9);
        x.place(1, 9, 0, 9);
        x.place(1, 0, 2, 9);
        x.place(0, 0, 7, 9);
        x.road(0, 1, 3, 1, 0);
        x.road(2, 1, 1, 1, 0);
        check.due("quickest()", 6, x.quickest());
        check.due("latest(0)", 0, x.latest(0));
        check.due("latest(1): at the shelter", 6, x.latest(1));
        check.due("latest(2)", 5, x.latest(2));
        check.due("latest(3): nobody", 20, x.latest(3));
        check.due("BEGINS stays", 2, x.of(2, 2));
        for (int bad : new int[] {4, -1, LOWEST, HIGHEST}) {
            check.due("latest() none such", -2, x.latest(bad));
        }
        x.set(0, 2, 20);
        check.due("latest(2) is 20 at most", 20, x.latest(2));
        check.due("latest(0)", 20, x.latest(0));
        x.set(1, 1, 5);
        check.due("there is no QUICKEST", -1, x.latest(2));
        check.due("nor such a place", -2, x.latest(4));
    }

    private static void lacks() {
        QuickestOut x = simple(2, 1);
        check.due("lacks(6)", 0, x.lacks(6, 0, false));
        check.due("lacks(40)", 0, x.lacks(40, 0, true));
        check.due("lacks(5)", 1, x.lacks(5, 0, false));
        check.due("lacks(4)", 1, x.lacks(4, 0, false));
        check.due("lacks(3)", 2, x.lacks(3, 0, false));
        check.due("lacks(2)", 4, x.lacks(2, 0, false));
        check.due("lacks(1)", 10, x.lacks(1, 0, false));
        check.due("lacks(0)", -1, x.lacks(0, 0, false));
        check.due("BACK is no help", -1, x.lacks(5, 0, true));
        x.set(0, 0, 32);
        check.due("30 lanes more", 30, x.lacks(1, 0, false));
        x.set(0, 0, 33);
        check.due("31 are too many", -1, x.lacks(1, 0, false));
        int[][] bad = {{41, 0}, {-1, 0}, {5, 1}, {5, -1}, {LOWEST, 0}, {5, HIGHEST}, {HIGHEST, LOWEST}};
        for (int[] b : bad) {
            check.due("lacks() none such", -2, x.lacks(b[0], b[1], false));
        }
        stays(x, 17, 2, 1);
        x.set(1, 1, 32);
        check.due("too little ROOM", -1, x.lacks(40, 0, false));
    }
}
