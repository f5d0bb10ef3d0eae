/** Promises 30 to 33: the plan (moved() is in ToldTest too). */
public final class PlanTest {
    private static final Check check = new Check();
    private static final int LOWEST = Integer.MIN_VALUE;
    private static final int HIGHEST = Integer.MAX_VALUE;

    public static void main(String[] args) {
        withoutMoves();
        rightPlan();
        lanes();
        here();
        crowdFirst();
        holdComesLast();
        order();
        farEnd();
        check.end("PlanTest");
    }

    private static void planned(QuickestOut x, int safe, int latest, int onRoads, int home, int crowds) {
        int[] want = {safe, latest, onRoads, home, crowds};
        for (int what = 0; what < 5; what++) {
            check.due("planned(" + what + ")", want[what], x.planned(what));
        }
    }

    private static void there(QuickestOut x, int place, int minute, int crowd, int home, int safe) {
        String call = "there(" + place + ", " + minute + ", ";
        check.due(call + "0)", crowd, x.there(place, minute, 0));
        check.due(call + "1)", home, x.there(place, minute, 1));
        check.due(call + "2)", safe, x.there(place, minute, 2));
    }

    private static void withoutMoves() {
        QuickestOut x = new QuickestOut();
        planned(x, 0, -1, 0, 0, 0);
        x.place(10, 4, 3, 0);
        x.place(5, 9, 0, 0);
        check.due("wrong()", 0, x.wrong());
        planned(x, 9, 3, 0, 6, 0);
        there(x, 0, 2, 0, 10, 0);
        there(x, 0, 3, 0, 6, 4);
        there(x, 0, 50, 0, 6, 4);
        there(x, 1, 0, 0, 0, 5);
        for (int bad : new int[] {-1, 5, LOWEST, HIGHEST}) {
            check.due("planned() another what", -1, x.planned(bad));
            check.due("there() no such place", -1, x.there(bad, 0, 0));
            check.due("there() another what", -1, x.there(0, 0, bad));
        }
        check.due("there() what 3", -1, x.there(0, 0, 3));
        check.due("there() place 2", -1, x.there(2, 0, 0));
        check.due("there() minute -1", -1, x.there(0, -1, 0));
        check.due("there() minute 51", -1, x.there(0, 51, 0));
        check.due("there() minute lowest", -1, x.there(0, LOWEST, 0));
    }

    /** Four from 0 through 1, where two may wait, to the shelter 2. */
    private static QuickestOut chain() {
        QuickestOut x = new QuickestOut();
        x.place(4, 0, 1, 0);
        x.place(0, 0, 0, 2);
        x.place(0, 3, 0, 1);
        x.road(0, 1, 2, 2, 2);
        x.road(2, 1, 1, 0, 1);
        return x;
    }

    private static void rightPlan() {
        QuickestOut x = chain();
        x.move(1, 0, false, 2);
        x.move(3, 1, true, 1);
        x.move(4, 1, true, 1);
        check.due("wrong()", 0, x.wrong());
        planned(x, 2, 5, 0, 2, 0);
        there(x, 0, 0, 0, 4, 0);
        there(x, 0, 1, 0, 2, 0);
        there(x, 1, 2, 0, 0, 0);
        there(x, 1, 3, 1, 0, 0);
        there(x, 2, 3, 0, 0, 0);
        there(x, 2, 4, 0, 0, 1);
        there(x, 1, 4, 0, 0, 0);
        there(x, 2, 5, 0, 0, 2);
        x.move(2, 0, false, 2);
        check.due("wrong(): two come in 4, one waits", 0, x.wrong());
        planned(x, 2, 5, 0, 0, 2);
        there(x, 1, 4, 2, 0, 0);
        x.move(5, 1, true, 1);
        x.move(6, 1, true, 1);
        check.due("wrong(): the fourth stays before the full shelter", 0, x.wrong());
        planned(x, 3, 6, 0, 0, 1);
        there(x, 2, 50, 1, 0, 3);
        x.set(2, 3, 0);
        check.due("wrong(): if he may wait there", 3 + 8 * 2, x.wrong());
        there(x, 2, 7, 1, 0, 3);
        check.due("there() behind it", -1, x.there(2, 8, 0));
    }

    private static void lanes() {
        QuickestOut x = chain();
        x.move(1, 0, false, 3);
        check.due("wrong(): more than lanes", 1, x.wrong());
        planned(x, 0, -1, 0, 4, 0);
        there(x, 0, 0, 0, 4, 0);
        check.due("there() of that minute", -1, x.there(0, 1, 1));
        x.back(1);
        x.move(1, 0, false, 1);
        x.move(1, 0, false, 1);
        check.due("wrong(): just as many", 0, x.wrong());
        x.move(1, 0, false, 1);
        check.due("wrong(): with it more", 1 + 8 * 2, x.wrong());
        planned(x, 0, -1, 2, 2, 0);
        x.back(1);
        x.move(2, 0, false, 2);
        x.set(1, 3, 4);
        check.due("wrong(): lanes are there anew each minute", 0, x.wrong());
        x.set(1, 3, 2);
        x.back(1);
        x.turn(0, -1);
        check.due("wrong(): with a lane turned", 1 + 8, x.wrong());
        x.turn(0, 1);
        x.back(2);
        x.move(1, 0, true, 3);
        check.due("wrong(): of one move the least, lanes ahead of people", 1, x.wrong());
        x.back(1);
        x.move(1, 0, true, 2);
        check.due("wrong(): nobody there", 2, x.wrong());
    }

    private static void here() {
        QuickestOut x = chain();
        x.move(0, 0, false, 1);
        check.due("wrong(): ahead of BEGINS", 2, x.wrong());
        check.due("there() of no minute", -1, x.there(0, 0, 0));
        planned(x, 0, -1, 0, 4, 0);
        x.back(1);
        x.set(0, 0, 1);
        x.move(1, 0, false, 2);
        check.due("wrong(): more than there are", 2, x.wrong());
        x.set(0, 0, 2);
        check.due("wrong(): as many as there are, and they wait", 0, x.wrong());
        x.move(2, 1, true, 1);
        check.due("wrong(): they have not come", 2 + 8, x.wrong());
        planned(x, 0, -1, 2, 0, 0);
        x.back(1);
        x.move(3, 1, true, 1);
        check.due("wrong(): they have come", 0, x.wrong());
        planned(x, 1, 4, 0, 0, 1);

        // Who goes into a shelter is not here any more.
        QuickestOut y = new QuickestOut();
        y.place(3, 2, 0, 0);
        y.place(0, 0, 0, 9);
        y.road(0, 1, 1, 9, 9);
        y.move(0, 0, false, 2);
        check.due("wrong(): two of three are safe", 2, y.wrong());
        planned(y, 2, 0, 0, 1, 0);
        y.back(1);
        y.move(0, 0, false, 1);
        check.due("wrong(): one is left", 0, y.wrong());
        planned(y, 2, 0, 0, 0, 1);
    }

    /** Of those here the crowd sets out first, and the crowd goes into the shelter first. */
    private static void crowdFirst() {
        QuickestOut x = new QuickestOut();
        x.place(2, 0, 0, 0);
        x.place(2, 0, 1, 9);
        x.place(0, 0, 0, 9);
        x.road(0, 1, 1, 9, 9);
        x.road(1, 2, 1, 9, 9);
        x.move(0, 0, false, 2);
        x.move(1, 1, false, 3);
        check.due("wrong()", 0, x.wrong());
        there(x, 1, 1, 0, 1, 0);
        x.set(1, 2, 2);
        check.due("wrong(): those at home may not yet", 2 + 8, x.wrong());
        there(x, 1, 0, 0, 2, 0);
        x.back(1);
        x.move(1, 1, false, 1);
        there(x, 1, 1, 1, 2, 0);
        x.back(1);
        x.set(1, 2, 1);
        x.set(1, 1, 3);
        there(x, 1, 0, 0, 2, 0);
        there(x, 1, 1, 0, 1, 3);
        x.set(1, 1, 1);
        there(x, 1, 1, 1, 2, 1);
    }

    /** A crowd above HOLD counts only if no move is wrong, even a much later one. */
    private static void holdComesLast() {
        QuickestOut x = chain();
        x.set(1, 3, 0);
        x.move(1, 0, false, 1);
        check.due("wrong(): nobody may wait", 3 + 8, x.wrong());
        planned(x, 0, -1, 0, 3, 1);
        there(x, 1, 3, 1, 0, 0);
        check.due("there() behind it", -1, x.there(1, 4, 0));
        x.move(3, 1, true, 1);
        check.due("wrong(): he sets out in the same minute", 0, x.wrong());
        x.back(1);
        x.move(40, 0, false, 9);
        check.due("wrong(): a move goes ahead", 1 + 8, x.wrong());
        planned(x, 0, -1, 0, 3, 1);
        there(x, 1, 39, 1, 0, 0);
        check.due("there() of its minute", -1, x.there(1, 40, 0));
    }

    /** Moves are done by minutes, and in one minute as told. */
    private static void order() {
        QuickestOut x = chain();
        x.move(5, 0, false, 3);
        x.move(2, 0, false, 3);
        x.move(2, 0, true, 1);
        check.due("wrong(): the earlier minute first", 1 + 8, x.wrong());
        x.back(2);
        x.move(2, 0, true, 1);
        x.move(2, 0, false, 3);
        check.due("wrong(): in one minute as told", 2 + 8, x.wrong());

        // Of one minute the least place where the crowd is too great.
        QuickestOut y = new QuickestOut();
        y.place(2, 0, 0, 0);
        y.place(0, 0, 0, 0);
        y.place(0, 0, 0, 0);
        y.road(0, 2, 1, 1, 0);
        y.road(0, 1, 1, 1, 0);
        y.move(0, 0, false, 1);
        y.move(0, 1, false, 1);
        check.due("wrong(): least place", 3 + 8, y.wrong());
        y.back(1);
        y.move(1, 1, false, 1);
        check.due("wrong(): first minute", 3 + 16, y.wrong());
        planned(y, 0, -1, 1, 0, 1);
        y.back(2);
        y.set(2, 0, 1);
        y.road(2, 0, 1, 1, 0);
        y.move(0, 0, false, 1);
        y.move(0, 2, false, 1);
        check.due("wrong(): place 0 is the least", 3, y.wrong());
        planned(y, 0, -1, 0, 1, 2);
    }

    private static void farEnd() {
        QuickestOut x = new QuickestOut();
        x.place(2, 0, 20, 0);
        x.place(0, 1, 0, 0);
        x.road(0, 1, 9, 2, 0);
        x.move(40, 0, false, 1);
        check.due("wrong()", 0, x.wrong());
        planned(x, 1, 49, 0, 1, 0);
        there(x, 1, 48, 0, 0, 0);
        there(x, 1, 49, 0, 0, 1);
        x.move(40, 0, false, 1);
        check.due("wrong(): in minute 49", 3 + 8, x.wrong());
        planned(x, 1, 49, 0, 0, 1);
        there(x, 1, 49, 1, 0, 1);
        check.due("there() in 50", -1, x.there(1, 50, 0));
    }
}
