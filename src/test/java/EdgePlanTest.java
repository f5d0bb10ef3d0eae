/** The boundary cases of Term 3 and of promises 30 to 33: the plan. */
public final class EdgePlanTest {
    private static final Edge edge = new Edge();

    public static void main(String[] args) {
        movedNoneSuch();
        noPlan();
        moreThanLanes();
        lanesOfOneMinute();
        moreThanHere();
        hereFromBeginsOn();
        hereBehindTheShelter();
        crowdFirst();
        comesMinutesLater();
        shelterFills();
        crowdAboveHold();
        homeIsNoCrowd();
        firstCrowd();
        firstMove();
        leastOfOneMove();
        moveAheadOfCrowd();
        numbers();
        goesUpToMove();
        goesToEndOfMinute();
        goesToFifty();
        plannedWhat();
        plannedLatest();
        thereRange();
        thereNoneSuch();
        edge.end("EdgePlanTest");
    }

    /** Ten at 0 who begin in 2; a shelter for four at 1, where three may wait; two minutes, five lanes there, one back. */
    private static QuickestOut ten() {
        QuickestOut x = new QuickestOut();
        x.place(10, 0, 2, 0);
        x.place(0, 4, 0, 3);
        x.road(0, 1, 2, 5, 1);
        return x;
    }

    /** The ten, with moves there: minute, how many, minute, how many. */
    private static QuickestOut ten(int... moves) {
        QuickestOut x = ten();
        for (int i = 0; i < moves.length; i += 2) {
            x.move(moves[i], 0, false, moves[i + 1]);
        }
        return x;
    }

    private static void wrong(String plan, int want, QuickestOut x) {
        edge.due("wrong(), " + plan, want, x.wrong());
    }

    private static void planned(QuickestOut x, int... want) {
        for (int what = 0; what < 5; what++) {
            edge.due("planned(" + what + ")", want[what], x.planned(what));
        }
    }

    private static void there(QuickestOut x, int place, int minute, int... want) {
        for (int what = 0; what < 3; what++) {
            edge.due("there(" + place + ", " + minute + ", " + what + ")", want[what], x.there(place, minute, what));
        }
    }

    private static void nothingThere(QuickestOut x, int place, int minute) {
        there(x, place, minute, -1, -1, -1);
    }

    // ---- Promise 30: moved

    private static void movedNoneSuch() {
        edge.says("Promise 30: NONE: there is none such");
        edge.outside("move", Edge::some, Edge.to(0, 2), -1, (x, v) -> x.moved(v, 0));
        edge.outside("move of forty", Edge::full, Edge.to(0, 39), -1, (x, v) -> x.moved(v, 3));
        edge.refused("of none", Edge::none, -1, x -> x.moved(0, 0));
        edge.says("Promise 30: NONE: another what");
        edge.outside("what", Edge::some, Edge.to(0, 3), -1, (x, v) -> x.moved(0, v));
        edge.says("Promise 30: what 0 to 3, of the first and of the last");
        QuickestOut x = Edge.some();
        int[][] told = {{3, 0, 0, 2}, {39, 1, 1, 1}, {4, 0, 1, 1}};
        for (int move = 0; move < 3; move++) {
            for (int what = 0; what < 4; what++) {
                edge.due("moved(" + move + ", " + what + ")", told[move][what], x.moved(move, what));
            }
        }
        edge.due("moved(39, 0) of forty", 39, Edge.full().moved(39, 0));
    }

    // ---- Term 3, Promise 31: what is WRONG

    private static void noPlan() {
        edge.says("Term 3: 0: it is right");
        wrong("without places", 0, Edge.none());
        planned(Edge.none(), 0, -1, 0, 0, 0);
        QuickestOut x = ten();
        wrong("without moves", 0, x);
        planned(x, 0, -1, 0, 10, 0);
        there(x, 0, 0, 0, 10, 0);
        there(x, 0, 50, 0, 10, 0);
        wrong("all who wait have set out again", 0, ten(2, 5, 3, 2));
    }

    private static void moreThanLanes() {
        edge.says("Term 3: 1 with it more than LANES that way set out on the ROAD in that MINUTE");
        wrong("just as many THERE", 0, ten(2, 5));
        wrong("one more THERE", 1, ten(2, 6));
        QuickestOut x = ten(2, 5);
        x.move(4, 0, true, 1);
        wrong("just as many BACK", 3, x);
        x.set(0, 3, 1);
        wrong("just as many BACK, where he may wait", 0, x);
        x.move(4, 0, true, 1);
        wrong("one more BACK", 1 + 8 * 2, x);
        QuickestOut y = ten(2, 5);
        y.turn(0, -5);
        wrong("without a lane", 1, y);
        y.turn(0, 6);
        y.back(1);
        y.move(2, 0, false, 6);
        wrong("with a lane turned", 0, y);
    }

    private static void lanesOfOneMinute() {
        edge.says("Term 3: with it more than LANES: of one ROAD, one way, one MINUTE together");
        wrong("five in two moves", 0, ten(2, 2, 2, 3));
        wrong("six in two moves", 1 + 8, ten(2, 3, 2, 3));
        wrong("six in three, the third is one too many", 1 + 8 * 2, ten(2, 3, 2, 2, 2, 1));
        wrong("five now and two in the next minute", 0, ten(2, 5, 3, 2));
        // Told apart from one another, they are of one minute all the same.
        wrong("six, with another minute between", 1 + 8 * 2, ten(2, 3, 3, 1, 2, 3));
        QuickestOut x = ten(2, 5);
        x.road(0, 1, 2, 1, 0);
        x.move(2, 1, false, 1);
        wrong("another road has its own lanes", 0, x);
        x.move(2, 1, false, 1);
        wrong("but no more", 1 + 8 * 2, x);
        QuickestOut y = new QuickestOut();
        y.place(2, 0, 0, 1);
        y.place(2, 0, 0, 1);
        y.road(0, 1, 1, 1, 1);
        y.move(0, 0, false, 1);
        y.move(0, 0, true, 1);
        wrong("the other way has its own lanes", 0, y);
        y.move(0, 0, true, 1);
        wrong("but no more", 1 + 8 * 2, y);
    }

    private static void moreThanHere() {
        edge.says("Term 3: 2 more than are HERE");
        QuickestOut x = ten(2, 5);
        x.set(0, 0, 5);
        x.set(1, 3, 300);
        wrong("just as many", 0, x);
        x.set(0, 0, 4);
        wrong("one more", 2, x);
        QuickestOut y = ten(2, 5, 3, 5, 4, 1);
        y.set(1, 3, 300);
        wrong("when all are gone", 2 + 8 * 2, y);
        y.back(1);
        wrong("all", 0, y);
        QuickestOut nobody = ten();
        nobody.move(2, 0, true, 1);
        wrong("where nobody is", 2, nobody);
    }

    private static void hereFromBeginsOn() {
        edge.says("Term 3: HERE are those at home who may leave it");
        wrong("a minute ahead of BEGINS", 2, ten(1, 1));
        wrong("in BEGINS", 0, ten(2, 1));
        QuickestOut x = ten(19, 1);
        x.set(0, 2, 20);
        wrong("a minute ahead of 20", 2, x);
        x.back(1);
        x.move(20, 0, false, 1);
        wrong("in 20", 0, x);
        x.back(1);
        x.set(0, 2, 0);
        x.move(0, 0, false, 1);
        wrong("in minute 0", 0, x);
        // Those of the crowd need not wait for BEGINS of the place where they are.
        QuickestOut y = ten(2, 2);
        y.set(1, 1, 0);
        y.set(1, 2, 20);
        y.set(1, 0, 7);
        y.set(0, 3, 1);
        y.move(4, 0, true, 1);
        wrong("of the crowd ahead of BEGINS there", 0, y);
        there(y, 1, 4, 1, 7, 0);
        y.turn(0, -2);
        y.back(1);
        y.move(4, 0, true, 3);
        wrong("those at home there may not yet", 2 + 8, y);
    }

    private static void hereBehindTheShelter() {
        edge.says("Term 3: as many as can go into its SHELTER; then MOVES");
        QuickestOut x = new QuickestOut();
        x.place(3, 2, 0, 0);
        x.place(0, 0, 0, 9);
        x.road(0, 1, 1, 9, 0);
        x.move(0, 0, false, 1);
        wrong("the one who had no room", 0, x);
        planned(x, 2, 0, 0, 0, 1);
        x.back(1);
        x.move(0, 0, false, 2);
        wrong("one of the two in the shelter too", 2, x);
        x.set(0, 1, 1);
        wrong("when it has room for one", 0, x);
        x.set(0, 1, 3);
        wrong("when all are in it", 2, x);
    }

    private static void crowdFirst() {
        edge.says("Term 3: into the SHELTER those of the CROWD first, then those at home");
        QuickestOut x = ten(2, 3);
        x.set(1, 0, 2);
        x.set(1, 2, 4);
        there(x, 1, 3, 0, 2, 0);
        there(x, 1, 4, 0, 1, 4);
        x.set(1, 1, 3);
        there(x, 1, 4, 0, 2, 3);
        x.set(1, 1, 2);
        there(x, 1, 4, 1, 2, 2);
        x.set(1, 1, 5);
        there(x, 1, 4, 0, 0, 5);
        x.set(1, 2, 5);
        there(x, 1, 4, 0, 2, 3);
        there(x, 1, 5, 0, 0, 5);
        edge.says("Term 3: those of the CROWD set out first");
        QuickestOut y = ten(2, 3);
        y.set(1, 1, 0);
        y.set(1, 0, 2);
        y.set(0, 3, 9);
        y.turn(0, -2);
        for (int many = 1; many <= 3; many++) {
            y.move(4, 0, true, many);
            there(y, 1, 4, 3 - many, 2, 0);
            y.back(1);
        }
        y.turn(0, -2);
        y.back(1);
        y.move(2, 0, false, 1);
        y.move(4, 0, true, 2);
        wrong("one of the crowd, one from home", 0, y);
        there(y, 1, 4, 0, 1, 0);
    }

    private static void comesMinutesLater() {
        edge.says("Term 3: who comes is there");
        for (int minutes : new int[] {1, 9}) {
            QuickestOut x = new QuickestOut();
            x.place(1, 0, 0, 1);
            x.place(0, 0, 0, 1);
            x.road(0, 1, minutes, 1, 1);
            x.move(3, 0, false, 1);
            there(x, 1, 2 + minutes, 0, 0, 0);
            there(x, 1, 3 + minutes, 1, 0, 0);
            x.move(3 + minutes, 0, true, 1);
            wrong("he sets out again in that minute", 0, x);
            x.back(1);
            x.move(2 + minutes, 0, true, 1);
            wrong("a minute ahead of it", 2 + 8, x);
        }
    }

    private static void shelterFills() {
        edge.says("Term 3: as many as can go into its SHELTER: ROOM in all");
        QuickestOut x = ten(2, 3, 3, 4);
        there(x, 1, 4, 0, 0, 3);
        there(x, 1, 5, 3, 0, 4);
        planned(x, 4, 5, 0, 3, 3);
        wrong("four in it, three before it", 0, x);
        x.set(1, 1, 0);
        there(x, 1, 4, 3, 0, 0);
        wrong("without a shelter", 3 + 8, x);
        nothingThere(x, 1, 6);
        x.set(1, 1, 7);
        planned(x, 7, 5, 0, 3, 0);
    }

    private static void crowdAboveHold() {
        edge.says("Term 3: 3 the PLACE where first the CROWD is above HOLD as a MINUTE ends");
        QuickestOut x = ten(2, 5, 3, 2);
        wrong("just HOLD", 0, x);
        x.set(1, 3, 2);
        wrong("one above HOLD", 3 + 8, x);
        x.set(1, 3, 3);
        x.move(4, 0, false, 1);
        wrong("one more comes", 3 + 8, x);
        // As the minute ends: who sets out again in that minute is not in it.
        x.set(0, 3, 1);
        x.move(6, 0, true, 1);
        wrong("one sets out in that minute", 0, x);
        x.back(1);
        x.move(7, 0, true, 1);
        wrong("one sets out in the next", 3 + 8, x);
        QuickestOut none = ten(2, 5);
        none.set(1, 3, 0);
        wrong("HOLD 0", 3 + 8, none);
        none.set(1, 1, 5);
        wrong("HOLD 0 and nobody waits", 0, none);
    }

    private static void homeIsNoCrowd() {
        edge.says("Term 3: the CROWD (who came and waits)");
        QuickestOut x = ten();
        x.set(0, 2, 0);
        wrong("ten at home where nobody may wait", 0, x);
        there(x, 0, 50, 0, 10, 0);
        QuickestOut y = ten(2, 1);
        y.set(1, 0, 60);
        y.set(1, 1, 0);
        y.set(1, 3, 1);
        wrong("one came to sixty", 0, y);
        there(y, 1, 4, 1, 60, 0);
        y.set(1, 3, 0);
        wrong("where nobody may wait", 3 + 8, y);
    }

    private static void firstCrowd() {
        edge.says("Term 3: where first the CROWD is above HOLD (of one MINUTE the least PLACE)");
        QuickestOut x = new QuickestOut();
        x.place(3, 0, 0, 0);
        x.place(0, 0, 0, 0);
        x.place(0, 0, 0, 0);
        x.road(0, 2, 2, 1, 0);
        x.road(0, 1, 2, 1, 0);
        x.move(5, 0, false, 1);
        x.move(5, 1, false, 1);
        wrong("of one minute", 3 + 8, x);
        there(x, 2, 7, 1, 0, 0);
        nothingThere(x, 1, 8);
        x.back(1);
        x.move(6, 1, false, 1);
        wrong("of the earlier minute", 3 + 8 * 2, x);
        there(x, 2, 7, 1, 0, 0);
        nothingThere(x, 2, 8);
        x.back(1);
        x.move(4, 1, false, 1);
        wrong("of the earlier minute, told later", 3 + 8, x);
        nothingThere(x, 1, 7);
        // Place 0 is 3 alone.
        x.set(1, 0, 1);
        x.back(2);
        x.road(1, 0, 1, 1, 0);
        x.move(0, 2, false, 1);
        wrong("place 0", 3, x);
    }

    private static void firstMove() {
        edge.says("Term 3: by the first MOVE (in the order in which they are done) that can't be");
        wrong("of two minutes the earlier, though told later", 1 + 8, ten(3, 6, 2, 6));
        wrong("of two minutes the earlier, told first", 1, ten(2, 6, 3, 6));
        wrong("of one minute as told", 1, ten(2, 6, 2, 7));
        QuickestOut x = ten();
        x.move(2, 0, true, 1);
        x.move(2, 0, false, 6);
        wrong("of one minute as told: 2 ahead of 1", 2, x);
        QuickestOut y = ten();
        y.move(2, 0, false, 6);
        y.move(2, 0, true, 1);
        wrong("of one minute as told: 1 ahead of 2", 1, y);
        wrong("minute 40 behind minute 0", 2 + 8, ten(40, 6, 0, 1));
        wrong("minute 40 alone", 1, ten(40, 6));
    }

    private static void leastOfOneMove() {
        edge.says("Term 3: of one MOVE the least");
        wrong("more than lanes, more than are here", 1, ten(0, 6));
        wrong("more than are here alone", 2, ten(0, 5));
        wrong("more than lanes alone", 1, ten(2, 6));
    }

    private static void moveAheadOfCrowd() {
        edge.says("Term 3: if there is none: 3");
        QuickestOut x = ten(2, 5);
        x.set(1, 3, 0);
        wrong("a crowd alone", 3 + 8, x);
        x.move(40, 0, false, 6);
        wrong("and a move much later", 1 + 8, x);
        planned(x, 4, 4, 0, 5, 1);
        there(x, 1, 39, 1, 0, 4);
        nothingThere(x, 1, 40);
        x.back(1);
        x.move(40, 0, false, 5);
        wrong("and a move that can be", 3 + 8, x);
        there(x, 1, 4, 1, 0, 4);
        nothingThere(x, 1, 5);
    }

    private static void numbers() {
        edge.says("Term 3: kind and 8 times its number together");
        QuickestOut x = new QuickestOut();
        for (int place = 0; place < 8; place++) {
            x.place(place == 0 ? 60 : 0, 0, 0, place == 7 ? 39 : 0);
        }
        x.road(0, 7, 1, 1, 0);
        for (int i = 0; i < 39; i++) {
            x.move(i, 0, false, 1);
        }
        x.move(40, 0, false, 2);
        wrong("the fortieth by lanes", 1 + 8 * 39, x);
        x.back(1);
        wrong("39 who may wait", 0, x);
        x.move(39, 0, false, 1);
        wrong("the fortieth at the eighth place", 3 + 8 * 7, x);
        x.set(0, 0, 39);
        wrong("the fortieth by people", 2 + 8 * 39, x);
    }

    // ---- Term 3: how far it goes

    private static void goesUpToMove() {
        edge.says("Term 3: it goes so far as to what is WRONG alone (by 1, 2: up to that MOVE)");
        // In minute 4 the three of minute 2 come, one sets out, then six are too many.
        QuickestOut x = ten(2, 3, 3, 4, 4, 1, 4, 6, 4, 1, 5, 1);
        wrong("the fourth", 1 + 8 * 3, x);
        planned(x, 3, 4, 5, 2, 0);
        there(x, 1, 3, 0, 0, 0);
        there(x, 0, 3, 0, 3, 0);
        nothingThere(x, 0, 4);
        nothingThere(x, 1, 4);
        nothingThere(x, 1, 50);
        QuickestOut y = ten(2, 5, 3, 5, 4, 1);
        wrong("by 2", 2 + 8 * 2, y);
        planned(y, 4, 4, 5, 0, 1);
        there(y, 0, 3, 0, 0, 0);
        nothingThere(y, 0, 4);
        QuickestOut first = ten(0, 1);
        wrong("in minute 0", 2, first);
        planned(first, 0, -1, 0, 10, 0);
        nothingThere(first, 0, 0);
        first.set(1, 0, 2);
        edge.due("those in the shelter in minute 0 are safe all the same", 2, first.planned(0));
        edge.due("in minute 0", 0, first.planned(1));
    }

    private static void goesToEndOfMinute() {
        edge.says("Term 3: it goes so far as to what is WRONG alone (by 3: to the end of that MINUTE)");
        QuickestOut x = ten(2, 5, 3, 3, 5, 1, 6, 1);
        x.set(1, 3, 1);
        wrong("in minute 5", 3 + 8, x);
        // Who sets out in 5 is on the road then, who sets out in 6 is at home.
        planned(x, 4, 4, 1, 1, 4);
        there(x, 1, 5, 4, 0, 4);
        there(x, 0, 5, 0, 1, 0);
        nothingThere(x, 1, 6);
        nothingThere(x, 0, 50);
    }

    private static void goesToFifty() {
        edge.says("Term 3: it goes MINUTE by MINUTE, 0 to 50");
        QuickestOut x = new QuickestOut();
        x.place(3, 0, 0, 0);
        x.place(0, 1, 0, 1);
        x.road(0, 1, 9, 3, 0);
        x.move(40, 0, false, 2);
        wrong("they come in 49", 0, x);
        planned(x, 1, 49, 0, 1, 1);
        there(x, 1, 48, 0, 0, 0);
        there(x, 1, 49, 1, 0, 1);
        there(x, 1, 50, 1, 0, 1);
        nothingThere(x, 1, 51);
        x.set(1, 3, 0);
        wrong("one may not wait", 3 + 8, x);
        there(x, 1, 49, 1, 0, 1);
        nothingThere(x, 1, 50);
    }

    // ---- Promises 32 and 33: planned, there

    private static void plannedWhat() {
        edge.says("Promise 32: NONE for another what");
        edge.outside("what", Edge::few, Edge.to(0, 4), -1, QuickestOut::planned);
        edge.outside("what of none", Edge::none, Edge.to(0, 4), -1, QuickestOut::planned);
        edge.says("Promise 32: what 0 to 4, none of them twice");
        planned(ten(2, 5, 3, 2), 4, 4, 0, 3, 3);
        planned(ten(2, 5, 4, 9), 4, 4, 0, 5, 1);
        planned(ten(2, 1, 3, 9), 0, -1, 1, 9, 0);
    }

    private static void plannedLatest() {
        edge.says("Promise 32: the MINUTE in which the latest one got SAFE (NONE: none did)");
        edge.due("none did", -1, ten().planned(1));
        edge.due("in 4", 4, ten(2, 1).planned(1));
        edge.due("the later of two", 5, ten(2, 1, 3, 1).planned(1));
        edge.due("the later of two, told first", 5, ten(3, 1, 2, 1).planned(1));
        edge.due("who comes when it is full is not SAFE", 4, ten(2, 4, 3, 1).planned(1));
        QuickestOut x = new QuickestOut();
        x.place(1, 1, 0, 0);
        edge.due("in minute 0", 0, x.planned(1));
        x.set(0, 2, 20);
        edge.due("in minute 20", 20, x.planned(1));
        x.set(0, 1, 0);
        edge.due("no room", -1, x.planned(1));
    }

    private static void thereRange() {
        edge.says("Promise 33: of a PLACE as a MINUTE (0 to 50) ends");
        QuickestOut x = ten(2, 5, 3, 2);
        there(x, 0, 0, 0, 10, 0);
        there(x, 0, 1, 0, 10, 0);
        there(x, 0, 2, 0, 5, 0);
        there(x, 0, 3, 0, 3, 0);
        there(x, 1, 3, 0, 0, 0);
        there(x, 1, 4, 1, 0, 4);
        there(x, 1, 5, 3, 0, 4);
        there(x, 1, 50, 3, 0, 4);
        there(x, 0, 50, 0, 3, 0);
        there(x, 0, 0, 0, 10, 0);
    }

    private static void thereNoneSuch() {
        edge.says("Promise 33: NONE: there are none such (PLACE)");
        edge.outside("place", () -> ten(2, 5), Edge.to(0, 1), -1, (x, v) -> x.there(v, 0, 1));
        edge.refused("of none", Edge::none, -1, x -> x.there(0, 0, 0));
        edge.says("Promise 33: NONE: there are none such (MINUTE)");
        edge.outside("minute", () -> ten(2, 5), Edge.to(0, 50), -1, (x, v) -> x.there(0, v, 1));
        edge.says("Promise 33: NONE: there are none such (another what)");
        edge.outside("what", () -> ten(2, 5), Edge.to(0, 2), -1, (x, v) -> x.there(1, 50, v));
        edge.says("Promise 33: NONE: the PLAN goes not so far as that MINUTE's end");
        for (int minute : new int[] {2, 3, 49, 50}) {
            edge.refused("minute " + minute + " behind a wrong move in 2", () -> ten(2, 6), -1, x -> x.there(0, minute, 1));
        }
        edge.refused("the last one ahead of it", () -> ten(2, 6), 10, x -> x.there(0, 1, 1));
    }
}
