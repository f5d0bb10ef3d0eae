/** The boundary cases of Term 2 and of promises 20 to 29: what would be. */
public final class EdgeWouldBeTest {
    private static final Edge edge = new Edge();

    public static void main(String[] args) {
        shut();
        widerRange();
        widerNotBelowNone();
        widerNoneSuch();
        turnedRange();
        turnedNoneSuch();
        bestTurnNone();
        bestTurnOnlyIfLess();
        bestTurnAheadOfNone();
        bestTurnOfSeveral();
        bestTurnWhat();
        turnsAtMostFour();
        turnsNoneSuch();
        turnsRows();
        turnsAboveNine();
        turnsOfSeveral();
        turnsOneByOne();
        turnsAheadOfNone();
        roomy();
        bestRange();
        bestCapped();
        bestOfSeveral();
        latestRange();
        latestNone();
        worstNone();
        worstOfSeveral();
        lacksRange();
        lacksNone();
        lacksNoneSuch();
        edge.end("EdgeWouldBeTest");
    }

    /** People at 0, a shelter for 300 at 1, a road of a minute between them. */
    private static QuickestOut simple(int people, int there, int back) {
        QuickestOut x = new QuickestOut();
        x.place(people, 0, 0, 0);
        x.place(0, 300, 0, 0);
        x.road(0, 1, 1, there, back);
        return x;
    }

    private static QuickestOut twelve() {
        return simple(12, 2, 1);
    }

    /** 18 lanes there, none back. */
    private static QuickestOut eighteen() {
        QuickestOut x = simple(36, 9, 9);
        x.turn(0, 9);
        return x;
    }

    /** A question that is answered: what it says, and all stays as it was. */
    private static void asked(String call, Edge.Maker maker, long want, Edge.Call question) {
        edge.refused(call, maker, want, question);
    }

    // ---- Promise 20: shut

    private static void shut() {
        edge.says("Promise 20: without a ROAD; -2: there are none such");
        edge.outside("shut", EdgeWouldBeTest::twelve, Edge.to(0, 0), -2, QuickestOut::shut);
        edge.outside("shut", Edge::full, Edge.to(0, 11), -2, QuickestOut::shut);
        edge.refused("shut(0) of none", Edge::none, -2, x -> x.shut(0));
        edge.says("Promise 20: NONE: by none");
        asked("shut(0), the only one", EdgeWouldBeTest::twelve, -1, x -> x.shut(0));
        edge.says("Promise 20: QUICKEST then");
        Edge.Maker two = () -> {
            QuickestOut x = twelve();
            x.road(1, 0, 1, 0, 4);
            return x;
        };
        asked("shut(0)", two, 3, x -> x.shut(0));
        asked("shut(1), the last one", two, 6, x -> x.shut(1));
        asked("shut(11) of twelve", EdgeWouldBeTest::twelveRoads, 1, x -> x.shut(11));
        // Where the road was no use, the number is as it is: 0 is no NONE.
        QuickestOut nobody = simple(0, 1, 1);
        edge.due("shut(0) with nobody", 0, nobody.shut(0));
    }

    /** Twelve roads, each with a lane back from place 1 to 0. */
    private static QuickestOut twelveRoads() {
        QuickestOut x = new QuickestOut();
        x.place(11, 0, 0, 0);
        x.place(0, 300, 0, 0);
        for (int i = 0; i < 12; i++) {
            x.road(0, 1, 1, 1, 1);
        }
        return x;
    }

    /** Of twelve roads the last leads to the shelter by one lane, the last but one would BACK, the others are long. */
    private static QuickestOut lastOnly() {
        QuickestOut x = new QuickestOut();
        x.place(12, 0, 0, 0);
        x.place(0, 300, 0, 0);
        for (int i = 0; i < 10; i++) {
            x.road(1, 0, 9, 1, 0);
        }
        x.road(1, 0, 1, 1, 0);
        x.road(0, 1, 1, 1, 0);
        return x;
    }

    // ---- Promise 21: wider

    private static void widerRange() {
        edge.says("Promise 21: k -9 to 30");
        // 36 by 9 lanes take till 4, by 8 till 5; by 48 lanes till 1.
        edge.outside("k", EdgeWouldBeTest::eighteen, Edge.to(-9, 30), -2, (x, v) -> x.wider(0, false, v));
        asked("k -9", EdgeWouldBeTest::eighteen, 4, x -> x.wider(0, false, -9));
        asked("k 30", EdgeWouldBeTest::eighteen, 1, x -> x.wider(0, false, 30));
        asked("k 0", EdgeWouldBeTest::eighteen, 2, x -> x.wider(0, false, 0));
        asked("k 18", EdgeWouldBeTest::eighteen, 1, x -> x.wider(0, false, 18));
        asked("k 17", EdgeWouldBeTest::eighteen, 2, x -> x.wider(0, false, 17));
        edge.outside("k BACK", EdgeWouldBeTest::eighteen, Edge.to(0, 30), -2, (x, v) -> x.wider(0, true, v));
        asked("k BACK 30", EdgeWouldBeTest::eighteen, 2, x -> x.wider(0, true, 30));
    }

    private static void widerNotBelowNone() {
        edge.says("Promise 21: neither below 0");
        asked("THERE 0", EdgeWouldBeTest::twelve, -1, x -> x.wider(0, false, -2));
        edge.refused("THERE below 0", EdgeWouldBeTest::twelve, -2, x -> x.wider(0, false, -3));
        asked("BACK 0", EdgeWouldBeTest::twelve, 6, x -> x.wider(0, true, -1));
        edge.refused("BACK below 0", EdgeWouldBeTest::twelve, -2, x -> x.wider(0, true, -2));
        asked("both 0", () -> simple(12, 2, 0), -1, x -> x.wider(0, false, -2));
    }

    private static void widerNoneSuch() {
        edge.says("Promise 21: -2: there are none such (ROAD)");
        edge.outside("road", EdgeWouldBeTest::twelve, Edge.to(0, 0), -2, (x, v) -> x.wider(v, false, 0));
        edge.outside("road BACK", Edge::full, Edge.to(0, 11), -2, (x, v) -> x.wider(v, true, 0));
        edge.refused("of none", Edge::none, -2, x -> x.wider(0, false, 0));
        asked("the last of twelve", EdgeWouldBeTest::twelveRoads, 1, x -> x.wider(11, false, -1));
        asked("THERE of the last of twelve", EdgeWouldBeTest::lastOnly, 3, x -> x.wider(11, false, 3));
        asked("BACK of the last of twelve", EdgeWouldBeTest::lastOnly, 12, x -> x.wider(11, true, 3));
        asked("BACK of the last but one", EdgeWouldBeTest::lastOnly, 3, x -> x.wider(10, true, 3));
        asked("THERE of the last but one", EdgeWouldBeTest::lastOnly, 12, x -> x.wider(10, false, 3));
    }

    // ---- Promise 22: turned

    private static void turnedRange() {
        edge.says("Promise 22: were k LANES turned; Term 2: neither may be below 0");
        edge.outside("k", EdgeWouldBeTest::twelve, Edge.to(-2, 1), -2, (x, v) -> x.turned(0, v));
        asked("k -2", EdgeWouldBeTest::twelve, -1, x -> x.turned(0, -2));
        asked("k -1", EdgeWouldBeTest::twelve, 12, x -> x.turned(0, -1));
        asked("k 1", EdgeWouldBeTest::twelve, 4, x -> x.turned(0, 1));
        edge.outside("k of 18 there", EdgeWouldBeTest::eighteen, Edge.to(-18, -1), -2, (x, v) -> x.turned(0, v));
        asked("k -18", EdgeWouldBeTest::eighteen, -1, x -> x.turned(0, -18));
        asked("k -17", EdgeWouldBeTest::eighteen, 36, x -> x.turned(0, -17));
        edge.says("Term 2: they may be above 9");
        asked("k 9 of 9 and 9", () -> simple(36, 9, 9), 2, x -> x.turned(0, 9));
        edge.refused("k 10 of 9 and 9", () -> simple(36, 9, 9), -2, x -> x.turned(0, 10));
        edge.says("Promise 22: k 0: there are none such");
        edge.refused("k 0", EdgeWouldBeTest::twelve, -2, x -> x.turned(0, 0));
    }

    private static void turnedNoneSuch() {
        edge.says("Promise 22: -2: there are none such (ROAD)");
        edge.outside("road", EdgeWouldBeTest::twelve, Edge.to(0, 0), -2, (x, v) -> x.turned(v, 1));
        edge.refused("of none", Edge::none, -2, x -> x.turned(0, 1));
        asked("the last of twelve", EdgeWouldBeTest::twelveRoads, 1, x -> x.turned(11, 1));
        edge.refused("one behind it", EdgeWouldBeTest::twelveRoads, -2, x -> x.turned(12, 1));
    }

    // ---- Promise 23: bestTurn

    private static void best(String town, Edge.Maker maker, int quickest, int road, int k) {
        asked(town + ": QUICKEST", maker, quickest, x -> x.bestTurn(0));
        asked(town + ": the ROAD", maker, road, x -> x.bestTurn(1));
        asked(town + ": k", maker, k, x -> x.bestTurn(2));
    }

    private static void bestTurnNone() {
        edge.says("Promise 23: -2: there is none");
        best("no places", Edge::none, -2, -2, -2);
        best("no roads", () -> {
            QuickestOut x = new QuickestOut();
            x.place(1, 0, 0, 0);
            return x;
        }, -2, -2, -2);
        best("no lanes back to turn", () -> simple(12, 2, 0), -2, -2, -2);
        best("NONE by every turn", () -> {
            QuickestOut x = simple(12, 0, 3);
            x.set(1, 1, 11);
            return x;
        }, -2, -2, -2);
        best("in minute 0 already", () -> {
            QuickestOut x = simple(5, 1, 1);
            x.set(0, 1, 5);
            return x;
        }, -2, -2, -2);
    }

    private static void bestTurnOnlyIfLess() {
        edge.says("Term 2: it counts only if QUICKEST is less than as it is");
        // 12 by 4 lanes take till 3, by 5 too, by 6 till 2.
        best("by one it is the same", () -> simple(12, 4, 1), -2, -2, -2);
        best("by two it is less", () -> simple(12, 4, 2), 2, 0, 2);
    }

    private static void bestTurnAheadOfNone() {
        edge.says("Term 2: a number ahead of NONE");
        best("NONE as it is", () -> simple(12, 0, 1), 12, 0, 1);
        best("by 40 just so", () -> simple(40, 0, 1), 40, 0, 1);
        best("41 can't", () -> simple(41, 0, 1), -2, -2, -2);
        edge.says("Term 2: all k, to the last LANE");
        best("all 18 lanes", () -> {
            QuickestOut x = simple(18, 9, 9);
            x.turn(0, -9);
            return x;
        }, 1, 0, 18);
        best("all 18 lanes the other way", () -> {
            QuickestOut x = new QuickestOut();
            x.place(0, 300, 0, 0);
            x.place(18, 0, 0, 0);
            x.road(0, 1, 1, 9, 9);
            x.turn(0, 9);
            return x;
        }, 1, 0, -18);
    }

    private static void bestTurnOfSeveral() {
        edge.says("Term 2: of several the least size of k");
        best("12 by 6 lanes, by 7 too", () -> simple(12, 4, 4), 2, 0, 2);
        edge.says("Term 2: the least size of k ahead of the least ROAD");
        // By road 0, which takes 2 minutes, two lanes are wanted, by road 1 one.
        best("the later road", () -> {
            QuickestOut x = new QuickestOut();
            x.place(2, 0, 0, 0);
            x.place(0, 9, 0, 0);
            x.road(0, 1, 2, 0, 2);
            x.road(1, 0, 1, 1, 0);
            return x;
        }, 2, 1, -1);
        edge.says("Term 2: then the least ROAD");
        best("the first road, though its k is below 0", () -> {
            QuickestOut x = new QuickestOut();
            x.place(12, 0, 0, 0);
            x.place(0, 300, 0, 0);
            x.road(0, 1, 1, 3, 0);
            x.road(1, 0, 1, 1, 0);
            x.road(0, 1, 1, 0, 1);
            return x;
        }, 3, 1, -1);
        edge.says("Term 2: by which QUICKEST is least, ahead of the size");
        best("three lanes are better than one", () -> {
            QuickestOut x = simple(12, 2, 1);
            x.road(0, 1, 1, 0, 4);
            return x;
        }, 2, 1, 4);
        edge.says("Term 2: of all ROADS, the last one too");
        // 42 by twelve lanes take till 4, by the 21 with nine turned till 2.
        best("the last of twelve roads", () -> {
            QuickestOut x = new QuickestOut();
            x.place(42, 0, 0, 0);
            x.place(0, 300, 0, 0);
            for (int i = 0; i < 12; i++) {
                x.road(0, 1, 1, 1, i == 11 ? 9 : 0);
            }
            return x;
        }, 2, 11, 9);
    }

    private static void bestTurnWhat() {
        edge.says("Promise 23: -2: another what");
        edge.outside("what", () -> simple(12, 4, 2), Edge.to(0, 2), -2, QuickestOut::bestTurn);
    }

    // ---- Promise 24: turns

    private static void turnsAtMostFour() {
        edge.says("Term 2: TURNS of a set of ROADS (4 at most); Promise 24, -2: more than 4");
        for (int set : new int[] {0, 1, 15, 0b111100000000, 0b100100000110, 1 << 11}) {
            asked("set " + set, EdgeWouldBeTest::twelveRoads, 1, x -> x.turns(set, 0));
            asked("set " + set, EdgeWouldBeTest::twelveRoads, 0, x -> x.turns(set, 1));
        }
        for (int set : new int[] {31, 0b111110000000, 0b101010101000, 0b111111111111, 0b100000001111}) {
            edge.refused("set " + set, EdgeWouldBeTest::twelveRoads, -2, x -> x.turns(set, 0));
            edge.refused("set " + set, EdgeWouldBeTest::twelveRoads, -2, x -> x.turns(set, 1));
        }
    }

    private static void turnsNoneSuch() {
        edge.says("Promise 24: -2: there are none such");
        for (int set : new int[] {2, 3, 4, 1 << 12, 1 << 30, Edge.LOWEST, -1, Edge.HIGHEST, -2, 1 << 16, 1 | 1 << 31}) {
            edge.refused("set " + set + " of one road", EdgeWouldBeTest::twelve, -2, x -> x.turns(set, 0));
            edge.refused("set " + set + " of one road", EdgeWouldBeTest::twelve, -2, x -> x.turns(set, 1));
        }
        edge.refused("set 4096 of twelve", EdgeWouldBeTest::twelveRoads, -2, x -> x.turns(4096, 0));
        edge.refused("set 1 of none", Edge::none, -2, x -> x.turns(1, 0));
        edge.says("Promise 24: the set of none is one");
        asked("set 0 of none", Edge::none, 0, x -> x.turns(0, 0));
        asked("row of set 0 of none", Edge::none, 0, x -> x.turns(0, 1));
        asked("set 0", EdgeWouldBeTest::twelve, 6, x -> x.turns(0, 0));
        edge.says("Promise 24: -2: another what");
        edge.outside("what", EdgeWouldBeTest::twelve, Edge.to(0, 1), -2, (x, v) -> x.turns(1, v));
        edge.outside("what of set 0", EdgeWouldBeTest::twelve, Edge.to(0, 1), -2, (x, v) -> x.turns(0, v));
    }

    /** Four roads with a lane each against those who leave: by all of them turned they are out in 1. */
    private static QuickestOut four(int people, boolean fromA) {
        QuickestOut x = new QuickestOut();
        x.place(people, 0, 0, 0);
        x.place(0, 300, 0, 0);
        for (int i = 0; i < 4; i++) {
            x.road(fromA ? 0 : 1, fromA ? 1 : 0, 1, fromA ? 0 : 1, fromA ? 1 : 0);
        }
        return x;
    }

    private static void turnsRows() {
        edge.says("Promise 24: the row as digits to the base 3, that of the least ROAD the highest");
        asked("all THERE", () -> four(4, true), 40, x -> x.turns(15, 1));
        asked("all THERE: QUICKEST", () -> four(4, true), 1, x -> x.turns(15, 0));
        asked("all BACK", () -> four(4, false), 80, x -> x.turns(15, 1));
        asked("all BACK: QUICKEST", () -> four(4, false), 1, x -> x.turns(15, 0));
        asked("two of them, the first and the last", () -> four(2, true), 4, x -> x.turns(9, 1));
        asked("two of them BACK", () -> four(2, false), 8, x -> x.turns(6, 1));
        asked("one of them", () -> four(1, false), 2, x -> x.turns(8, 1));
        Edge.Maker mixed = () -> {
            QuickestOut x = new QuickestOut();
            x.place(2, 0, 0, 0);
            x.place(0, 300, 0, 0);
            x.road(0, 1, 1, 0, 1);
            x.road(0, 1, 1, 0, 1);
            x.road(1, 0, 1, 1, 0);
            return x;
        };
        asked("THERE and BACK", mixed, 3 + 2, x -> x.turns(5, 1));
        asked("the least row of three such", mixed, 3 + 2, x -> x.turns(7, 1));
        asked("without the last one", mixed, 3 + 1, x -> x.turns(3, 1));
    }

    private static void turnsAboveNine() {
        edge.says("Term 2: all LANES THERE, or all BACK (they may be above 9)");
        asked("18 LANES THERE", () -> simple(18, 9, 9), 1, x -> x.turns(1, 0));
        asked("18 LANES THERE, one more", () -> simple(19, 9, 9), 2, x -> x.turns(1, 0));
        asked("its row", () -> simple(18, 9, 9), 1, x -> x.turns(1, 1));
        Edge.Maker back = () -> {
            QuickestOut x = new QuickestOut();
            x.place(0, 300, 0, 0);
            x.place(18, 0, 0, 0);
            x.road(0, 1, 1, 9, 9);
            return x;
        };
        asked("18 LANES BACK", back, 1, x -> x.turns(1, 0));
        asked("its row", back, 2, x -> x.turns(1, 1));
        edge.says("Term 2: all LANES THERE, where they are so already, is as it is");
        asked("its row", EdgeWouldBeTest::eighteen, 0, x -> x.turns(1, 1));
        asked("QUICKEST", EdgeWouldBeTest::eighteen, 2, x -> x.turns(1, 0));
    }

    private static void turnsOfSeveral() {
        edge.says("Term 2: of several by which fewest are not 0");
        asked("as it is", () -> simple(12, 4, 1), 0, x -> x.turns(1, 1));
        asked("one of four", () -> four(1, true), 1, x -> x.turns(15, 1));
        // By road 0 alone, as the greater one, or by roads 1 and 2 together: the row of these would be less.
        Edge.Maker one = () -> {
            QuickestOut x = new QuickestOut();
            x.place(2, 0, 0, 0);
            x.place(0, 300, 0, 0);
            x.road(0, 1, 1, 0, 2);
            x.road(0, 1, 1, 0, 1);
            x.road(0, 1, 1, 0, 1);
            return x;
        };
        asked("one ahead of two", one, 9, x -> x.turns(7, 1));
        asked("without it the two", one, 4, x -> x.turns(6, 1));
        edge.says("Term 2: of several the least row (by ROADS)");
        asked("the last two of four", () -> four(2, true), 4, x -> x.turns(15, 1));
        asked("the last one of three", () -> four(1, false), 2, x -> x.turns(7, 1));
    }

    private static void turnsOneByOne() {
        edge.says("Promise 24: each set by itself, whatever was asked before");
        QuickestOut x = four(4, true);
        int[] sets = {15, 0, 1, 15, 16, 0, 31, 9, 0};
        int[] rows = {40, 0, 1, 40, -2, 0, -2, 4, 0};
        int[] quickest = {1, -1, 4, 1, -2, -1, -2, 2, -1};
        for (int i = 0; i < sets.length; i++) {
            edge.due("row of set " + sets[i], rows[i], x.turns(sets[i], 1));
            edge.due("set " + sets[i], quickest[i], x.turns(sets[i], 0));
        }
    }

    private static void turnsAheadOfNone() {
        edge.says("Term 2: by which QUICKEST is least (a number ahead of NONE)");
        asked("NONE as it is", () -> simple(40, 0, 1), 40, x -> x.turns(1, 0));
        asked("its row", () -> simple(40, 0, 1), 1, x -> x.turns(1, 1));
        edge.says("Promise 24: NONE: by none");
        asked("NONE by every row", () -> simple(41, 0, 1), -1, x -> x.turns(1, 0));
        asked("the row then", () -> simple(41, 0, 1), 0, x -> x.turns(1, 1));
    }

    // ---- Promise 25: roomy

    private static QuickestOut sheltered() {
        QuickestOut x = new QuickestOut();
        x.place(60, 0, 0, 0);
        x.place(0, 30, 0, 0);
        x.place(0, 300, 0, 0);
        x.road(0, 1, 1, 9, 0);
        x.road(0, 2, 9, 9, 0);
        return x;
    }

    private static void roomy() {
        edge.says("Promise 25: were ROOM of a PLACE v (0 to 300)");
        edge.outside("v", EdgeWouldBeTest::sheltered, Edge.to(0, 300), -2, (x, v) -> x.roomy(1, v));
        // By 9 lanes 60 take 7 minutes; those for whom 1 has no room take 9 more.
        asked("v 0", EdgeWouldBeTest::sheltered, 15, x -> x.roomy(1, 0));
        asked("v 300", EdgeWouldBeTest::sheltered, 7, x -> x.roomy(1, 300));
        asked("v 60", EdgeWouldBeTest::sheltered, 7, x -> x.roomy(1, 60));
        asked("v 60 at home", EdgeWouldBeTest::sheltered, 0, x -> x.roomy(0, 60));
        asked("v 59 at home", EdgeWouldBeTest::sheltered, 1, x -> x.roomy(0, 59));
        asked("v as it is", EdgeWouldBeTest::sheltered, 12, x -> x.roomy(1, 30));
        edge.says("Promise 25: NONE: by none");
        asked("too little", EdgeWouldBeTest::sheltered, -1, x -> x.roomy(2, 29));
        asked("just enough", EdgeWouldBeTest::sheltered, 12, x -> x.roomy(2, 30));
        edge.says("Promise 25: -2: there are none such (PLACE)");
        edge.outside("place", EdgeWouldBeTest::sheltered, Edge.to(0, 2), -2, (x, v) -> x.roomy(v, 60));
        edge.refused("of none", Edge::none, -2, x -> x.roomy(0, 0));
    }

    // ---- Promise 26: best

    private static void bestRange() {
        edge.says("Promise 26: k more ROOM (1 to 300); -2: no such k");
        edge.outside("k", EdgeWouldBeTest::sheltered, Edge.to(1, 300), -2, QuickestOut::best);
        asked("k 1", EdgeWouldBeTest::lacking, 1, x -> x.best(1));
        asked("k 300", EdgeWouldBeTest::sheltered, 0, x -> x.best(300));
        edge.says("Promise 26: -2: there are no PLACES");
        edge.refused("best(1) of none", Edge::none, -2, x -> x.best(1));
        edge.refused("best(300) of none", Edge::none, -2, x -> x.best(300));
    }

    /** One has no room: by more of it at 1 he is out, by more at 0 nobody else is. */
    private static QuickestOut lacking() {
        QuickestOut x = new QuickestOut();
        x.place(0, 0, 0, 0);
        x.place(3, 2, 0, 0);
        return x;
    }

    private static void bestCapped() {
        edge.says("Promise 26: (300 at most)");
        // 480 want 480: were 0 to have more than 300, it would be the first by which they can.
        Edge.Maker most = () -> {
            QuickestOut x = new QuickestOut();
            for (int place = 0; place < 8; place++) {
                x.place(60, place == 0 ? 300 : place == 1 ? 60 : 0, 0, 0);
            }
            for (int place = 1; place < 8; place++) {
                x.road(place, 0, 1, 9, 0);
            }
            for (int place = 3; place < 8; place++) {
                x.road(place, 1, 1, 9, 0);
            }
            return x;
        };
        asked("best(120)", most, 1, x -> x.best(120));
        asked("best(119): by none", most, 0, x -> x.best(119));
        // To 300 it may go: from 180 by 120, and by 300 no further.
        Edge.Maker nearly = () -> {
            QuickestOut x = most.make();
            x.set(0, 1, 180);
            x.set(1, 1, 180);
            return x;
        };
        asked("best(120) to just 300", nearly, 0, x -> x.best(120));
        asked("best(300) to 300 all the same", nearly, 0, x -> x.best(300));
        asked("best(119): by none", nearly, 0, x -> x.best(119));
    }

    private static void bestOfSeveral() {
        edge.says("Promise 26: makes QUICKEST least, of several the first");
        Edge.Maker two = () -> {
            QuickestOut x = new QuickestOut();
            x.place(4, 0, 0, 0);
            x.place(0, 4, 0, 0);
            x.place(0, 0, 0, 0);
            x.place(0, 0, 0, 0);
            x.road(0, 1, 3, 4, 0);
            x.road(0, 2, 2, 4, 0);
            x.road(0, 3, 2, 4, 0);
            x.set(0, 2, 1);
            return x;
        };
        asked("0 by 4, at once", two, 0, x -> x.best(4));
        Edge.Maker later = () -> {
            QuickestOut x = two.make();
            x.set(0, 0, 10);
            x.set(1, 1, 10);
            return x;
        };
        // 10 by 4 lanes to 1 are out in 6; 5 of them with 5 more at 0 in 5, at 2 or 3 in 5 too.
        asked("as it is", later, 6, QuickestOut::quickest);
        asked("the first of equals", later, 0, x -> x.best(5));
        // The last PLACE is near to both homes.
        Edge.Maker near = () -> {
            QuickestOut x = new QuickestOut();
            x.place(4, 0, 0, 0);
            x.place(4, 0, 0, 0);
            x.place(0, 8, 0, 0);
            x.place(0, 0, 0, 0);
            for (int home = 0; home < 2; home++) {
                x.road(home, 2, 5, 4, 0);
                x.road(home, 3, 1, 4, 0);
            }
            return x;
        };
        asked("least by the last PLACE", near, 3, x -> x.best(8));
        asked("with one more it is no matter where", near, 0, x -> x.best(1));
        asked("in 0 by the later PLACE, in 1 by the first", () -> {
            QuickestOut x = new QuickestOut();
            x.place(0, 0, 0, 0);
            x.place(4, 0, 0, 0);
            x.road(1, 0, 1, 4, 0);
            return x;
        }, 1, x -> x.best(4));
        asked("the first of two such", () -> {
            QuickestOut x = near.make();
            x.place(0, 0, 0, 0);
            x.road(0, 4, 1, 4, 0);
            x.road(1, 4, 1, 4, 0);
            return x;
        }, 3, x -> x.best(8));
        edge.says("Promise 26: a number ahead of NONE; by none: the first");
        asked("the only one by which they can", EdgeWouldBeTest::lacking, 1, x -> x.best(1));
        Edge.Maker never = () -> {
            QuickestOut x = lacking();
            x.place(2, 0, 0, 0);
            return x;
        };
        asked("by none", never, 0, x -> x.best(1));
        asked("by none, with much more", never, 0, x -> x.best(300));
    }

    // ---- Promise 27: latest

    /** One at 0 takes so many minutes from BEGINS on; nobody at 2. */
    private static QuickestOut walker(int begins, int minutes) {
        QuickestOut x = new QuickestOut();
        x.place(1, 0, begins, 0);
        x.place(0, 9, 0, 0);
        x.place(0, 0, 5, 0);
        x.place(1, 0, 20, 0);
        x.road(0, 1, minutes, 1, 0);
        x.road(3, 1, 9, 1, 0);
        return x;
    }

    private static void latestRange() {
        edge.says("Promise 27: the greatest BEGINS by which QUICKEST is no more than it is");
        // He of 3 is out in 29, so he of 0 may begin in 29 - 9; were he to take more, no later than he does.
        asked("just 20", () -> walker(0, 9), 20, x -> x.latest(0));
        asked("the one by whom it is 29", () -> walker(0, 9), 20, x -> x.latest(3));
        edge.says("Promise 27: BEGINS (0 to 20)");
        asked("20, though 28 would do", () -> walker(0, 1), 20, x -> x.latest(0));
        asked("nobody there", () -> walker(0, 1), 20, x -> x.latest(2));
        asked("20 as it is", () -> walker(20, 1), 20, x -> x.latest(0));
        edge.says("Promise 27: as it is, where no later one does");
        Edge.Maker alone = () -> {
            QuickestOut x = walker(0, 3);
            x.set(3, 0, 0);
            return x;
        };
        asked("0", alone, 0, x -> x.latest(0));
        asked("1", () -> {
            QuickestOut x = alone.make();
            x.set(0, 2, 1);
            return x;
        }, 1, x -> x.latest(0));
        asked("19", () -> {
            QuickestOut x = alone.make();
            x.set(0, 2, 19);
            return x;
        }, 19, x -> x.latest(0));
        asked("a minute later than it is", () -> {
            QuickestOut x = alone.make();
            x.set(3, 0, 1);
            x.set(3, 2, 0);
            x.set(0, 2, 5);
            return x;
        }, 6, x -> x.latest(0));
        edge.says("Promise 27: -2: there are none such");
        edge.outside("place", () -> walker(0, 9), Edge.to(0, 3), -2, QuickestOut::latest);
        edge.refused("of none", Edge::none, -2, x -> x.latest(0));
    }

    private static void latestNone() {
        edge.says("Promise 27: NONE: there is no QUICKEST");
        Edge.Maker stuck = () -> {
            QuickestOut x = walker(0, 9);
            x.set(1, 1, 1);
            return x;
        };
        for (int p = 0; p < 4; p++) {
            int place = p;
            asked("latest(" + p + ")", stuck, -1, x -> x.latest(place));
        }
        edge.says("Promise 27: QUICKEST 0 is one");
        asked("latest(0) of nobody", () -> simple(0, 1, 1), 20, x -> x.latest(0));
        asked("latest(0) at once", () -> {
            QuickestOut x = simple(1, 1, 1);
            x.set(0, 1, 1);
            return x;
        }, 0, x -> x.latest(0));
    }

    // ---- Promise 28: worst

    private static void worstNone() {
        edge.says("Promise 28: -2: there are no ROADS");
        edge.refused("worst() of none", Edge::none, -2, QuickestOut::worst);
        edge.refused("worst() of places alone", EdgeWouldBeTest::lacking, -2, QuickestOut::worst);
        QuickestOut x = twelve();
        edge.due("worst() with one", 0, x.worst());
        x.drop();
        edge.due("worst() when it is gone", -2, x.worst());
    }

    private static void worstOfSeveral() {
        edge.says("Promise 28: without which QUICKEST is greatest, of several the first");
        asked("all alike", EdgeWouldBeTest::twelveRoads, 0, QuickestOut::worst);
        asked("the last of twelve", () -> {
            QuickestOut x = twelveRoads();
            x.turn(11, 1);
            x.set(0, 0, 12);
            return x;
        }, 11, QuickestOut::worst);
        asked("two alike", () -> {
            QuickestOut x = twelveRoads();
            x.turn(11, 1);
            x.turn(5, 1);
            x.set(0, 0, 13);
            return x;
        }, 5, QuickestOut::worst);
        edge.says("Promise 28: NONE ahead of any number");
        Edge.Maker needed = () -> {
            QuickestOut x = simple(39, 1, 0);
            x.place(1, 0, 0, 0);
            x.road(2, 1, 1, 1, 0);
            x.road(2, 1, 1, 1, 0);
            x.road(0, 1, 2, 1, 0);
            return x;
        };
        // Without road 0 the 39 take till 40, without road 3 till 39.
        asked("40 is the greatest number", needed, 0, QuickestOut::worst);
        asked("NONE is more", () -> {
            QuickestOut x = needed.make();
            x.place(1, 0, 0, 0);
            x.road(3, 1, 1, 1, 0);
            return x;
        }, 4, QuickestOut::worst);
        asked("the first of two NONE", () -> {
            QuickestOut x = needed.make();
            x.place(1, 0, 0, 0);
            x.road(3, 1, 1, 1, 0);
            x.place(1, 0, 0, 0);
            x.road(4, 1, 1, 1, 0);
            return x;
        }, 4, QuickestOut::worst);
        asked("NONE as it is: the first", () -> {
            QuickestOut x = needed.make();
            x.place(1, 0, 0, 0);
            return x;
        }, 0, QuickestOut::worst);
    }

    // ---- Promise 29: lacks

    private static void lacksRange() {
        edge.says("Promise 29: the fewest LANES more (0 to 30)");
        asked("0: all can as it is", EdgeWouldBeTest::twelve, 0, x -> x.lacks(6, 0, false));
        asked("0 BACK", EdgeWouldBeTest::twelve, 0, x -> x.lacks(6, 0, true));
        asked("1", EdgeWouldBeTest::twelve, 1, x -> x.lacks(5, 0, false));
        asked("10", EdgeWouldBeTest::twelve, 10, x -> x.lacks(1, 0, false));
        asked("29", () -> simple(31, 2, 0), 29, x -> x.lacks(1, 0, false));
        asked("30", () -> simple(32, 2, 0), 30, x -> x.lacks(1, 0, false));
        edge.says("Promise 29: THERE, or BACK");
        Edge.Maker back = () -> {
            QuickestOut x = new QuickestOut();
            x.place(0, 300, 0, 0);
            x.place(32, 0, 0, 0);
            x.road(0, 1, 1, 5, 2);
            return x;
        };
        asked("30 BACK", back, 30, x -> x.lacks(1, 0, true));
        asked("THERE is no help", back, -1, x -> x.lacks(1, 0, false));
        asked("THERE of the last of twelve", EdgeWouldBeTest::lastOnly, 3, x -> x.lacks(3, 11, false));
        asked("BACK of the last of twelve", EdgeWouldBeTest::lastOnly, -1, x -> x.lacks(3, 11, true));
        asked("BACK of the last but one", EdgeWouldBeTest::lastOnly, 3, x -> x.lacks(3, 10, true));
        asked("THERE of the last but one", EdgeWouldBeTest::lastOnly, -1, x -> x.lacks(3, 10, false));
        edge.says("Promise 29: beside 18 LANES");
        asked("18 and 18", EdgeWouldBeTest::eighteen, 18, x -> x.lacks(1, 0, false));
    }

    private static void lacksNone() {
        edge.says("Promise 29: NONE: by none so many");
        asked("31", () -> simple(33, 2, 0), -1, x -> x.lacks(1, 0, false));
        asked("too early for any", EdgeWouldBeTest::twelve, -1, x -> x.lacks(0, 0, false));
        asked("too little room", () -> {
            QuickestOut x = twelve();
            x.set(1, 1, 11);
            return x;
        }, -1, x -> x.lacks(40, 0, false));
        asked("another road is wanted", () -> {
            QuickestOut x = twelve();
            x.place(1, 0, 0, 0);
            return x;
        }, -1, x -> x.lacks(40, 0, false));
    }

    private static void lacksNoneSuch() {
        edge.says("Promise 29: -2: there are none such (T)");
        edge.outside("T", EdgeWouldBeTest::twelve, Edge.to(0, 40), -2, (x, v) -> x.lacks(v, 0, false));
        asked("T 40", () -> simple(40, 0, 1), 1, x -> x.lacks(40, 0, false));
        asked("T 0 with nobody", () -> simple(0, 1, 1), 0, x -> x.lacks(0, 0, false));
        edge.says("Promise 29: -2: there are none such (ROAD)");
        edge.outside("road", EdgeWouldBeTest::twelve, Edge.to(0, 0), -2, (x, v) -> x.lacks(40, v, true));
        edge.outside("road of twelve", Edge::full, Edge.to(0, 11), -2, (x, v) -> x.lacks(40, v, false));
        edge.refused("of none", Edge::none, -2, x -> x.lacks(0, 0, false));
    }
}
