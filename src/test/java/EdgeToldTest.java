import java.util.NoSuchElementException;

/** The boundary cases of promises 1 and 6 to 15, and of Terms 1 to 3 as far as they are told by calls. */
public final class EdgeToldTest {
    private static final Edge edge = new Edge();

    public static void main(String[] args) {
        newObject();
        lastCall();
        placeRanges();
        placesAtMost();
        roadEnds();
        roadRanges();
        lanesTogether();
        roadsAtMost();
        turnRanges();
        turnAboveNine();
        setRanges();
        setAsItIs();
        setNoneSuch();
        dropNone();
        dropWithMoves();
        moveRanges();
        movesAtMost();
        backBelowOne();
        backAboveAll();
        countWhat();
        ofNoneSuch();
        alongNoneSuch();
        edge.end("EdgeToldTest");
    }

    private static void newObject() {
        edge.says("Promise 1: No PLACES");
        QuickestOut before = Edge.full();
        QuickestOut x = new QuickestOut();
        for (int what = 0; what < 6; what++) {
            edge.due("count(" + what + ") of a new one, with another full", 0, x.count(what));
        }
        edge.due("fault()", 0, x.fault());
        edge.due("of(0, 0)", -1, x.of(0, 0));
        edge.due("along(0, 0)", Edge.THROWS, Check.along(x, 0, 0));
        edge.due("moved(0, 0)", -1, x.moved(0, 0));
        edge.due("the first place", 0, x.place(1, 1, 1, 1));
        edge.due("the other has its own", 8, before.count(0));
    }

    private static void lastCall() {
        edge.says("What it is: an object is used for at most 512 calls");
        QuickestOut x = Edge.few();
        int calls = 8;
        // Every other call is refused or takes back what the one ahead of it did.
        for (; calls < 510; calls += 2) {
            edge.due("call " + calls, calls % 4 == 0 ? 1 : 0, Edge.bit(x.turn(0, calls % 4 == 0 ? 1 : 2)));
            edge.due("call " + (calls + 1), calls % 4 == 0, x.turn(0, calls % 4 == 0 ? -1 : -4));
        }
        edge.due("made so far", 510, calls);
        edge.due("call 511", 3, Check.along(x, 0, 3));
        edge.due("call 512", 49, x.safe(40));
    }

    // ---- Promise 6: place

    private static void placeRanges() {
        edge.says("Term 1: PEOPLE 0 to 60; Promise 6, NONE: it can't be");
        edge.range("PEOPLE", Edge::some, Edge.to(0, 60), 3, -1, (x, v) -> x.place(v, 1, 1, 1));
        edge.says("Term 1: ROOM 0 to 300; Promise 6, NONE: it can't be");
        edge.range("ROOM", Edge::some, Edge.to(0, 300), 3, -1, (x, v) -> x.place(1, v, 1, 1));
        edge.says("Term 1: BEGINS 0 to 20; Promise 6, NONE: it can't be");
        edge.range("BEGINS", Edge::some, Edge.to(0, 20), 3, -1, (x, v) -> x.place(1, 1, v, 1));
        edge.says("Term 1: HOLD 0 to 300; Promise 6, NONE: it can't be");
        edge.range("HOLD", Edge::some, Edge.to(0, 300), 3, -1, (x, v) -> x.place(1, 1, 1, v));
        edge.says("Promise 6: all four at their least, at their most");
        QuickestOut x = new QuickestOut();
        edge.due("place(0, 0, 0, 0)", 0, x.place(0, 0, 0, 0));
        edge.due("place(60, 300, 20, 300)", 1, x.place(60, 300, 20, 300));
        int[] most = {60, 300, 20, 300};
        for (int what = 0; what < 4; what++) {
            edge.due("of(0, " + what + ")", 0, x.of(0, what));
            edge.due("of(1, " + what + ")", most[what], x.of(1, what));
        }
        edge.due("the next number behind refused ones", 2, refusedThen(x));
    }

    private static int refusedThen(QuickestOut x) {
        x.place(61, 0, 0, 0);
        x.place(0, 301, 0, 0);
        return x.place(0, 0, 0, 0);
    }

    private static void placesAtMost() {
        edge.says("Term 1: PLACES, at most 8, numbered from 0 on; Promise 6, -2: there are 8");
        QuickestOut x = new QuickestOut();
        for (int number = 0; number < 8; number++) {
            edge.due("place " + number, number, x.place(number, 0, 0, 0));
        }
        edge.due("count(0)", 8, x.count(0));
        edge.due("the last one is there", 7, x.of(7, 0));
        edge.refused("a ninth", Edge::full, -2, y -> y.place(0, 0, 0, 0));
        edge.refused("a ninth as great as can be", Edge::full, -2, y -> y.place(60, 300, 20, 300));
    }

    // ---- Promise 7: road

    private static void roadEnds() {
        edge.says("Term 1: from PLACE A; Promise 7, NONE: it can't be");
        edge.range("A", Edge::some, Edge.to(0, 2), 2, -1, (x, v) -> x.road(v, 1, 1, 1, 1));
        edge.says("Term 1: to B; Promise 7, NONE: it can't be");
        edge.range("B", Edge::some, Edge.to(0, 2), 2, -1, (x, v) -> x.road(1, v, 1, 1, 1));
        edge.says("Term 1: to another one B");
        for (int place = 0; place < 3; place++) {
            int a = place;
            edge.refused("B is A " + a, Edge::some, -1, x -> x.road(a, a, 1, 1, 1));
        }
        edge.says("Promise 7: NONE without PLACES, with one alone");
        edge.refused("without places", Edge::none, -1, x -> x.road(0, 1, 1, 1, 1));
        QuickestOut one = new QuickestOut();
        one.place(1, 1, 1, 1);
        edge.due("to a second one that is not there", -1, one.road(0, 1, 1, 1, 1));
        edge.due("from it", -1, one.road(1, 0, 1, 1, 1));
        one.place(1, 1, 1, 1);
        edge.due("when it is there", 0, one.road(0, 1, 1, 1, 1));
    }

    private static void roadRanges() {
        edge.says("Term 1: MINUTES 1 to 9; Promise 7, NONE: it can't be");
        edge.range("MINUTES", Edge::some, Edge.to(1, 9), 2, -1, (x, v) -> x.road(0, 1, v, 1, 1));
        edge.says("Term 1: LANES THERE 0 to 9; Promise 7, NONE: it can't be");
        edge.range("THERE", Edge::some, Edge.to(0, 9), 2, -1, (x, v) -> x.road(0, 1, 1, v, 1));
        edge.says("Term 1: LANES BACK 0 to 9; Promise 7, NONE: it can't be");
        edge.range("BACK", Edge::some, Edge.to(0, 9), 2, -1, (x, v) -> x.road(0, 1, 1, 1, v));
        edge.says("Promise 7: all at their most");
        QuickestOut x = Edge.some();
        edge.due("road(2, 1, 9, 9, 9)", 2, x.road(2, 1, 9, 9, 9));
        int[] told = {2, 1, 9, 9, 9};
        for (int what = 0; what < 5; what++) {
            edge.due("along(2, " + what + ")", told[what], Check.along(x, 2, what));
        }
    }

    private static void lanesTogether() {
        edge.says("Term 1: LANES together 1 or more");
        edge.refused("0 and 0", Edge::some, -1, x -> x.road(0, 1, 1, 0, 0));
        QuickestOut x = Edge.some();
        edge.due("1 and 0", 2, x.road(0, 1, 1, 1, 0));
        edge.due("0 and 1", 3, x.road(0, 1, 1, 0, 1));
        edge.refused("-1 and 2", Edge::some, -1, y -> y.road(0, 1, 1, -1, 2));
        edge.refused("2 and -1", Edge::some, -1, y -> y.road(0, 1, 1, 2, -1));
    }

    private static void roadsAtMost() {
        edge.says("Term 1: ROADS, at most 12, numbered likewise; Promise 7, -2: there are 12");
        QuickestOut x = new QuickestOut();
        x.place(0, 0, 0, 0);
        x.place(0, 0, 0, 0);
        for (int number = 0; number < 12; number++) {
            edge.due("road " + number, number, x.road(0, 1, 1, number % 10, 1));
        }
        edge.due("count(1)", 12, x.count(1));
        edge.due("the last one is there", 1, Check.along(x, 11, 3));
        edge.refused("a thirteenth", Edge::full, -2, y -> y.road(0, 1, 1, 1, 1));
        edge.due("drop()", 11, x.drop());
        edge.due("one goes again", 11, x.road(1, 0, 9, 9, 9));
        edge.due("and no more", -2, x.road(1, 0, 9, 9, 9));
    }

    // ---- Promise 8: turn (road 0 has 3 there and 1 back, road 1 has 0 and 9)

    private static void turnRanges() {
        edge.says("Term 2: neither may be below 0; Promise 8, false: they can't be");
        edge.range("k of road 0", Edge::some, Edge.to(-3, 1), 1, 0, (x, v) -> Edge.bit(x.turn(0, v)));
        edge.outside("k of road 1", Edge::some, Edge.to(1, 9), 0, (x, v) -> Edge.bit(x.turn(1, v)));
        edge.says("Promise 8: false: k 0");
        edge.refused("turn(0, 0)", Edge::some, 0, x -> Edge.bit(x.turn(0, 0)));
        edge.says("Promise 8: false: there is no such ROAD");
        edge.range("road", Edge::some, Edge.to(0, 1), 1, 0, (x, v) -> Edge.bit(x.turn(v, 1)));
        edge.refused("of none", Edge::none, 0, x -> Edge.bit(x.turn(0, 1)));
        edge.says("Promise 8: k LANES of a ROAD are turned");
        QuickestOut x = Edge.some();
        lanes(x, 3, 1);
        edge.due("turn(0, 1)", true, x.turn(0, 1));
        lanes(x, 4, 0);
        edge.due("turn(0, 1) with none BACK", false, x.turn(0, 1));
        edge.due("turn(0, -4)", true, x.turn(0, -4));
        lanes(x, 0, 4);
        edge.due("turn(0, -1) with none THERE", false, x.turn(0, -1));
        lanes(x, 0, 4);
        edge.due("the other road is as it was", 9, Check.along(x, 1, 4));
    }

    private static void lanes(QuickestOut x, int there, int back) {
        edge.due("THERE", there, Check.along(x, 0, 3));
        edge.due("BACK", back, Check.along(x, 0, 4));
    }

    private static void turnAboveNine() {
        edge.says("Term 2: they may be above 9");
        QuickestOut x = new QuickestOut();
        x.place(0, 0, 0, 0);
        x.place(0, 0, 0, 0);
        x.road(0, 1, 1, 9, 9);
        edge.due("turn(0, 10)", false, x.turn(0, 10));
        edge.due("turn(0, 1)", true, x.turn(0, 1));
        lanes(x, 10, 8);
        edge.due("turn(0, 8)", true, x.turn(0, 8));
        lanes(x, 18, 0);
        edge.due("turn(0, -19)", false, x.turn(0, -19));
        edge.due("turn(0, -18)", true, x.turn(0, -18));
        lanes(x, 0, 18);
        edge.due("turn(0, 19)", false, x.turn(0, 19));
        lanes(x, 0, 18);
    }

    // ---- Promise 9: set

    private static void setRanges() {
        int[] most = {60, 300, 20, 300};
        String[] names = {"PEOPLE 0 to 60", "ROOM 0 to 300", "BEGINS 0 to 20", "HOLD 0 to 300"};
        for (int i = 0; i < 4; i++) {
            int what = i;
            edge.says("Term 1: " + names[what] + "; Promise 9, false: it can't be");
            edge.outside("set", Edge::some, Edge.to(0, most[what]), 0, (x, v) -> Edge.bit(x.set(0, what, v)));
            QuickestOut x = new QuickestOut();
            x.place(1, 1, 1, 1);
            edge.due("set to 0", true, x.set(0, what, 0));
            edge.due("of", 0, x.of(0, what));
            edge.due("set to the most", true, x.set(0, what, most[what]));
            edge.due("of", most[what], x.of(0, what));
            edge.due("set to one more", false, x.set(0, what, most[what] + 1));
            edge.due("of", most[what], x.of(0, what));
            for (int other = 0; other < 4; other++) {
                edge.due("of the others", other == what ? most[what] : 1, x.of(0, other));
            }
        }
    }

    private static void setAsItIs() {
        edge.says("Promise 9: false: it is so");
        int[][] are = {{5, 0, 3, 7}, {2, 40, 0, 299}, {59, 9, 19, 1}};
        for (int p = 0; p < 3; p++) {
            for (int w = 0; w < 4; w++) {
                int place = p;
                int what = w;
                edge.refused("set(" + p + ", " + w + ", as it is)", Edge::some, 0,
                    x -> Edge.bit(x.set(place, what, are[place][what])));
            }
        }
        QuickestOut x = Edge.some();
        edge.due("set(1, 0, 3)", true, x.set(1, 0, 3));
        edge.due("set(1, 0, 3) again", false, x.set(1, 0, 3));
        edge.due("set(1, 0, 2) back", true, x.set(1, 0, 2));
        edge.same("set there and back", Edge.standing(Edge.some()), Edge.standing(x));
    }

    private static void setNoneSuch() {
        edge.says("Promise 9: false: it can't be (no such PLACE)");
        edge.range("place", Edge::some, Edge.to(0, 2), 1, 0, (x, v) -> Edge.bit(x.set(v, 0, 11)));
        edge.refused("of none", Edge::none, 0, x -> Edge.bit(x.set(0, 0, 1)));
        edge.says("Promise 9: false: it can't be (another what)");
        edge.range("what", Edge::some, Edge.to(0, 3), 1, 0, (x, v) -> Edge.bit(x.set(2, v, 11)));
    }

    // ---- Promise 10: drop

    private static void dropNone() {
        edge.says("Promise 10: NONE: there is none");
        edge.refused("drop()", Edge::none, -1, QuickestOut::drop);
        QuickestOut x = Edge.some();
        edge.due("drop()", 1, x.drop());
        edge.due("drop() of the last one", 0, x.drop());
        edge.due("drop() of none", -1, x.drop());
        edge.due("no roads", 0, x.count(1));
        edge.due("places stay", 3, x.count(0));
        QuickestOut full = Edge.full();
        for (int left = 11; left >= 0; left--) {
            edge.due("drop() to " + left, left, full.drop());
        }
        edge.due("drop() once more", -1, full.drop());
    }

    private static void dropWithMoves() {
        edge.says("Promise 10: the last ROAD goes, with its MOVES");
        QuickestOut x = Edge.some();
        x.drop();
        edge.due("two moves are left", 2, x.count(2));
        int[][] left = {{3, 0, 0, 2}, {4, 0, 1, 1}};
        for (int move = 0; move < 2; move++) {
            for (int what = 0; what < 4; what++) {
                edge.due("moved(" + move + ", " + what + ")", left[move][what], x.moved(move, what));
            }
        }
        edge.due("moved(2, 0)", -1, x.moved(2, 0));
        edge.due("along(1, 0)", Edge.THROWS, Check.along(x, 1, 0));
        edge.due("move on it", -1, x.move(0, 1, false, 1));
        edge.due("a road with its number", 1, x.road(2, 0, 5, 4, 3));
        edge.due("has no moves", 2, x.count(2));
        QuickestOut full = Edge.full();
        for (int i = 0; i < 12; i++) {
            full.drop();
        }
        edge.due("no roads, no moves", 0, full.count(2));
    }

    // ---- Promise 11: move

    private static void moveRanges() {
        edge.says("Term 3: a MINUTE 0 to 40; Promise 11, NONE: it can't be");
        edge.range("MINUTE", Edge::some, Edge.to(0, 40), 3, -1, (x, v) -> x.move(v, 0, false, 1));
        edge.says("Term 3: a ROAD; Promise 11, NONE: it can't be");
        edge.range("ROAD", Edge::some, Edge.to(0, 1), 3, -1, (x, v) -> x.move(0, v, true, 1));
        edge.refused("of none", Edge::none, -1, x -> x.move(0, 0, false, 1));
        edge.says("Term 3: how many 1 to 60; Promise 11, NONE: it can't be");
        edge.range("how many", Edge::some, Edge.to(1, 60), 3, -1, (x, v) -> x.move(0, 0, false, v));
        edge.says("Promise 11: all at their most");
        QuickestOut x = Edge.some();
        edge.due("move(40, 1, true, 60)", 3, x.move(40, 1, true, 60));
        int[] told = {40, 1, 1, 60};
        for (int what = 0; what < 4; what++) {
            edge.due("moved(3, " + what + ")", told[what], x.moved(3, what));
        }
    }

    private static void movesAtMost() {
        edge.says("Term 3: MOVES, at most 40; Promise 11, -2: there are 40");
        QuickestOut x = new QuickestOut();
        x.place(0, 0, 0, 0);
        x.place(0, 0, 0, 0);
        x.road(0, 1, 1, 1, 1);
        for (int number = 0; number < 40; number++) {
            edge.due("move " + number, number, x.move(number, 0, false, 1));
        }
        edge.due("count(2)", 40, x.count(2));
        edge.due("the last one is there", 39, x.moved(39, 0));
        edge.refused("a forty-first", Edge::full, -2, y -> y.move(0, 0, false, 1));
        edge.due("back(1)", 39, x.back(1));
        edge.due("one goes again", 39, x.move(7, 0, true, 2));
        edge.due("and no more", -2, x.move(7, 0, true, 2));
    }

    // ---- Promise 12: back

    private static void backBelowOne() {
        edge.says("Promise 12: NONE: n is below 1");
        for (int n : new int[] {0, -1, Edge.LOWEST}) {
            edge.refused("back(" + n + ")", Edge::some, -1, x -> x.back(n));
        }
        edge.refused("back(0) of none", Edge::none, -1, x -> x.back(0));
        QuickestOut x = Edge.some();
        edge.due("back(1)", 2, x.back(1));
        edge.due("the last one left", 39, x.moved(1, 0));
        edge.due("the gone one", -1, x.moved(2, 0));
        edge.due("roads stay", 2, x.count(1));
    }

    private static void backAboveAll() {
        edge.says("Promise 12: the last n MOVES go (all: n is above that)");
        int[] left = {2, 1, 0, 0, 0};
        int[] ns = {1, 2, 3, 4, Edge.HIGHEST};
        for (int i = 0; i < ns.length; i++) {
            QuickestOut x = Edge.some();
            edge.due("back(" + ns[i] + ") of 3", left[i], x.back(ns[i]));
            edge.due("count(2)", left[i], x.count(2));
        }
        edge.due("back(1) of none", 0, Edge.none().back(1));
        edge.due("back(39) of 40", 1, Edge.full().back(39));
        edge.due("back(40) of 40", 0, Edge.full().back(40));
        edge.due("back(41) of 40", 0, Edge.full().back(41));
    }

    // ---- Promises 13 to 15: count, of, along

    private static void countWhat() {
        edge.says("Promise 13: NONE for another what");
        edge.outside("count", Edge::some, Edge.to(0, 5), -1, QuickestOut::count);
        edge.says("Promise 13: what 0 to 5");
        QuickestOut x = Edge.some();
        int[] told = {3, 2, 3, 20, 66, 49};
        for (int what = 0; what < 6; what++) {
            edge.due("count(" + what + ")", told[what], x.count(what));
        }
        QuickestOut most = new QuickestOut();
        for (int i = 0; i < 8; i++) {
            most.place(60, 300, 20, 300);
        }
        edge.due("the most PEOPLE", 480, most.count(4));
        edge.due("the most ROOM", 2400, most.count(5));
    }

    private static void ofNoneSuch() {
        edge.says("Promise 14: NONE: there is none such");
        edge.outside("place", Edge::some, Edge.to(0, 2), -1, (x, v) -> x.of(v, 0));
        edge.outside("what", Edge::some, Edge.to(0, 3), -1, (x, v) -> x.of(2, v));
        edge.refused("of(0, 0)", Edge::none, -1, x -> x.of(0, 0));
        QuickestOut x = Edge.some();
        int[] last = {59, 9, 19, 1};
        for (int what = 0; what < 4; what++) {
            edge.due("of(2, " + what + ")", last[what], x.of(2, what));
        }
        // What a text that was refused put there is not there.
        Check.tell(x, "");
        Check.tell(x, "place 7 7 7 7;x");
        edge.due("of(3, 0)", -1, x.of(3, 0));
    }

    private static void alongNoneSuch() {
        edge.says("Promise 15: NoSuchElementException: there is none such");
        edge.outside("road", Edge::some, Edge.to(0, 1), 1, (x, v) -> thrown(x, v, 0));
        edge.refused("along(0, 0)", Edge::none, 1, x -> thrown(x, 0, 0));
        edge.says("Promise 15: NoSuchElementException: another what");
        edge.outside("what", Edge::some, Edge.to(0, 4), 1, (x, v) -> thrown(x, 1, v));
        edge.says("Promise 15: what 0 to 4");
        QuickestOut x = Edge.some();
        int[] last = {1, 2, 9, 0, 9};
        for (int what = 0; what < 5; what++) {
            edge.due("along(1, " + what + ")", last[what], Check.along(x, 1, what));
        }
    }

    /** 1: it throws just that exception; 0: it answers; 2: it throws something else. */
    private static int thrown(QuickestOut x, int road, int what) {
        try {
            x.along(road, what);
            return 0;
        } catch (RuntimeException e) {
            return e.getClass() == NoSuchElementException.class ? 1 : 2;
        }
    }
}
