/** The boundary cases of promises 16 to 19, and of Term 1 as far as who can be SAFE hangs on it. */
public final class EdgeSoonTest {
    private static final Edge edge = new Edge();

    public static void main(String[] args) {
        fromBeginsOn();
        lanesThatWay();
        minutesLater();
        waiting();
        roomInAll();
        safeRange();
        safeByMinuteT();
        greatest();
        quickestRange();
        quickestNone();
        quickestOfNobody();
        openTimes();
        openNoneSuch();
        openOneMore();
        openingsRange();
        openingsNoneSuch();
        edge.end("EdgeSoonTest");
    }

    /** People at 0, a shelter for all at 1, one road between them; nobody may wait in a crowd. */
    private static QuickestOut simple(int people, int begins, int minutes, int there, int back) {
        QuickestOut x = new QuickestOut();
        x.place(people, 0, begins, 0);
        x.place(0, 300, 0, 0);
        x.road(0, 1, minutes, there, back);
        return x;
    }

    /** The only one begins in 20 and takes 9, 9 and so many minutes more. */
    private static QuickestOut chain(int minutes) {
        QuickestOut x = new QuickestOut();
        x.place(1, 0, 20, 0);
        x.place(0, 0, 0, 0);
        x.place(0, 0, 0, 0);
        x.place(0, 1, 0, 0);
        x.road(0, 1, 9, 1, 0);
        x.road(1, 2, 9, 1, 0);
        x.road(2, 3, minutes, 1, 0);
        return x;
    }

    // ---- Term 1

    private static void fromBeginsOn() {
        edge.says("Term 1: who is at home may leave it in any MINUTE from BEGINS on");
        for (int begins : new int[] {0, 1, 19, 20}) {
            QuickestOut x = new QuickestOut();
            x.place(60, 60, begins, 0);
            edge.due("in BEGINS " + begins, 60, x.safe(begins));
            edge.due("a minute ahead of it", begins == 0 ? -1 : 0, x.safe(begins - 1));
            edge.due("quickest()", begins, x.quickest());
            edge.due("by road from BEGINS " + begins, begins + 1, simple(3, begins, 1, 3, 0).quickest());
        }
        edge.due("in any of them: one by one till the last", 40, simple(60, 0, 1, 1, 0).safe(40));
    }

    private static void lanesThatWay() {
        edge.says("Term 1: as many each way as there are LANES that way (in each MINUTE)");
        for (int lanes = 1; lanes <= 9; lanes++) {
            QuickestOut x = simple(60, 0, 1, lanes, 0);
            edge.due("by 1 with " + lanes, lanes, x.safe(1));
            edge.due("by 3 with " + lanes, 3 * lanes, x.safe(3));
            QuickestOut y = new QuickestOut();
            y.place(0, 300, 0, 0);
            y.place(60, 0, 0, 0);
            y.road(0, 1, 1, 9, lanes);
            edge.due("BACK by 1 with " + lanes, lanes, y.safe(1));
            edge.due("BACK by 3 with " + lanes, 3 * lanes, y.safe(3));
        }
        QuickestOut none = simple(1, 0, 1, 0, 9);
        edge.due("by 40 with 0", 0, none.safe(40));
        edge.due("quickest() with 0", -1, none.quickest());
        QuickestOut all = simple(60, 0, 1, 9, 9);
        all.turn(0, 9);
        edge.due("by 1 with 18", 18, all.safe(1));
        edge.due("by 3 with 18", 54, all.safe(3));
        all.turn(0, -18);
        edge.due("by 40 with all 18 BACK", 0, all.safe(40));
    }

    private static void minutesLater() {
        edge.says("Term 1: he is at its other end MINUTES later");
        for (int minutes = 1; minutes <= 9; minutes++) {
            QuickestOut x = simple(1, 2, minutes, 1, 0);
            edge.due("a minute ahead of it", 0, x.safe(minutes + 1));
            edge.due("then", 1, x.safe(minutes + 2));
            edge.due("quickest()", minutes + 2, x.quickest());
        }
    }

    private static void waiting() {
        edge.says("Term 1: or he may wait there till the next MINUTE: as many as HOLD");
        // Those at home are not in the crowd: HOLD is no matter for them.
        edge.due("at home with HOLD 0", 60, simple(60, 0, 1, 2, 0).safe(31));
        // Through a place where nobody may wait they come without waiting.
        QuickestOut x = new QuickestOut();
        x.place(3, 0, 0, 0);
        x.place(0, 0, 0, 0);
        x.place(0, 3, 0, 0);
        x.road(0, 1, 1, 3, 0);
        x.road(1, 2, 1, 1, 0);
        edge.due("with HOLD 0", 4, x.quickest());
        x.set(1, 3, 300);
        edge.due("with HOLD 300", 4, x.quickest());
    }

    private static void roomInAll() {
        edge.says("Term 1: he goes into the SHELTER there: ROOM in all");
        QuickestOut x = simple(10, 0, 1, 1, 0);
        x.set(1, 1, 9);
        edge.due("nine of ten", 9, x.safe(40));
        edge.due("quickest()", -1, x.quickest());
        x.set(1, 1, 10);
        edge.due("ten of ten", 10, x.safe(40));
        edge.due("quickest()", 10, x.quickest());
        edge.says("Term 1: ROOM 0: none");
        x.set(1, 1, 0);
        edge.due("no shelter", 0, x.safe(40));
        x.set(1, 1, 1);
        edge.due("a shelter for one", 1, x.safe(40));
        QuickestOut most = new QuickestOut();
        for (int place = 0; place < 8; place++) {
            most.place(60, place == 7 ? 300 : 0, 0, 0);
        }
        for (int place = 0; place < 7; place++) {
            most.road(place, 7, 1, 9, 0);
        }
        edge.due("300 of 480", 300, most.safe(40));
    }

    // ---- Promise 16: safe

    private static void safeRange() {
        edge.says("Term 1: SAFE BY T (0 to 40); Promise 16, NONE: no such T");
        edge.outside("safe", Edge::some, Edge.to(0, 40), -1, QuickestOut::safe);
        QuickestOut x = Edge.few();
        // Two at home in place 1 have room there at once; in the end all ROOM is taken.
        edge.due("safe(0)", 2, x.safe(0));
        edge.due("safe(40)", 49, x.safe(40));
        edge.due("safe(0) of none", 0, Edge.none().safe(0));
        edge.due("safe(40) of none", 0, Edge.none().safe(40));
        edge.due("safe(41) of none", -1, Edge.none().safe(41));
        edge.due("safe(-1) of none", -1, Edge.none().safe(-1));
    }

    private static void safeByMinuteT() {
        edge.says("Term 1: SAFE in MINUTES 0 to T at most");
        QuickestOut x = chain(2);
        edge.due("safe(39)", 0, x.safe(39));
        edge.due("safe(40)", 1, x.safe(40));
        edge.due("safe(40), a minute more", 0, chain(3).safe(40));
        QuickestOut y = new QuickestOut();
        y.place(7, 5, 0, 0);
        edge.due("safe(0)", 5, y.safe(0));
        // He comes to 3 in 39, where another lives, and would be at the shelter in 41: he can't leave in the other's minutes.
        QuickestOut z = chain(1);
        z.set(3, 1, 0);
        z.set(3, 0, 1);
        z.place(0, 9, 0, 0);
        z.road(3, 4, 2, 9, 0);
        edge.due("safe(40), where he comes in 41", 1, z.safe(40));
        edge.due("quickest()", -1, z.quickest());
    }

    private static void greatest() {
        edge.says("Terms 1: everything at its most");
        QuickestOut x = new QuickestOut();
        for (int place = 0; place < 8; place++) {
            x.place(60, 300, 0, 300);
        }
        for (int road = 0; road < 12; road++) {
            x.road(road % 8, (road + 1 + road / 8) % 8, 1, 9, 9);
        }
        edge.due("safe(40)", 480, x.safe(40));
        edge.due("openings(40, 7)", 41, x.openings(40, 7));
        edge.due("open(40, 0, 40)", true, x.open(40, 0, 40));
        edge.due("quickest()", 0, x.quickest());
        for (int place = 0; place < 8; place++) {
            x.set(place, 1, 0);
        }
        edge.due("safe(40) without a shelter", 0, x.safe(40));
        edge.due("openings(40, 7)", 0, x.openings(40, 7));
        edge.due("quickest()", -1, x.quickest());
    }

    // ---- Promise 17: quickest

    private static void quickestRange() {
        edge.says("Term 1: QUICKEST: the least T (0 to 40) by which all can");
        QuickestOut x = new QuickestOut();
        x.place(60, 60, 0, 0);
        edge.due("in minute 0", 0, x.quickest());
        edge.due("in minute 39", 39, chain(1).quickest());
        edge.due("in minute 40", 40, chain(2).quickest());
        edge.due("40 by one lane", 40, simple(40, 0, 1, 1, 0).quickest());
        QuickestOut y = simple(11, 0, 2, 3, 0);
        edge.due("quickest()", 5, y.quickest());
        edge.due("all by it", 11, y.safe(5));
        edge.due("not all by less", 9, y.safe(4));
    }

    private static void quickestNone() {
        edge.says("Term 1: NONE, if by none; Promise 17, NONE: by none");
        edge.due("in minute 41", -1, chain(3).quickest());
        edge.due("41 by one lane", -1, simple(41, 0, 1, 1, 0).quickest());
        edge.due("but 40 of them can", 40, simple(41, 0, 1, 1, 0).safe(40));
        QuickestOut x = new QuickestOut();
        x.place(1, 0, 0, 0);
        edge.due("without a shelter", -1, x.quickest());
        x.place(0, 1, 0, 0);
        edge.due("without a road", -1, x.quickest());
        x.road(0, 1, 1, 0, 1);
        edge.due("without a lane that way", -1, x.quickest());
        x.turn(0, 1);
        edge.due("with it", 1, x.quickest());
        x.set(0, 0, 2);
        edge.due("with too little room", -1, x.quickest());
    }

    private static void quickestOfNobody() {
        edge.says("Promise 17: all can, where there is nobody");
        edge.due("without places", 0, Edge.none().quickest());
        QuickestOut x = new QuickestOut();
        x.place(0, 0, 20, 0);
        edge.due("nobody, no room", 0, x.quickest());
        x.place(1, 1, 7, 0);
        edge.due("nobody at 0, one at 1", 7, x.quickest());
    }

    // ---- Promise 18: open

    private static void openTimes() {
        edge.says("Term 1: OPEN by T is a PLACE in a MINUTE (0 to T)");
        QuickestOut x = simple(1, 0, 1, 1, 0);
        x.set(1, 1, 2);
        edge.due("open(1, 0, 0): his lane is taken", false, x.open(1, 0, 0));
        edge.due("open(2, 0, 0)", true, x.open(2, 0, 0));
        edge.due("open(2, 0, 1)", true, x.open(2, 0, 1));
        edge.due("open(2, 0, 2): too late", false, x.open(2, 0, 2));
        edge.due("open(2, 1, 2): at the shelter in T", true, x.open(2, 1, 2));
        edge.due("open(0, 1, 0): T 0", true, x.open(0, 1, 0));
        edge.due("open(40, 1, 40): T 40", true, x.open(40, 1, 40));
        edge.due("open(40, 0, 39)", true, x.open(40, 0, 39));
        edge.due("open(40, 0, 40)", false, x.open(40, 0, 40));
        x.set(1, 1, 1);
        edge.due("open(2, 1, 2): the only room is taken", false, x.open(2, 1, 2));
        edge.due("open(0, 1, 0): by 0 it is not", true, x.open(0, 1, 0));
    }

    private static void openNoneSuch() {
        edge.says("Promise 18: false: there are none such (T)");
        edge.range("T", EdgeSoonTest::wide, Edge.to(0, 40), 1, 0, (x, v) -> Edge.bit(x.open(v, 1, 0)));
        edge.says("Promise 18: false: there are none such (PLACE)");
        edge.range("place", EdgeSoonTest::wide, Edge.to(0, 1), 1, 0, (x, v) -> Edge.bit(x.open(40, v, 0)));
        edge.refused("of none", Edge::none, 0, x -> Edge.bit(x.open(0, 0, 0)));
        edge.says("Promise 18: false: there are none such (MINUTE)");
        edge.range("minute of T 5", EdgeSoonTest::wide, Edge.to(0, 5), 1, 0, (x, v) -> Edge.bit(x.open(5, 1, v)));
        edge.range("minute of T 0", EdgeSoonTest::wide, Edge.to(0, 0), 1, 0, (x, v) -> Edge.bit(x.open(0, 1, v)));
        edge.range("minute of T 40", EdgeSoonTest::wide, Edge.to(0, 40), 1, 0, (x, v) -> Edge.bit(x.open(40, 1, v)));
        edge.refused("minute -1 of T -1", EdgeSoonTest::wide, 0, x -> Edge.bit(x.open(-1, 1, -1)));
        edge.refused("minute 41 of T 41", EdgeSoonTest::wide, 0, x -> Edge.bit(x.open(41, 1, 41)));
    }

    /** Whoever is anywhere early enough gets through. */
    private static QuickestOut wide() {
        return simple(1, 0, 1, 9, 9);
    }

    private static void openOneMore() {
        edge.says("Term 1: OPEN, if with one more, who is there then, one more could be SAFE");
        // He is there: BEGINS is for those at home.
        QuickestOut x = simple(1, 20, 1, 1, 0);
        edge.due("open(1, 0, 0) ahead of BEGINS", true, x.open(1, 0, 0));
        edge.due("open(21, 0, 20): the lane of 20 is taken", false, x.open(21, 0, 20));
        edge.due("open(21, 0, 19)", true, x.open(21, 0, 19));
        // One of those at home gives way to him, but has no later lane.
        QuickestOut y = simple(3, 0, 1, 1, 0);
        edge.due("open(3, 0, 0)", false, y.open(3, 0, 0));
        edge.due("open(4, 0, 0)", true, y.open(4, 0, 0));
        // One in the shelter more, one the less from elsewhere: that is not one more.
        y.set(1, 1, 3);
        edge.due("open(4, 1, 0)", false, y.open(4, 1, 0));
        edge.due("open(2, 1, 0)", true, y.open(2, 1, 0));
        // Without a shelter nobody ever is SAFE, not even where nobody is.
        QuickestOut z = new QuickestOut();
        z.place(0, 0, 0, 0);
        edge.due("open(40, 0, 0) without a shelter", false, z.open(40, 0, 0));
        z.set(0, 1, 1);
        edge.due("open(40, 0, 0) with one", true, z.open(40, 0, 0));
    }

    // ---- Promise 19: openings

    private static void openingsRange() {
        edge.says("Promise 19: how many MINUTES (0 to T) a PLACE is OPEN by T");
        QuickestOut x = wide();
        edge.due("openings(0, 1)", 1, x.openings(0, 1));
        edge.due("openings(1, 1)", 2, x.openings(1, 1));
        edge.due("openings(40, 1)", 41, x.openings(40, 1));
        edge.due("openings(0, 0)", 0, x.openings(0, 0));
        edge.due("openings(1, 0)", 1, x.openings(1, 0));
        edge.due("openings(40, 0)", 40, x.openings(40, 0));
        x.set(1, 1, 1);
        edge.due("openings(40, 1), the only room taken", 0, x.openings(40, 1));
        edge.due("openings(0, 1), by 0 it is not", 1, x.openings(0, 1));
    }

    private static void openingsNoneSuch() {
        edge.says("Promise 19: NONE: there are none such (T)");
        edge.outside("T", EdgeSoonTest::wide, Edge.to(0, 40), -1, (x, v) -> x.openings(v, 1));
        edge.says("Promise 19: NONE: there are none such (PLACE)");
        edge.outside("place", EdgeSoonTest::wide, Edge.to(0, 1), -1, (x, v) -> x.openings(40, v));
        edge.refused("of none", Edge::none, -1, x -> x.openings(0, 0));
        edge.says("Promise 19: 0, where the PLACE is there, but never OPEN");
        QuickestOut x = new QuickestOut();
        x.place(1, 0, 0, 0);
        edge.due("openings(40, 0)", 0, x.openings(40, 0));
    }
}
