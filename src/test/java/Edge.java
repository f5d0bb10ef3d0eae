/** What the edge tests share: towns to start from, what stands in an object, and calls that must leave it as it was. */
final class Edge {
    static final int LOWEST = Integer.MIN_VALUE;
    static final int HIGHEST = Integer.MAX_VALUE;
    static final int THROWS = Integer.MIN_VALUE;

    interface Maker {
        QuickestOut make();
    }

    interface Call {
        long on(QuickestOut x);
    }

    interface CallWith {
        long on(QuickestOut x, int v);
    }

    private final Check check = new Check();
    private String sentence = "";

    /** The sentence of the document that the next answers belong to. */
    void says(String words) {
        sentence = words;
    }

    void due(String call, long want, long got) {
        check.due(sentence + " | " + call, want, got);
    }

    void due(String call, boolean want, boolean got) {
        check.due(sentence + " | " + call, want, got);
    }

    void same(String call, String want, String got) {
        check.due(sentence + " | " + call + " leaves\n  " + got + ", due is\n  " + want + "\n  which", true, want.equals(got));
    }

    void end(String name) {
        check.end(name);
    }

    /** A call that is refused: it answers so, and all stands as where it was never made. */
    void refused(String call, Maker maker, long want, Call refused) {
        QuickestOut x = maker.make();
        due(call, want, refused.on(x));
        same(call, standing(maker.make()), standing(x));
    }

    /** The least and the most may be, what is beside them or far off may not, and leaves all as it was. */
    void range(String what, Maker maker, int[] range, long taken, long refusal, CallWith call) {
        for (int v : range) {
            due(what + " " + v, taken, call.on(maker.make(), v));
        }
        outside(what, maker, range, refusal, call);
    }

    void outside(String what, Maker maker, int[] range, long refusal, CallWith call) {
        int least = range[0];
        int most = range[1];
        // The last two are what wraps around to the least, were only 16 bits looked at.
        for (int v : new int[] {least - 1, most + 1, LOWEST, LOWEST + 1, HIGHEST, least + 65536, least - 65536}) {
            refused(what + " " + v, maker, refusal, x -> call.on(x, v));
        }
    }

    static int[] to(int least, int most) {
        return new int[] {least, most};
    }

    static long bit(boolean b) {
        return b ? 1 : 0;
    }

    // ---- what stands (some 300 calls at most, so that no object comes to 512)

    /** Places, roads and moves, and a few answers that hang on all of them. */
    static String town(QuickestOut x) {
        StringBuilder s = new StringBuilder();
        for (int place = 0; place < x.count(0); place++) {
            s.append(" place");
            for (int what = 0; what < 4; what++) {
                s.append(' ').append(x.of(place, what));
            }
        }
        for (int road = 0; road < x.count(1); road++) {
            s.append(" road");
            for (int what = 0; what < 5; what++) {
                s.append(' ').append(Check.along(x, road, what));
            }
        }
        for (int move = 0; move < x.count(2); move++) {
            s.append(" move");
            for (int what = 0; what < 4; what++) {
                s.append(' ').append(x.moved(move, what));
            }
        }
        s.append(" people ").append(x.count(4)).append(" room ").append(x.count(5));
        s.append(" safe ").append(x.safe(30)).append(" wrong ").append(x.wrong());
        return s.append(" planned ").append(x.planned(0)).append(' ').append(x.planned(3)).toString();
    }

    /** The town, the fault and the tape; what is on the tape is seen by telling it at last. */
    static String standing(QuickestOut x) {
        StringBuilder s = new StringBuilder(town(x));
        s.append(" fault ").append(x.fault()).append(" tape ").append(x.count(3));
        s.append(" told ").append(x.tell()).append(' ').append(x.fault());
        for (int what = 0; what < 4; what++) {
            s.append(' ').append(x.count(what));
        }
        if (x.count(1) > 0) {
            s.append(' ').append(Check.along(x, 0, 3)).append(' ').append(Check.along(x, x.count(1) - 1, 3));
        }
        return s.toString();
    }

    // ---- towns to start from

    static QuickestOut none() {
        return new QuickestOut();
    }

    /** Three places, two roads, three moves; nothing on the tape. */
    static QuickestOut few() {
        QuickestOut x = new QuickestOut();
        x.place(5, 0, 3, 7);
        x.place(2, 40, 0, 299);
        x.place(59, 9, 19, 1);
        x.road(0, 1, 2, 3, 1);
        x.road(1, 2, 9, 0, 9);
        x.move(3, 0, false, 2);
        x.move(39, 1, true, 1);
        x.move(4, 0, true, 1);
        return x;
    }

    /** The few, with a fault told, and a text of 20 bytes on the tape. */
    static QuickestOut some() {
        QuickestOut x = few();
        Check.tell(x, " x");
        Check.feed(x, "turn 0 1;turn 1 2;\n\n");
        return x;
    }

    /** As many places, roads and moves as there can be, the fault of one place more, and a text on the tape. */
    static QuickestOut full() {
        QuickestOut x = new QuickestOut();
        for (int i = 0; i < 8; i++) {
            x.place(i, i * 10, i, i);
        }
        for (int i = 0; i < 12; i++) {
            x.road(i % 8, (i + 1) % 8, 1 + i % 9, 3, i % 10);
        }
        for (int i = 0; i < 40; i++) {
            x.move(i, i % 12, i % 2 == 1, 1);
        }
        Check.tell(x, "place");
        Check.feed(x, "turn 0 -1;turn 11 1;");
        return x;
    }
}
