import java.util.Random;

/** All promises: runs of calls by chance (always the same ones), each answer against that of Plain. */
public final class PlainTest {
    private static final Check check = new Check();
    private static final String[] WORDS = {"place", "road", "turn", "move", "there", "back", ";", "x", "-", "0", "1"};

    private final Random random;
    private final int seed;
    private final QuickestOut x = new QuickestOut();
    private final Plain plain = new Plain();

    private PlainTest(int seed) {
        this.seed = seed;
        random = new Random(seed);
    }

    public static void main(String[] args) {
        int from = args.length > 0 ? Integer.parseInt(args[0]) : 0;
        int runs = args.length > 1 ? Integer.parseInt(args[1]) : 150;
        for (int seed = from; seed < from + runs; seed++) {
            PlainTest run = new PlainTest(seed);
            run.build();
            for (int i = 0; i < 120; i++) {
                if (run.pick(3) == 0) {
                    run.change();
                } else {
                    run.ask();
                }
            }
        }
        check.end("PlainTest");
    }

    private int pick(int n) {
        return random.nextInt(n);
    }

    private void due(String call, int want, int got) {
        check.due("seed " + seed + ": " + call, want, got);
    }

    /** Mostly a number from least to most, now and then one beside them or far away. */
    private int some(int least, int most) {
        switch (pick(24)) {
            case 0: return least - 1;
            case 1: return most + 1;
            case 2: return pick(6) == 0 ? random.nextInt() : most;
            case 3: return pick(6) == 0 ? Integer.MIN_VALUE : least;
            default: return least + pick(Math.max(1, most - least + 1));
        }
    }

    private int somePlace() {
        return some(0, plain.places.size() - 1);
    }

    private int someRoad() {
        return some(0, plain.roads.size() - 1);
    }

    private void build() {
        int places = 2 + pick(4);
        int kind = pick(4);
        for (int i = 0; i < places; i++) {
            boolean shelter = pick(2) == 0;
            addPlace(kind == 0 ? pick(61) : pick(16), shelter ? pick(kind == 0 ? 200 : 40) : 0, pick(3) == 0 ? pick(21) : 0,
                pick(3) == 0 ? 300 : pick(6));
        }
        int roads = 1 + pick(6);
        for (int i = 0; i < roads; i++) {
            addRoad(pick(places), pick(places), 1 + pick(kind == 1 ? 9 : 3), pick(kind == 2 ? 10 : 4), pick(kind == 2 ? 10 : 4));
        }
    }

    private void addPlace(int people, int room, int begins, int hold) {
        due("place", plain.place(people, room, begins, hold), x.place(people, room, begins, hold));
    }

    private void addRoad(int a, int b, int minutes, int there, int back) {
        due("road", plain.road(a, b, minutes, there, back), x.road(a, b, minutes, there, back));
    }

    private void change() {
        int place = somePlace();
        int road = someRoad();
        switch (pick(9)) {
            case 0:
                addPlace(some(0, 20), some(0, 40), some(0, 20), some(0, 9));
                break;
            case 1:
                addRoad(place, somePlace(), some(1, 4), some(0, 4), some(0, 4));
                break;
            case 2:
                int k = some(-3, 3);
                due("turn", plain.turn(road, k) ? 1 : 0, x.turn(road, k) ? 1 : 0);
                break;
            case 3:
                int what = some(0, 3);
                int v = what == 1 || what == 3 ? some(0, 60) : some(0, 20);
                due("set", plain.set(place, what, v) ? 1 : 0, x.set(place, what, v) ? 1 : 0);
                break;
            case 4:
                if (pick(3) == 0) {
                    due("drop", plain.drop(), x.drop());
                } else {
                    int n = some(1, 3);
                    due("back", plain.back(n), x.back(n));
                }
                break;
            case 5:
                text();
                break;
            default:
                for (int i = pick(6); i >= 0; i--) {
                    someMove();
                }
                break;
        }
        counts();
    }

    /** A move that often can be: by the lanes there are, in a minute not long behind the last one. */
    private void someMove() {
        int road = someRoad();
        boolean back = pick(2) == 0;
        int lanes = plain.isRoad(road) ? plain.roads.get(road)[back ? 4 : 3] : 1;
        int last = plain.moves.isEmpty() ? 0 : plain.moves.get(plain.moves.size() - 1)[0];
        int minute = pick(8) == 0 ? some(0, 40) : last + pick(4);
        int many = pick(12) == 0 ? some(1, 60) : 1 + pick(Math.max(1, lanes));
        due("move", plain.move(minute, road, back, many), x.move(minute, road, back, many));
    }

    private void counts() {
        for (int what = 0; what < 6; what++) {
            due("count(" + what + ")", plain.count(what), x.count(what));
        }
        due("fault", plain.fault, x.fault());
    }

    private void text() {
        StringBuilder text = new StringBuilder();
        int statements = pick(7);
        for (int i = 0; i < statements; i++) {
            statement(text);
        }
        for (int i = pick(3); i > 0 && text.length() > 0; i--) {
            int at = pick(text.length());
            switch (pick(3)) {
                case 0: text.deleteCharAt(at); break;
                case 1: text.insert(at, WORDS[pick(WORDS.length)]); break;
                default: text.insert(at, (char) pick(256)); break;
            }
        }
        for (int at = 0; at < text.length(); at += 20) {
            int[] n = new int[5];
            for (int i = 0; i < 20; i++) {
                n[i / 4] = n[i / 4] << 8 | (at + i < text.length() ? text.charAt(at + i) : 32);
            }
            due("feed", plain.feed(n), x.feed(n[0], n[1], n[2], n[3], n[4]));
        }
        int end = pick(10) == 0 ? some(0, 400) : text.length();
        due("end", plain.end(end) ? 1 : 0, x.end(end) ? 1 : 0);
        due("tell of '" + plain.tape + "'", plain.tell(), x.tell());
        due("fault of '" + text + "'", plain.fault, x.fault());
    }

    private void statement(StringBuilder text) {
        int[] ints;
        int kind = pick(8);
        int roads = Math.max(1, plain.roads.size());
        if (kind < 2) {
            text.append("place");
            ints = new int[] {few(60), few(300), few(20), few(300)};
        } else if (kind < 4) {
            text.append("road");
            ints = new int[] {few(Math.max(1, plain.places.size() - 1)), few(plain.places.size()), 1 + pick(9), few(9), few(9)};
        } else if (kind < 6) {
            text.append("turn");
            ints = new int[] {few(roads), pick(7) - 3};
        } else {
            text.append("move");
            ints = new int[] {few(40), few(roads), 1 + pick(9)};
        }
        for (int i = 0; i < ints.length; i++) {
            if (kind >= 6 && i == 2) {
                blanks(text, pick(2));
                text.append(pick(2) == 0 ? "there" : "back");
            }
            blanks(text, i > 0 ? 1 : pick(2));
            text.append(pick(20) == 0 ? "0" : "").append(ints[i]);
        }
        blanks(text, pick(2));
        text.append(';');
        blanks(text, pick(2));
    }

    private int few(int most) {
        return pick(12) == 0 ? some(0, most) % 1000 : pick(Math.max(1, Math.min(most, 9)));
    }

    private void blanks(StringBuilder text, int least) {
        for (int i = least + pick(3) / 2; i > 0; i--) {
            text.append(pick(5) == 0 ? '\n' : ' ');
        }
    }

    private void ask() {
        int place = somePlace();
        int road = someRoad();
        int t = some(0, pick(2) == 0 ? 40 : 12);
        boolean back = pick(2) == 0;
        switch (pick(18)) {
            case 0: due("safe(" + t + ")", Plain.in(t, 0, 40) ? plain.safe(t) : -1, x.safe(t)); break;
            case 1: due("quickest()", Plain.told(plain.quick()), x.quickest()); break;
            case 2:
                int m = some(0, t);
                due("open", plain.open(t, place, m) ? 1 : 0, x.open(t, place, m) ? 1 : 0);
                break;
            case 3:
                int early = Math.min(t, 12);
                due("openings", plain.openings(early, place), x.openings(early, place));
                break;
            case 4: due("shut", plain.shut(road), x.shut(road)); break;
            case 5:
                int more = some(-9, pick(2) == 0 ? 30 : 1);
                due("wider", plain.wider(road, back, more), x.wider(road, back, more));
                break;
            case 6:
                int k = some(-3, 3);
                due("turned", plain.turned(road, k), x.turned(road, k));
                break;
            case 7: bestTurn(); break;
            case 8: turns(); break;
            case 9:
                int v = some(0, pick(2) == 0 ? 300 : 30);
                due("roomy", plain.roomy(place, v), x.roomy(place, v));
                break;
            case 10:
                int room = some(1, pick(2) == 0 ? 300 : 30);
                due("best(" + room + ")", plain.best(room), x.best(room));
                break;
            case 11: due("latest", plain.latest(place), x.latest(place)); break;
            case 12: due("worst", plain.worst(), x.worst()); break;
            case 13:
                if (pick(3) == 0) {
                    due("lacks", plain.lacks(t, road, back), x.lacks(t, road, back));
                }
                break;
            case 14: told(place, road); break;
            default: plan(); break;
        }
    }

    private void bestTurn() {
        if (pick(4) == 0) {
            for (int what = -1; what < 4; what++) {
                due("bestTurn(" + what + ")", plain.bestTurn(what), x.bestTurn(what));
            }
        }
    }

    private void turns() {
        int set = 0;
        for (int i = pick(4); i > 0; i--) {
            set |= 1 << pick(Math.max(1, plain.roads.size()));
        }
        set = pick(15) == 0 ? some(0, 31) : set;
        for (int what = 0; what < 2; what++) {
            due("turns(" + set + ", " + what + ")", plain.turns(set, what), x.turns(set, what));
        }
    }

    private void told(int place, int road) {
        int what = some(0, 4);
        due("of", plain.isPlace(place) && Plain.in(what, 0, 3) ? plain.places.get(place)[what] : -1, x.of(place, what));
        due("along", plain.isRoad(road) && Plain.in(what, 0, 4) ? plain.roads.get(road)[what] : Integer.MIN_VALUE,
            Check.along(x, road, what));
        int k = some(0, plain.moves.size() - 1);
        due("moved", Plain.in(k, 0, plain.moves.size() - 1) && Plain.in(what, 0, 3) ? plain.moves.get(k)[what] : -1,
            x.moved(k, what));
    }

    private void plan() {
        plain.go();
        due("wrong()", plain.wrong, x.wrong());
        for (int what = -1; what < 6; what++) {
            due("planned(" + what + ")", plain.planned(what), x.planned(what));
        }
        for (int i = 0; i < 4; i++) {
            int place = somePlace();
            int minute = some(0, pick(2) == 0 ? 50 : Math.max(0, plain.ended));
            int what = some(0, 2);
            due("there", plain.thereAt(place, minute, what), x.there(place, minute, what));
        }
    }
}
