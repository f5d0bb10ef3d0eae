import java.util.Random;

/**
 * Promises 16 to 29 in towns as great as can be: what a call says would be is compared with what is,
 * when it is done to a copy; and what must hold among the answers of one town.
 */
public final class LimitsTest {
    private static final Check check = new Check();
    private static final int NEVER = 41;
    /** In these towns a cut counted a little wrong would hide the best turns. */
    private static final int[] NARROW = {2044, 3728};

    private final Random random;
    private final int seed;
    private final int kind;
    private QuickestOut x;

    private LimitsTest(int seed) {
        this.seed = seed;
        kind = seed % 5;
        random = new Random(seed);
        build();
    }

    public static void main(String[] args) {
        int runs = args.length > 0 ? Integer.parseInt(args[0]) : 150;
        fullest();
        fullPlan();
        for (int seed = 0; seed < runs; seed++) {
            compare(seed);
        }
        for (int seed : NARROW) {
            compare(seed);
        }
        check.end("LimitsTest");
    }

    private static void compare(int seed) {
        LimitsTest town = new LimitsTest(seed);
        town.soon();
        town.roads();
        town.places();
        town.turns();
    }

    private void due(String call, long want, long got) {
        check.due("seed " + seed + ": " + call, want, got);
    }

    /** Every arc that can be in every minute is there, and everything else that has a most. */
    private static void fullest() {
        QuickestOut x = new QuickestOut();
        for (int p = 0; p < 8; p++) {
            x.place(60, 300, 0, 300);
        }
        for (int r = 0; r < 12; r++) {
            x.road(r % 8, (r + 1 + r / 8) % 8, 1, 9, 9);
        }
        check.due("fullest safe(40)", 480, x.safe(40));
        check.due("fullest quickest()", 0, x.quickest());
        check.due("fullest openings(40, 7)", 41, x.openings(40, 7));
        check.due("fullest worst()", 0, x.worst());
        for (int p = 0; p < 7; p++) {
            x.set(p, 1, p == 0 ? 180 : 0);
        }
        // 360 from 1 to 6 have to reach 0 and 7 (240 of its 300 are left, 120 of 180).
        check.due("full safe(40)", 480, x.safe(40));
        int quick = x.quickest();
        check.due("full quickest() is a number", true, quick > 0);
        check.due("full safe ahead of it", true, x.safe(quick - 1) < 480);
        x.set(0, 1, 179);
        check.due("full, one too many", -1, x.quickest());
        check.due("full, all but one", 479, x.safe(40));
    }

    /** 40 moves on the last of 12 roads, to the last place, in the last minutes. */
    private static void fullPlan() {
        QuickestOut x = new QuickestOut();
        for (int p = 0; p < 8; p++) {
            x.place(p == 6 ? 60 : 0, p == 7 ? 30 : 0, 20, p == 7 ? 10 : 0);
        }
        for (int r = 0; r < 12; r++) {
            x.road(7, 6, 9, 0, 9);
        }
        for (int i = 0; i < 40; i++) {
            x.move(36 + i / 8, 11, true, 1);
        }
        check.due("full plan wrong()", 0, x.wrong());
        int[] due = {30, 48, 0, 20, 10};
        for (int what = 0; what < 5; what++) {
            check.due("full plan planned(" + what + ")", due[what], x.planned(what));
        }
        check.due("full plan there(7, 44, 2)", 0, x.there(7, 44, 2));
        check.due("full plan there(7, 45, 2)", 8, x.there(7, 45, 2));
        check.due("full plan there(7, 49, 0)", 10, x.there(7, 49, 0));
        x.set(7, 3, 9);
        check.due("full plan wrong() by HOLD", 3 + 8 * 7, x.wrong());
        check.due("full plan there(7, 50, 0)", -1, x.there(7, 50, 0));
    }

    private void build() {
        x = new QuickestOut();
        for (int p = 0; p < 8; p++) {
            switch (kind) {
                case 0: x.place(random.nextInt(61), random.nextInt(3) == 0 ? random.nextInt(301) : 0, random.nextInt(10), random.nextInt(301)); break;
                case 1: x.place(30 + random.nextInt(31), random.nextInt(2) * (100 + random.nextInt(100)), random.nextInt(21), random.nextInt(20)); break;
                case 2: x.place(p < 4 ? 60 : 0, p >= 6 ? 300 : 0, 0, 300); break;
                case 3: x.place(random.nextInt(30), p >= 5 ? 160 : 0, 0, random.nextInt(30)); break;
                default: x.place(p < 2 ? 10 : 0, p > 5 ? 10 : 0, 0, 0); break;
            }
        }
        while (x.count(1) < 12) {
            int most = kind == 2 ? 10 : kind == 0 ? 7 : 4;
            x.road(random.nextInt(8), random.nextInt(8), 1 + random.nextInt(kind == 2 ? 9 : 3), random.nextInt(most), random.nextInt(most));
        }
        for (int i = 0; i < 3; i++) {
            x.turn(random.nextInt(12), random.nextInt(7) - 3);
        }
    }

    /** A new object with the same places and roads, but for one road. */
    private QuickestOut copyWithout(int gone) {
        QuickestOut copy = new QuickestOut();
        for (int p = 0; p < 8; p++) {
            copy.place(x.of(p, 0), x.of(p, 1), x.of(p, 2), x.of(p, 3));
        }
        for (int r = 0; r < 12; r++) {
            if (r != gone) {
                int there = x.along(r, 3);
                int back = x.along(r, 4);
                int turned = there > 9 ? there - 9 : back > 9 ? 9 - back : 0;
                int number = copy.road(x.along(r, 0), x.along(r, 1), x.along(r, 2), there - turned, back + turned);
                if (turned != 0) {
                    copy.turn(number, turned);
                }
            }
        }
        return copy;
    }

    private static int number(int quick) {
        return quick == -1 ? NEVER : quick;
    }

    private void soon() {
        int before = 0;
        int quick = -1;
        for (int t = 0; t <= 40; t++) {
            int safe = x.safe(t);
            due("safe grows by " + t, 1, safe >= before ? 1 : 0);
            before = safe;
            quick = quick < 0 && safe == x.count(4) ? t : quick;
        }
        due("quickest()", quick, x.quickest());
        for (int i = 0; i < 3; i++) {
            int t = random.nextInt(41);
            int p = random.nextInt(8);
            int open = 0;
            for (int m = 0; m <= t; m++) {
                open += x.open(t, p, m) ? 1 : 0;
            }
            due("openings(" + t + ", " + p + ")", open, x.openings(t, p));
            boolean more = x.of(p, 0) < 60 && x.of(p, 0) >= 0;
            if (more && open > 0 && x.of(p, 2) == 0 && x.open(t, p, 0)) {
                int safe = x.safe(t);
                x.set(p, 0, x.of(p, 0) + 1);
                due("one more where it is open", safe + 1, x.safe(t));
                x.set(p, 0, x.of(p, 0) - 1);
            }
        }
    }

    private void roads() {
        int worst = 0;
        for (int r = 0; r < 12; r++) {
            int without = copyWithout(r).quickest();
            due("shut(" + r + ")", without, x.shut(r));
            worst = number(without) > number(x.shut(worst)) ? r : worst;
        }
        due("worst()", worst, x.worst());
        int r = random.nextInt(12);
        boolean back = random.nextBoolean();
        int t = random.nextInt(41);
        int fewest = -1;
        for (int k = 30; k >= 0; k--) {
            fewest = number(x.wider(r, back, k)) <= t ? k : fewest;
        }
        due("lacks(" + t + ", " + r + ", " + back + ")", fewest, x.lacks(t, r, back));
    }

    private void places() {
        int quick = x.quickest();
        int p = random.nextInt(8);
        int begins = x.of(p, 2);
        int latest = -1;
        for (int b = 0; b <= 20 && quick >= 0; b++) {
            x.set(p, 2, b);
            latest = number(x.quickest()) <= quick ? b : latest;
        }
        x.set(p, 2, begins);
        due("latest(" + p + ")", latest, x.latest(p));
        int k = 1 + random.nextInt(random.nextBoolean() ? 300 : 40);
        int best = 0;
        for (int q = 7; q >= 0; q--) {
            int room = x.of(q, 1);
            int more = Math.min(300, room + k);
            int would = x.roomy(q, more);
            x.set(q, 1, more);
            due("roomy(" + q + ", " + more + ")", x.quickest(), would);
            x.set(q, 1, room);
            best = number(would) <= number(x.roomy(best, Math.min(300, x.of(best, 1) + k))) ? q : best;
        }
        due("best(" + k + ")", best, x.best(k));
    }

    private void turns() {
        int quick = number(x.quickest());
        int[] found = {quick, -2, -2};
        for (int size = 1; size <= 18; size++) {
            for (int r = 0; r < 12; r++) {
                for (int k = size; k >= -size; k -= 2 * size) {
                    int would = x.turned(r, k);
                    if (size == 1 && x.turn(r, k)) {
                        due("turned(" + r + ", " + k + ")", x.quickest(), would);
                        x.turn(r, -k);
                    }
                    if (would != -2 && number(would) < found[0]) {
                        found = new int[] {would, r, k};
                    }
                }
            }
        }
        for (int what = 0; what < 3; what++) {
            due("bestTurn(" + what + ")", found[0] == quick ? -2 : found[what], x.bestTurn(what));
        }
        int set = 0;
        for (int i = 0; i < 4; i++) {
            set |= 1 << random.nextInt(12);
        }
        best = new int[] {NEVER + 1, 0, 0};
        rows(set, 0, 0, 0);
        due("turns(" + set + ", 0)", best[0] == NEVER ? -1 : best[0], x.turns(set, 0));
        due("turns(" + set + ", 1)", best[2], x.turns(set, 1));
    }

    private int[] best;

    private void rows(int set, int road, int notZero, int row) {
        if (road == 12) {
            int[] found = {number(x.quickest()), notZero, row};
            best = java.util.Arrays.compare(found, best) < 0 ? found : best;
        } else if ((set >> road & 1) == 0) {
            rows(set, road + 1, notZero, row);
        } else {
            int there = x.along(road, 3);
            int back = x.along(road, 4);
            rows(set, road + 1, notZero, 3 * row);
            x.turn(road, back);
            rows(set, road + 1, notZero + 1, 3 * row + 1);
            x.turn(road, -there - back);
            rows(set, road + 1, notZero + 1, 3 * row + 2);
            x.turn(road, there);
        }
    }
}
