import java.util.ArrayList;
import java.util.List;
import java.util.Random;

/**
 * Promises 16 to 19 against the words of Term 1 themselves: in tiny towns every one's every walk is
 * tried with every other's, and lanes, HOLD and ROOM are counted as they go.
 */
public final class TinyTest {
    private static final Check check = new Check();

    private final Random random;
    private final QuickestOut x = new QuickestOut();
    private int places;
    private int roads;
    private int t;
    private int[][] laneUse;
    private int[][] waiting;
    private int[] sheltered;
    private int mostSafe;
    private final List<int[]> walkers = new ArrayList<>();

    private TinyTest(int seed) {
        random = new Random(seed);
        places = 2 + random.nextInt(2);
        int people = 1 + random.nextInt(3);
        int[] homes = new int[places];
        for (int i = 0; i < people; i++) {
            homes[random.nextInt(places)]++;
        }
        for (int p = 0; p < places; p++) {
            x.place(homes[p], random.nextInt(3) * random.nextInt(2), random.nextInt(3), random.nextInt(2));
        }
        roads = 1 + random.nextInt(3);
        for (int r = 0; r < roads; r++) {
            int a = random.nextInt(places);
            int there = random.nextInt(2);
            x.road(a, (a + 1 + random.nextInt(places - 1)) % places, 1 + random.nextInt(2), there, random.nextInt(2) | 1 - there);
        }
    }

    public static void main(String[] args) {
        for (int seed = 0; seed < 400; seed++) {
            new TinyTest(seed).compare(seed);
        }
        check.end("TinyTest");
    }

    private void compare(int seed) {
        int all = x.count(4);
        int quickest = -1;
        for (t = 0; t <= 4; t++) {
            int safe = most(-1, 0);
            check.due("seed " + seed + " safe(" + t + ")", safe, x.safe(t));
            if (safe == all && quickest < 0) {
                quickest = t;
            }
            for (int p = 0; p < places; p++) {
                int openings = 0;
                for (int minute = 0; minute <= t; minute++) {
                    boolean open = most(p, minute) > safe;
                    openings += open ? 1 : 0;
                    check.due("seed " + seed + " open(" + t + ", " + p + ", " + minute + ")", open, x.open(t, p, minute));
                }
                check.due("seed " + seed + " openings(" + t + ", " + p + ")", openings, x.openings(t, p));
            }
        }
        if (quickest >= 0) {
            check.due("seed " + seed + " quickest()", quickest, x.quickest());
        } else {
            check.due("seed " + seed + " quickest() not by 4", true, x.quickest() < 0 || x.quickest() > 4);
        }
    }

    /** How many can be safe by t, with one more at a place in a minute (place -1: none more). */
    private int most(int place, int minute) {
        walkers.clear();
        if (place >= 0) {
            walkers.add(new int[] {place, minute, 0});
        }
        for (int p = 0; p < places; p++) {
            for (int i = 0; i < x.of(p, 0); i++) {
                walkers.add(new int[] {p, x.of(p, 2), 1});
            }
        }
        laneUse = new int[2 * roads][t + 1];
        waiting = new int[places][t + 1];
        sheltered = new int[places];
        mostSafe = 0;
        walk(0, 0);
        return mostSafe;
    }

    private void walk(int walker, int safe) {
        if (safe + walkers.size() - walker <= mostSafe) {
            return;
        }
        if (walker == walkers.size()) {
            mostSafe = safe;
            return;
        }
        int[] w = walkers.get(walker);
        for (int minute = w[1]; minute <= (w[2] == 1 ? t : Math.min(w[1], t)); minute++) {
            step(walker, w[0], minute, safe);
        }
        // Who never gets safe may as well not be in anybody's way.
        walk(walker + 1, safe);
    }

    private void step(int walker, int place, int minute, int safe) {
        if (sheltered[place] < x.of(place, 1)) {
            sheltered[place]++;
            walk(walker + 1, safe + 1);
            sheltered[place]--;
        }
        if (minute == t) {
            return;
        }
        if (waiting[place][minute] < x.of(place, 3)) {
            waiting[place][minute]++;
            step(walker, place, minute + 1, safe);
            waiting[place][minute]--;
        }
        for (int way = 0; way < 2 * roads; way++) {
            int comes = minute + x.along(way / 2, 2);
            if (x.along(way / 2, way % 2) == place && comes <= t && laneUse[way][minute] < x.along(way / 2, 3 + way % 2)) {
                laneUse[way][minute]++;
                step(walker, x.along(way / 2, 1 - way % 2), comes, safe);
                laneUse[way][minute]--;
            }
        }
    }
}
