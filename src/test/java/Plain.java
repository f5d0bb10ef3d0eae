import java.util.ArrayList;
import java.util.List;
import java.util.regex.Matcher;
import java.util.regex.Pattern;

/** The document done anew in the plainest way, slow and by other means, for PlainTest to compare with. */
final class Plain {
    static final int NEVER = 41;
    final List<int[]> places = new ArrayList<>();
    final List<int[]> roads = new ArrayList<>();
    final List<int[]> moves = new ArrayList<>();
    String tape = "";
    int fault;

    // ---- what is told

    int feed(int... numbers) {
        if (tape.length() + 20 > 400) {
            return -1;
        }
        StringBuilder more = new StringBuilder(tape);
        for (int n : numbers) {
            more.append((char) (n >>> 24)).append((char) (n >>> 16 & 255)).append((char) (n >>> 8 & 255)).append((char) (n & 255));
        }
        tape = more.toString();
        return tape.length();
    }

    boolean end(int n) {
        if (n < 0 || n > tape.length()) {
            return false;
        }
        tape = tape.substring(0, n);
        return true;
    }

    static boolean in(int v, int least, int most) {
        return least <= v && v <= most;
    }

    static boolean placeCan(int... p) {
        return in(p[0], 0, 60) && in(p[1], 0, 300) && in(p[2], 0, 20) && in(p[3], 0, 300);
    }

    boolean isPlace(int p) {
        return in(p, 0, places.size() - 1);
    }

    boolean isRoad(int r) {
        return in(r, 0, roads.size() - 1);
    }

    int place(int... p) {
        if (!placeCan(p)) {
            return -1;
        }
        if (places.size() == 8) {
            return -2;
        }
        places.add(p);
        return places.size() - 1;
    }

    int road(int... r) {
        if (!isPlace(r[0]) || !isPlace(r[1]) || r[0] == r[1] || !in(r[2], 1, 9) || !in(r[3], 0, 9) || !in(r[4], 0, 9)
                || r[3] == 0 && r[4] == 0) {
            return -1;
        }
        if (roads.size() == 12) {
            return -2;
        }
        roads.add(r);
        return roads.size() - 1;
    }

    boolean canTurn(int road, int k) {
        return isRoad(road) && k != 0 && (long) roads.get(road)[3] + k >= 0 && (long) roads.get(road)[4] - k >= 0;
    }

    boolean turn(int road, int k) {
        if (!canTurn(road, k)) {
            return false;
        }
        roads.get(road)[3] += k;
        roads.get(road)[4] -= k;
        return true;
    }

    boolean set(int place, int what, int v) {
        if (!isPlace(place) || !in(what, 0, 3)) {
            return false;
        }
        int[] changed = places.get(place).clone();
        changed[what] = v;
        if (!placeCan(changed) || places.get(place)[what] == v) {
            return false;
        }
        places.set(place, changed);
        return true;
    }

    int drop() {
        if (roads.isEmpty()) {
            return -1;
        }
        int gone = roads.size() - 1;
        roads.remove(gone);
        moves.removeIf(m -> m[1] == gone);
        return gone;
    }

    int move(int minute, int road, boolean back, int many) {
        if (!in(minute, 0, 40) || !isRoad(road) || !in(many, 1, 60)) {
            return -1;
        }
        if (moves.size() == 40) {
            return -2;
        }
        moves.add(new int[] {minute, road, back ? 1 : 0, many});
        return moves.size() - 1;
    }

    int back(int n) {
        if (n < 1) {
            return -1;
        }
        for (int i = 0; i < n && !moves.isEmpty(); i++) {
            moves.remove(moves.size() - 1);
        }
        return moves.size();
    }

    int count(int what) {
        int[] counts = {places.size(), roads.size(), moves.size(), tape.length(),
            places.stream().mapToInt(p -> p[0]).sum(), places.stream().mapToInt(p -> p[1]).sum()};
        return in(what, 0, 5) ? counts[what] : -1;
    }

    // ---- texts: tokens by a pattern, the statements on a copy

    private static final Pattern TOKEN = Pattern.compile("[ \\n]*(?:([a-z]+)|(-?[0-9]+)|([\\x00-\\xff])|$)", Pattern.DOTALL);

    int tell() {
        String text = tape;
        tape = "";
        Plain copy = new Plain();
        places.forEach(p -> copy.places.add(p.clone()));
        roads.forEach(r -> copy.roads.add(r.clone()));
        moves.forEach(m -> copy.moves.add(m.clone()));
        List<String> tokens = new ArrayList<>();
        List<Integer> at = new ArrayList<>();
        Matcher m = TOKEN.matcher(text);
        int from = 0;
        while (from < text.length() && m.find(from)) {
            for (int g = 1; g <= 3; g++) {
                if (m.group(g) != null) {
                    tokens.add(m.group(g));
                    at.add(m.start(g));
                }
            }
            from = m.end();
        }
        tokens.add("");
        at.add(text.length());
        int statements = 0;
        int i = 0;
        while (!tokens.get(i).isEmpty()) {
            int[] next = {i};
            int kind = copy.statement(tokens, next);
            i = next[0];
            if (kind != 0) {
                fault = kind + 8 * at.get(i);
                return -1;
            }
            statements++;
        }
        fault = 0;
        places.clear();
        places.addAll(copy.places);
        roads.clear();
        roads.addAll(copy.roads);
        moves.clear();
        moves.addAll(copy.moves);
        return statements;
    }

    /** One statement from next[0] on; the kind of its fault, and next[0] is where. */
    private int statement(List<String> tokens, int[] next) {
        String word = tokens.get(next[0]);
        String form = word.equals("place") ? "iiii;" : word.equals("road") ? "iiiii;" : word.equals("turn") ? "ii;"
            : word.equals("move") ? "iiwi;" : "";
        if (form.isEmpty()) {
            return 1;
        }
        if (word.equals("place") && places.size() == 8 || word.equals("road") && roads.size() == 12
                || word.equals("move") && moves.size() == 40) {
            return 3;
        }
        List<Integer> ints = new ArrayList<>();
        boolean back = false;
        for (char c : form.toCharArray()) {
            next[0]++;
            String token = tokens.get(next[0]);
            if (c == ';' ? !token.equals(";") : c == 'w' ? !token.matches("there|back") : !token.matches("-?[0-9]{1,3}")) {
                return 1;
            }
            if (c == 'i') {
                ints.add(Integer.parseInt(token));
                if (!canBe(word, ints)) {
                    return 2;
                }
            }
            back = back || token.equals("back");
        }
        next[0]++;
        int[] v = ints.stream().mapToInt(n -> n).toArray();
        switch (word) {
            case "place": place(v); break;
            case "road": road(v); break;
            case "turn": turn(v[0], v[1]); break;
            default: move(v[0], v[1], back, v[2]); break;
        }
        return 0;
    }

    private boolean canBe(String word, List<Integer> ints) {
        int v = ints.get(ints.size() - 1);
        switch (word + ints.size()) {
            case "place1": return in(v, 0, 60);
            case "place2": case "place4": return in(v, 0, 300);
            case "place3": return in(v, 0, 20);
            case "road1": return isPlace(v);
            case "road2": return isPlace(v) && v != ints.get(0);
            case "road3": return in(v, 1, 9);
            case "road4": return in(v, 0, 9);
            case "road5": return in(v, 0, 9) && v + ints.get(3) > 0;
            case "turn1": case "move2": return isRoad(v);
            case "turn2": return canTurn(ints.get(0), v);
            case "move1": return in(v, 0, 40);
            default: return in(v, 1, 60);
        }
    }

    // ---- as soon as can be: one by one, each by any path that is left

    private int[][] spare;
    private boolean[] seen;

    /** Safe by t; behind it seen[] tells from where, of all nodes, no one more can get through. */
    int safe(int t) {
        int n = places.size();
        int node = n * (t + 1);
        int source = node + 2 * n;
        int sink = source + 1;
        spare = new int[sink + 1][sink + 1];
        for (int p = 0; p < n; p++) {
            int[] place = places.get(p);
            spare[source][node + p] = place[0];
            spare[node + n + p][sink] = place[1];
            for (int m = 0; m <= t; m++) {
                spare[m * n + p][node + n + p] = 9999;
                if (m >= place[2]) {
                    spare[node + p][m * n + p] = 9999;
                }
                if (m < t) {
                    spare[m * n + p][(m + 1) * n + p] = place[3];
                }
            }
        }
        for (int[] r : roads) {
            for (int m = 0; m + r[2] <= t; m++) {
                spare[m * n + r[0]][(m + r[2]) * n + r[1]] += r[3];
                spare[m * n + r[1]][(m + r[2]) * n + r[0]] += r[4];
            }
        }
        int safe = 0;
        seen = new boolean[sink + 1];
        while (through(source, sink)) {
            safe++;
            seen = new boolean[sink + 1];
        }
        return safe;
    }

    private boolean through(int from, int sink) {
        if (from == sink) {
            return true;
        }
        seen[from] = true;
        for (int to = sink; to >= 0; to--) {
            if (spare[from][to] > 0 && !seen[to] && through(to, sink)) {
                spare[from][to]--;
                spare[to][from]++;
                return true;
            }
        }
        return false;
    }

    boolean open(int t, int place, int minute) {
        if (!in(t, 0, 40) || !isPlace(place) || !in(minute, 0, t)) {
            return false;
        }
        safe(t);
        seen = new boolean[spare.length];
        return through(minute * places.size() + place, spare.length - 1);
    }

    int openings(int t, int place) {
        if (!in(t, 0, 40) || !isPlace(place)) {
            return -1;
        }
        int n = 0;
        for (int m = 0; m <= t; m++) {
            n += open(t, place, m) ? 1 : 0;
        }
        return n;
    }

    /** QUICKEST, 41 for NONE, by halving: what is safe by a minute is safe by the next. */
    int quick() {
        int all = count(4);
        int low = 0;
        int high = NEVER;
        while (low < high) {
            int t = (low + high) / 2;
            if (safe(t) == all) {
                high = t;
            } else {
                low = t + 1;
            }
        }
        return low;
    }

    static int told(int quick) {
        return quick == NEVER ? -1 : quick;
    }

    // ---- what would be

    int quickWithRoad(int road, int there, int back) {
        int[] was = roads.get(road);
        int[] is = was.clone();
        is[3] = there;
        is[4] = back;
        roads.set(road, is);
        int quick = quick();
        roads.set(road, was);
        return quick;
    }

    int quickWithPlace(int place, int what, int v) {
        int[] was = places.get(place);
        int[] is = was.clone();
        is[what] = v;
        places.set(place, is);
        int quick = quick();
        places.set(place, was);
        return quick;
    }

    int shut(int road) {
        return isRoad(road) ? told(quickWithRoad(road, 0, 0)) : -2;
    }

    int wider(int road, boolean back, int k) {
        if (!isRoad(road) || !in(k, -9, 30)) {
            return -2;
        }
        int there = roads.get(road)[3] + (back ? 0 : k);
        int backs = roads.get(road)[4] + (back ? k : 0);
        return there < 0 || backs < 0 ? -2 : told(quickWithRoad(road, there, backs));
    }

    int turned(int road, int k) {
        return canTurn(road, k) ? told(quickWithRoad(road, roads.get(road)[3] + k, roads.get(road)[4] - k)) : -2;
    }

    int bestTurn(int what) {
        List<int[]> rows = new ArrayList<>();
        for (int r = 0; r < roads.size(); r++) {
            for (int k = -18; k <= 18; k++) {
                if (canTurn(r, k)) {
                    int[] road = roads.get(r);
                    rows.add(new int[] {quickWithRoad(r, road[3] + k, road[4] - k), Math.abs(k), r, k > 0 ? 0 : 1, k});
                }
            }
        }
        if (rows.isEmpty() || !in(what, 0, 2)) {
            return -2;
        }
        rows.sort(Plain::byRow);
        int[] first = rows.get(0);
        return first[0] >= quick() ? -2 : new int[] {first[0], first[2], first[4]}[what];
    }

    private static int byRow(int[] a, int[] b) {
        return java.util.Arrays.compare(a, b);
    }

    int turns(int set, int what) {
        if (!in(what, 0, 1) || set < 0 || set >= 1 << roads.size() || Integer.bitCount(set) > 4) {
            return -2;
        }
        List<int[]> rows = new ArrayList<>();
        collect(set, 0, 0, 0, rows);
        rows.sort(Plain::byRow);
        return what == 0 ? told(rows.get(0)[0]) : rows.get(0)[2];
    }

    private void collect(int set, int road, int notZero, int row, List<int[]> rows) {
        if (road == roads.size()) {
            rows.add(new int[] {quick(), notZero, row});
            return;
        }
        if ((set >> road & 1) == 0) {
            collect(set, road + 1, notZero, row, rows);
            return;
        }
        int[] was = roads.get(road);
        int all = was[3] + was[4];
        collect(set, road + 1, notZero, row * 3, rows);
        roads.set(road, new int[] {was[0], was[1], was[2], all, 0});
        collect(set, road + 1, notZero + 1, row * 3 + 1, rows);
        roads.set(road, new int[] {was[0], was[1], was[2], 0, all});
        collect(set, road + 1, notZero + 1, row * 3 + 2, rows);
        roads.set(road, was);
    }

    int roomy(int place, int v) {
        return isPlace(place) && in(v, 0, 300) ? told(quickWithPlace(place, 1, v)) : -2;
    }

    int best(int k) {
        if (places.isEmpty() || !in(k, 1, 300)) {
            return -2;
        }
        List<int[]> rows = new ArrayList<>();
        for (int p = 0; p < places.size(); p++) {
            rows.add(new int[] {quickWithPlace(p, 1, Math.min(300, places.get(p)[1] + k)), p});
        }
        rows.sort(Plain::byRow);
        return rows.get(0)[1];
    }

    int latest(int place) {
        if (!isPlace(place)) {
            return -2;
        }
        int quick = quick();
        if (quick == NEVER) {
            return -1;
        }
        int latest = 0;
        for (int begins = 0; begins <= 20; begins++) {
            if (quickWithPlace(place, 2, begins) <= quick) {
                latest = begins;
            }
        }
        return latest;
    }

    int worst() {
        List<int[]> rows = new ArrayList<>();
        for (int r = 0; r < roads.size(); r++) {
            rows.add(new int[] {-quickWithRoad(r, 0, 0), r});
        }
        rows.sort(Plain::byRow);
        return rows.isEmpty() ? -2 : rows.get(0)[1];
    }

    int lacks(int t, int road, boolean back) {
        if (!in(t, 0, 40) || !isRoad(road)) {
            return -2;
        }
        int[] was = roads.get(road);
        for (int more = 0; more <= 30; more++) {
            if (quickWithRoad(road, was[3] + (back ? 0 : more), was[4] + (back ? more : 0)) <= t) {
                return more;
            }
        }
        return -1;
    }

    // ---- the plan, everybody by himself

    private static final class Walker {
        final int homeAt;
        int at;
        int comes = -1;
        boolean home = true;
        boolean safe;

        Walker(int place) {
            homeAt = place;
            at = place;
        }

        boolean isHere(int place, int minute, int begins) {
            return !safe && at == place && comes <= minute && (!home || minute >= begins);
        }
    }

    int wrong;
    int ended;
    int latestSafe;
    private int crowdedPlace;
    private int crowdedMinute;
    private List<Walker> walkers;

    void go() {
        play(50);
        if (wrong == 0 && crowdedPlace >= 0) {
            int kind = 3 + 8 * crowdedPlace;
            play(crowdedMinute);
            wrong = kind;
        }
    }

    private void play(int last) {
        walkers = new ArrayList<>();
        for (int p = 0; p < places.size(); p++) {
            for (int i = 0; i < places.get(p)[0]; i++) {
                walkers.add(new Walker(p));
            }
        }
        wrong = 0;
        ended = -1;
        latestSafe = -1;
        crowdedPlace = -1;
        for (int minute = 0; minute <= last; minute++) {
            for (int p = 0; p < places.size(); p++) {
                int room = places.get(p)[1] - there(p, minute, 2);
                for (Walker w : some(p, minute, room)) {
                    w.safe = true;
                    w.home = false;
                    latestSafe = minute;
                }
            }
            if (!movesOf(minute)) {
                return;
            }
            ended = minute;
            for (int p = places.size() - 1; p >= 0; p--) {
                if (there(p, minute, 0) > places.get(p)[3] && (crowdedPlace < 0 || crowdedMinute == minute)) {
                    crowdedPlace = p;
                    crowdedMinute = minute;
                }
            }
        }
    }

    private boolean movesOf(int minute) {
        for (int k = 0; k < moves.size(); k++) {
            int[] m = moves.get(k);
            int[] r = roads.get(m[1]);
            if (m[0] != minute) {
                continue;
            }
            int out = 0;
            for (int j = 0; j <= k; j++) {
                int[] o = moves.get(j);
                out += o[0] == minute && o[1] == m[1] && o[2] == m[2] ? o[3] : 0;
            }
            List<Walker> go = some(r[m[2]], minute, m[3]);
            wrong = out > r[3 + m[2]] ? 1 + 8 * k : go.size() < m[3] ? 2 + 8 * k : 0;
            if (wrong != 0) {
                return false;
            }
            for (Walker w : go) {
                w.home = false;
                w.at = r[1 - m[2]];
                w.comes = minute + r[2];
            }
        }
        return true;
    }

    /** Of those here so many at most, those of the crowd first. */
    private List<Walker> some(int place, int minute, int most) {
        List<Walker> some = new ArrayList<>();
        for (int home = 0; home < 2; home++) {
            for (Walker w : walkers) {
                if (some.size() < most && w.home == (home == 1) && w.isHere(place, minute, places.get(place)[2])) {
                    some.add(w);
                }
            }
        }
        return some;
    }

    private int there(int place, int minute, int what) {
        int n = 0;
        for (Walker w : walkers) {
            boolean here = w.at == place && w.comes <= minute;
            n += here && (what == 0 ? !w.home && !w.safe : what == 1 ? w.home : w.safe) ? 1 : 0;
        }
        return n;
    }

    int planned(int what) {
        go();
        int minute = Math.min(50, wrong % 8 == 1 || wrong % 8 == 2 ? ended + 1 : ended);
        int[] sums = new int[5];
        sums[1] = latestSafe;
        for (Walker w : walkers) {
            sums[w.safe ? 0 : w.home ? 3 : w.comes > minute ? 2 : 4]++;
        }
        return in(what, 0, 4) ? sums[what] : -1;
    }

    int thereAt(int place, int minute, int what) {
        if (!isPlace(place) || !in(minute, 0, 50) || !in(what, 0, 2)) {
            return -1;
        }
        go();
        if (minute > ended) {
            return -1;
        }
        play(minute);
        return there(place, minute, what);
    }
}
