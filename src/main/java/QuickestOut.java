import java.util.Arrays;
import java.util.NoSuchElementException;

/** All are to leave, the last one as soon as can be: README.md tells how to use it. */
public final class QuickestOut {
    /** There is none. */
    public static final int NONE = -1;

    private static final int NO_SUCH = -2;
    private static final int PLACES = 8;
    private static final int ROADS = 12;
    private static final int WAYS = 2 * ROADS;
    private static final int MOVES = 40;
    private static final int TAPE = 400;

    private static final int PEOPLE = 0;
    private static final int ROOM = 1;
    private static final int BEGINS = 2;
    private static final int HOLD = 3;
    private static final int FACTS = 4;

    private static final int MOST_ROOM = 300;
    private static final int LATEST_BEGIN = 20;
    private static final int MOST_EXTRA_LANES = 30;
    private static final int LAST_T = 40;
    /** Stands for a QUICKEST of NONE, so that every number is less. */
    private static final int NEVER = LAST_T + 1;
    private static final int LAST_MINUTE = 50;

    private final Town town;
    private final Plan plan;
    private final Reader reader;
    private final Network network;
    private final Turner turner;

    public QuickestOut() {
        town = new Town();
        plan = new Plan(town);
        reader = new Reader(town, plan);
        network = new Network(town);
        turner = new Turner(town, network);
    }

    // ---- what is told

    public int feed(int a, int b, int c, int d, int e) {
        if (!reader.hasSpace(20)) {
            return NONE;
        }
        reader.append(a);
        reader.append(b);
        reader.append(c);
        reader.append(d);
        reader.append(e);
        return reader.length;
    }

    public boolean end(int n) {
        if (n < 0 || n > reader.length) {
            return false;
        }
        reader.length = n;
        return true;
    }

    public int tell() {
        return reader.readAll();
    }

    public int fault() {
        return reader.faultTold;
    }

    public int place(int people, int room, int begins, int hold) {
        if (!town.factFits(PEOPLE, people) || !town.factFits(ROOM, room)
                || !town.factFits(BEGINS, begins) || !town.factFits(HOLD, hold)) {
            return NONE;
        }
        if (town.places >= PLACES) {
            return NO_SUCH;
        }
        return town.addPlace(people, room, begins, hold);
    }

    public int road(int a, int b, int minutes, int there, int back) {
        if (!town.roadFits(0, a, 0) || !town.roadFits(1, b, a) || !town.roadFits(2, minutes, b)
                || !town.roadFits(3, there, minutes) || !town.roadFits(4, back, there)) {
            return NONE;
        }
        if (town.roads >= ROADS) {
            return NO_SUCH;
        }
        return town.addRoad(a, b, minutes, there, back);
    }

    public boolean turn(int road, int k) {
        if (!town.turnFits(road, k)) {
            return false;
        }
        town.shiftLanes(road, k);
        return true;
    }

    public boolean set(int place, int what, int v) {
        if (!town.hasPlace(place) || !town.factFits(what, v) || town.fact(place, what) == v) {
            return false;
        }
        town.change(place, what, v);
        return true;
    }

    public int drop() {
        if (town.roads == 0) {
            return NONE;
        }
        town.roads--;
        plan.forgetRoad(town.roads);
        return town.roads;
    }

    public int move(int minute, int road, boolean back, int many) {
        if (!plan.moveFits(0, minute) || !plan.moveFits(1, road) || !plan.moveFits(2, many)) {
            return NONE;
        }
        if (plan.moves >= MOVES) {
            return NO_SUCH;
        }
        return plan.add(minute, road, back, many);
    }

    public int back(int n) {
        if (n < 1) {
            return NONE;
        }
        plan.moves = n > plan.moves ? 0 : plan.moves - n;
        return plan.moves;
    }

    public int count(int what) {
        switch (what) {
            case 0: return town.places;
            case 1: return town.roads;
            case 2: return plan.moves;
            case 3: return reader.length;
            case 4: return town.total(PEOPLE);
            case 5: return town.total(ROOM);
            default: return NONE;
        }
    }

    public int of(int place, int what) {
        return town.hasPlace(place) && town.hasFact(what) ? town.fact(place, what) : NONE;
    }

    public int along(int road, int what) throws NoSuchElementException {
        if (!town.hasRoad(road) || what < 0 || what > 4) {
            throw new NoSuchElementException("no such road, or nothing such of it");
        }
        switch (what) {
            case 0: return town.starts[2 * road];
            case 1: return town.starts[2 * road + 1];
            case 2: return town.minutes[road];
            case 3: return town.lanes[2 * road];
            default: return town.lanes[2 * road + 1];
        }
    }

    // ---- as soon as can be

    public int safe(int t) {
        return isT(t) ? network.mostSafeBy(t) : NONE;
    }

    public int quickest() {
        return told(network.soonest());
    }

    public boolean open(int t, int place, int minute) {
        if (!isT(t) || !town.hasPlace(place) || minute < 0 || minute > t) {
            return false;
        }
        network.findOpen(t);
        return network.isOpen(place, minute);
    }

    public int openings(int t, int place) {
        if (!isT(t) || !town.hasPlace(place)) {
            return NONE;
        }
        network.findOpen(t);
        int minutes = 0;
        for (int minute = 0; minute <= t; minute++) {
            if (network.isOpen(place, minute)) {
                minutes++;
            }
        }
        return minutes;
    }

    // ---- what would be (QUICKEST then; NONE: by none; -2: there are none such)

    public int shut(int road) {
        return town.hasRoad(road) ? told(soonestWithout(road, 0)) : NO_SUCH;
    }

    public int wider(int road, boolean back, int k) {
        if (!town.hasRoad(road) || k < -9 || k > MOST_EXTRA_LANES) {
            return NO_SUCH;
        }
        int way = way(road, back);
        if (town.lanes[way] + k < 0) {
            return NO_SUCH;
        }
        town.lanes[way] += k;
        int quick = network.soonest();
        town.lanes[way] -= k;
        return told(quick);
    }

    public int turned(int road, int k) {
        if (!town.turnFits(road, k)) {
            return NO_SUCH;
        }
        town.shiftLanes(road, k);
        int quick = network.soonest();
        town.shiftLanes(road, -k);
        return told(quick);
    }

    public int bestTurn(int what) {
        if (what < 0 || what > 2 || !turner.findTurn()) {
            return NO_SUCH;
        }
        if (what == 0) {
            return turner.quick;
        }
        return what == 1 ? turner.road : turner.k;
    }

    public int turns(int set, int what) {
        if (what < 0 || what > 1 || set >>> town.roads != 0 || Integer.bitCount(set) > Turner.MOST_IN_SET) {
            return NO_SUCH;
        }
        turner.findRow(set);
        return what == 0 ? told(turner.quick) : turner.row;
    }

    public int roomy(int place, int v) {
        if (!town.hasPlace(place) || !town.factFits(ROOM, v)) {
            return NO_SUCH;
        }
        int room = town.fact(place, ROOM);
        town.change(place, ROOM, v);
        int quick = network.soonest();
        town.change(place, ROOM, room);
        return told(quick);
    }

    public int best(int k) {
        if (town.places == 0 || k < 1 || k > MOST_ROOM) {
            return NO_SUCH;
        }
        int found = 0;
        int least = NEVER;
        for (int place = 0; place < town.places && least > 0; place++) {
            int room = town.fact(place, ROOM);
            town.change(place, ROOM, Math.min(MOST_ROOM, room + k));
            int quick = network.allSafeBy(least - 1) ? network.soonestWithin(0, least) : least;
            town.change(place, ROOM, room);
            if (quick < least) {
                least = quick;
                found = place;
            }
        }
        return found;
    }

    public int latest(int place) {
        if (!town.hasPlace(place)) {
            return NO_SUCH;
        }
        int quick = network.soonest();
        if (quick == NEVER) {
            return NONE;
        }
        int begins = town.fact(place, BEGINS);
        int good = begins;
        int bad = LATEST_BEGIN + 1;
        // To begin later never lets anybody be safe sooner, so halving finds the last good one.
        for (int n = 0; n < LATEST_BEGIN && bad - good > 1; n++) {
            int middle = (good + bad) / 2;
            town.change(place, BEGINS, middle);
            if (network.allSafeBy(quick)) {
                good = middle;
            } else {
                bad = middle;
            }
        }
        town.change(place, BEGINS, begins);
        return good;
    }

    public int worst() {
        if (town.roads == 0) {
            return NO_SUCH;
        }
        int found = 0;
        int greatest = network.soonest();
        for (int road = 0; road < town.roads && greatest < NEVER; road++) {
            int quick = soonestWithout(road, greatest);
            if (quick > greatest) {
                greatest = quick;
                found = road;
            }
        }
        return found;
    }

    public int lacks(int t, int road, boolean back) {
        if (!isT(t) || !town.hasRoad(road)) {
            return NO_SUCH;
        }
        int way = way(road, back);
        if (network.allSafeBy(t)) {
            return 0;
        }
        if (!allSafeWith(way, MOST_EXTRA_LANES, t)) {
            return NONE;
        }
        int bad = 0;
        int good = MOST_EXTRA_LANES;
        // More lanes never hinder, so halving finds the fewest.
        for (int n = 0; n < MOST_EXTRA_LANES && good - bad > 1; n++) {
            int middle = (good + bad) / 2;
            if (allSafeWith(way, middle, t)) {
                good = middle;
            } else {
                bad = middle;
            }
        }
        return good;
    }

    // ---- the plan

    public int moved(int k, int what) {
        return k >= 0 && k < plan.moves && what >= 0 && what < Plan.PARTS ? plan.part(k, what) : NONE;
    }

    public int wrong() {
        plan.judge();
        return plan.verdict;
    }

    public int planned(int what) {
        plan.judge();
        switch (what) {
            case 0: return plan.sum(plan.inside);
            case 1: return plan.latestSafe;
            case 2: return plan.onRoads;
            case 3: return plan.sum(plan.home);
            case 4: return plan.sum(plan.crowd);
            default: return NONE;
        }
    }

    public int there(int place, int minute, int what) {
        if (!town.hasPlace(place) || minute < 0 || minute > LAST_MINUTE || what < 0 || what > 2) {
            return NONE;
        }
        plan.judge();
        if (minute > plan.ended) {
            return NONE;
        }
        plan.play(minute);
        if (what == 0) {
            return plan.crowd[place];
        }
        return what == 1 ? plan.home[place] : plan.inside[place];
    }

    private static boolean isT(int t) {
        return t >= 0 && t <= LAST_T;
    }

    private static int told(int quick) {
        return quick == NEVER ? NONE : quick;
    }

    private static int way(int road, boolean back) {
        return back ? 2 * road + 1 : 2 * road;
    }

    /** QUICKEST without a road, if it is more than that; that, if not. */
    private int soonestWithout(int road, int that) {
        int there = town.lanes[2 * road];
        int back = town.lanes[2 * road + 1];
        town.lanes[2 * road] = 0;
        town.lanes[2 * road + 1] = 0;
        int quick = network.soonestWithin(that, NEVER);
        town.lanes[2 * road] = there;
        town.lanes[2 * road + 1] = back;
        return quick;
    }

    private boolean allSafeWith(int way, int more, int t) {
        town.lanes[way] += more;
        boolean all = network.allSafeBy(t);
        town.lanes[way] -= more;
        return all;
    }

    /** The places and the roads; a road has two ways: 2 road is there, 2 road + 1 back. */
    private static final class Town {
        int places;
        int roads;
        final int[] minutes = new int[ROADS];
        /** The place where a way starts; it leads to where the road's other way starts. */
        final int[] starts = new int[WAYS];
        final int[] lanes = new int[WAYS];
        private final int[] facts = new int[PLACES * FACTS];

        boolean hasPlace(int place) {
            return place >= 0 && place < places;
        }

        boolean hasRoad(int road) {
            return road >= 0 && road < roads;
        }

        boolean hasFact(int what) {
            return what >= 0 && what < FACTS;
        }

        int fact(int place, int what) {
            return facts[place * FACTS + what];
        }

        void change(int place, int what, int v) {
            facts[place * FACTS + what] = v;
        }

        int total(int what) {
            int sum = 0;
            for (int place = 0; place < places; place++) {
                sum += fact(place, what);
            }
            return sum;
        }

        boolean factFits(int what, int v) {
            switch (what) {
                case PEOPLE: return v >= 0 && v <= 60;
                case ROOM: return v >= 0 && v <= MOST_ROOM;
                case BEGINS: return v >= 0 && v <= LATEST_BEGIN;
                case HOLD: return v >= 0 && v <= 300;
                default: return false;
            }
        }

        /** Whether v can be a road's number at index (A, B, MINUTES, THERE, BACK), with the one before it. */
        boolean roadFits(int index, int v, int before) {
            switch (index) {
                case 0: return hasPlace(v);
                case 1: return hasPlace(v) && v != before;
                case 2: return v >= 1 && v <= 9;
                case 3: return v >= 0 && v <= 9;
                default: return v >= 0 && v <= 9 && (v > 0 || before > 0);
            }
        }

        boolean turnFits(int road, int k) {
            return hasRoad(road) && k != 0 && k >= -lanes[2 * road] && k <= lanes[2 * road + 1];
        }

        void shiftLanes(int road, int k) {
            lanes[2 * road] += k;
            lanes[2 * road + 1] -= k;
        }

        int addPlace(int people, int room, int begins, int hold) {
            change(places, PEOPLE, people);
            change(places, ROOM, room);
            change(places, BEGINS, begins);
            change(places, HOLD, hold);
            places++;
            return places - 1;
        }

        int addRoad(int a, int b, int takes, int thereLanes, int backLanes) {
            starts[2 * roads] = a;
            starts[2 * roads + 1] = b;
            minutes[roads] = takes;
            lanes[2 * roads] = thereLanes;
            lanes[2 * roads + 1] = backLanes;
            roads++;
            return roads - 1;
        }
    }

    /** The moves, and the town as far as they have been played. */
    private static final class Plan {
        static final int PARTS = 4;
        private static final int MINUTE = 0;
        private static final int ROAD = 1;
        private static final int BACK = 2;
        private static final int MANY = 3;
        private static final int TOO_FEW_LANES = 1;
        private static final int TOO_FEW_HERE = 2;
        private static final int TOO_CROWDED = 3;

        int moves;
        int verdict;
        /** The last minute whose end was reached. */
        int ended;
        int latestSafe;
        int onRoads;
        final int[] crowd = new int[PLACES];
        final int[] home = new int[PLACES];
        final int[] inside = new int[PLACES];
        private final Town town;
        private final int[] parts = new int[MOVES * PARTS];
        private final int[] coming = new int[(LAST_MINUTE + 1) * PLACES];
        private final int[] setOut = new int[WAYS];
        private int crowdedPlace;
        private int crowdedMinute;

        Plan(Town town) {
            this.town = town;
        }

        int part(int move, int what) {
            return parts[move * PARTS + what];
        }

        /** Whether v can be a move's number at index: its minute, its road, how many. */
        boolean moveFits(int index, int v) {
            switch (index) {
                case 0: return v >= 0 && v <= 40;
                case 1: return town.hasRoad(v);
                default: return v >= 1 && v <= 60;
            }
        }

        int add(int minute, int road, boolean isBack, int many) {
            int at = moves * PARTS;
            parts[at + MINUTE] = minute;
            parts[at + ROAD] = road;
            parts[at + BACK] = isBack ? 1 : 0;
            parts[at + MANY] = many;
            moves++;
            return moves - 1;
        }

        void forgetRoad(int road) {
            int kept = 0;
            for (int i = 0; i < moves; i++) {
                if (part(i, ROAD) != road) {
                    System.arraycopy(parts, i * PARTS, parts, kept * PARTS, PARTS);
                    kept++;
                }
            }
            moves = kept;
        }

        int sum(int[] people) {
            int sum = 0;
            for (int place = 0; place < town.places; place++) {
                sum += people[place];
            }
            return sum;
        }

        /** Plays the plan as far as it goes; a crowd counts only if every move can be. */
        void judge() {
            play(LAST_MINUTE);
            if (verdict == 0 && crowdedPlace != NONE) {
                int wrong = TOO_CROWDED + 8 * crowdedPlace;
                play(crowdedMinute);
                verdict = wrong;
            }
        }

        void play(int last) {
            bringHome();
            for (int minute = 0; minute <= last && verdict == 0; minute++) {
                for (int place = 0; place < town.places; place++) {
                    arrive(place, minute);
                    takeShelter(place, minute);
                }
                makeMoves(minute);
                if (verdict == 0) {
                    ended = minute;
                    noteCrowds(minute);
                }
            }
        }

        private void bringHome() {
            verdict = 0;
            ended = NONE;
            latestSafe = NONE;
            onRoads = 0;
            crowdedPlace = NONE;
            crowdedMinute = NONE;
            Arrays.fill(coming, 0);
            for (int place = 0; place < town.places; place++) {
                crowd[place] = 0;
                inside[place] = 0;
                home[place] = town.fact(place, PEOPLE);
            }
        }

        private void arrive(int place, int minute) {
            int many = coming[minute * PLACES + place];
            crowd[place] += many;
            onRoads -= many;
        }

        private void takeShelter(int place, int minute) {
            int room = town.fact(place, ROOM) - inside[place];
            int fromCrowd = Math.min(room, crowd[place]);
            int fromHome = Math.min(room - fromCrowd, leavers(place, minute));
            crowd[place] -= fromCrowd;
            home[place] -= fromHome;
            inside[place] += fromCrowd + fromHome;
            if (fromCrowd + fromHome > 0) {
                latestSafe = minute;
            }
        }

        private int leavers(int place, int minute) {
            return minute >= town.fact(place, BEGINS) ? home[place] : 0;
        }

        private void makeMoves(int minute) {
            Arrays.fill(setOut, 0);
            for (int i = 0; i < moves && verdict == 0; i++) {
                if (part(i, MINUTE) == minute) {
                    verdict = makeMove(i, minute);
                }
            }
        }

        private int makeMove(int move, int minute) {
            int road = part(move, ROAD);
            int way = 2 * road + part(move, BACK);
            int many = part(move, MANY);
            int from = town.starts[way];
            if (setOut[way] + many > town.lanes[way]) {
                return TOO_FEW_LANES + 8 * move;
            }
            if (many > crowd[from] + leavers(from, minute)) {
                return TOO_FEW_HERE + 8 * move;
            }
            int fromCrowd = Math.min(many, crowd[from]);
            crowd[from] -= fromCrowd;
            home[from] -= many - fromCrowd;
            setOut[way] += many;
            onRoads += many;
            // A move sets out by minute 40 and takes at most 9, so it comes by minute 50.
            coming[(minute + town.minutes[road]) * PLACES + town.starts[way ^ 1]] += many;
            return 0;
        }

        private void noteCrowds(int minute) {
            for (int place = 0; place < town.places && crowdedPlace == NONE; place++) {
                if (crowd[place] > town.fact(place, HOLD)) {
                    crowdedPlace = place;
                    crowdedMinute = minute;
                }
            }
        }
    }

    /** The tape, and what reads it into the town and the plan. */
    private static final class Reader {
        private static final int END = 0;
        private static final int WORD = 1;
        private static final int INT = 2;
        private static final int SIGN = 3;
        private static final int TOO_LONG = 4;

        private static final int PLACE = 0;
        private static final int ROAD = 1;
        private static final int TURN = 2;
        private static final int MOVE = 3;

        private static final int CANNOT_STAND = 1;
        private static final int CANNOT_BE = 2;
        private static final int TOO_MANY = 3;

        int length;
        int faultTold;
        private final Town town;
        private final Plan plan;
        private final byte[] tape = new byte[TAPE];
        private int next;
        private int kind;
        private int start;
        private int value;
        private final int[] ints = new int[5];
        private boolean isBack;
        private final int[] lanesBefore = new int[WAYS];

        Reader(Town town, Plan plan) {
            this.town = town;
            this.plan = plan;
        }

        boolean hasSpace(int bytes) {
            return length + bytes <= TAPE;
        }

        void append(int number) {
            for (int shift = 24; shift >= 0; shift -= 8) {
                tape[length] = (byte) (number >> shift);
                length++;
            }
        }

        /** How many statements; with a fault NONE, and the town and the plan are as they were. */
        int readAll() {
            int places = town.places;
            int roads = town.roads;
            int moves = plan.moves;
            System.arraycopy(town.lanes, 0, lanesBefore, 0, WAYS);
            faultTold = 0;
            next = 0;
            int statements = 0;
            readToken();
            while (statements <= TAPE && kind != END && readStatement()) {
                statements++;
                readToken();
            }
            length = 0;
            if (faultTold == 0) {
                return statements;
            }
            town.places = places;
            town.roads = roads;
            plan.moves = moves;
            System.arraycopy(lanesBefore, 0, town.lanes, 0, WAYS);
            return NONE;
        }

        private boolean readStatement() {
            int statement = statementOf();
            if (statement == NONE) {
                return refuse(CANNOT_STAND);
            }
            if (isFull(statement)) {
                return refuse(TOO_MANY);
            }
            if (!readInts(statement)) {
                return false;
            }
            readToken();
            if (kind != SIGN || value != ';') {
                return refuse(CANNOT_STAND);
            }
            carryOut(statement);
            return true;
        }

        private boolean refuse(int why) {
            faultTold = why + 8 * start;
            return false;
        }

        private int statementOf() {
            if (isWord("place")) {
                return PLACE;
            }
            if (isWord("road")) {
                return ROAD;
            }
            if (isWord("turn")) {
                return TURN;
            }
            return isWord("move") ? MOVE : NONE;
        }

        private boolean isFull(int statement) {
            switch (statement) {
                case PLACE: return town.places >= PLACES;
                case ROAD: return town.roads >= ROADS;
                case MOVE: return plan.moves >= MOVES;
                default: return false;
            }
        }

        private boolean readInts(int statement) {
            int many = intsOf(statement);
            for (int index = 0; index < many; index++) {
                if (statement == MOVE && index == 2 && !readWay()) {
                    return false;
                }
                readToken();
                if (kind != INT) {
                    return refuse(CANNOT_STAND);
                }
                if (!intFits(statement, index)) {
                    return refuse(CANNOT_BE);
                }
                ints[index] = value;
            }
            return true;
        }

        private static int intsOf(int statement) {
            switch (statement) {
                case PLACE: return 4;
                case ROAD: return 5;
                case TURN: return 2;
                default: return 3;
            }
        }

        private boolean readWay() {
            readToken();
            isBack = isWord("back");
            return isBack || isWord("there") || refuse(CANNOT_STAND);
        }

        private boolean intFits(int statement, int index) {
            int before = index > 0 ? ints[index - 1] : 0;
            switch (statement) {
                case PLACE: return town.factFits(index, value);
                case ROAD: return town.roadFits(index, value, before);
                case TURN: return index == 0 ? town.hasRoad(value) : town.turnFits(before, value);
                default: return plan.moveFits(index, value);
            }
        }

        private void carryOut(int statement) {
            switch (statement) {
                case PLACE:
                    town.addPlace(ints[0], ints[1], ints[2], ints[3]);
                    break;
                case ROAD:
                    town.addRoad(ints[0], ints[1], ints[2], ints[3], ints[4]);
                    break;
                case TURN:
                    town.shiftLanes(ints[0], ints[1]);
                    break;
                default:
                    plan.add(ints[0], ints[1], isBack, ints[2]);
                    break;
            }
        }

        private void readToken() {
            while (next < length && (tape[next] == 32 || tape[next] == 10)) {
                next++;
            }
            start = next;
            if (next >= length) {
                kind = END;
            } else if (isLetter(next)) {
                readLetters();
            } else if (isDigit(next) || tape[next] == '-' && isDigit(next + 1)) {
                readNumber();
            } else {
                kind = SIGN;
                value = tape[next];
                next++;
            }
        }

        private void readLetters() {
            kind = WORD;
            while (isLetter(next) && next < length) {
                next++;
            }
        }

        private void readNumber() {
            boolean below = tape[next] == '-';
            if (below) {
                next++;
            }
            int first = next;
            value = 0;
            while (isDigit(next) && next < length) {
                value = value * 10 + tape[next] - '0';
                next++;
            }
            kind = next - first > 3 ? TOO_LONG : INT;
            if (below) {
                value = -value;
            }
        }

        private boolean isLetter(int at) {
            return at < length && tape[at] >= 'a' && tape[at] <= 'z';
        }

        private boolean isDigit(int at) {
            return at < length && tape[at] >= '0' && tape[at] <= '9';
        }

        private boolean isWord(String word) {
            if (kind != WORD || next - start != word.length()) {
                return false;
            }
            for (int i = 0; i < word.length(); i++) {
                if (tape[start + i] != word.charAt(i)) {
                    return false;
                }
            }
            return true;
        }
    }

    /**
     * Who can be safe, as the greatest flow through the town laid out minute by minute: from the
     * source to the homes, to the places in each minute, to the shelters, to the sink.
     */
    private static final class Network {
        private static final int HOMES = (LAST_T + 1) * PLACES;
        private static final int SHELTERS = HOMES + PLACES;
        private static final int SOURCE = SHELTERS + PLACES;
        private static final int SINK = SOURCE + 1;
        private static final int NODES = SINK + 1;
        /** Each with its opposite: home, shelter, waiting, and every way, in each minute; source and sink. */
        private static final int ARCS = 2 * ((3 * PLACES + WAYS) * (LAST_T + 1) + 2 * PLACES);
        private static final int FAR_MORE = 1000000;

        private final Town town;
        private int arcs;
        private int last;
        private int people;
        private int safeNow;
        private final int[] first = new int[NODES];
        private final int[] after = new int[ARCS];
        private final int[] leadsTo = new int[ARCS];
        private final int[] spare = new int[ARCS];
        /** How many arcs, all with something spare, lead to the sink; NONE: none do, or it was not looked for. */
        private final int[] toSink = new int[NODES];
        private final int[] trying = new int[NODES];
        private final int[] row = new int[NODES];
        private final int[] crossing = new int[WAYS];
        private final int[] toShelter = new int[PLACES];

        Network(Town town) {
            this.town = town;
        }

        int mostSafeBy(int t) {
            fillUpTo(t);
            return safeNow;
        }

        boolean allSafeBy(int t) {
            if (leastThinkable() > t) {
                return false;
            }
            fillUpTo(t);
            return safeNow == people;
        }

        /** QUICKEST; NEVER: by none. */
        int soonest() {
            return soonestWithin(0, NEVER);
        }

        /** QUICKEST, but least, if it is less than that, and bound, if it is not less than that. */
        int soonestWithin(int least, int bound) {
            int from = Math.max(least, leastThinkable());
            if (from >= bound) {
                return bound;
            }
            fillUpTo(from);
            for (int t = from + 1; t < bound && safeNow < people; t++) {
                addMinute();
                push();
            }
            return safeNow == people ? last : bound;
        }

        /** Finds out from where one more could get through by t. */
        void findOpen(int t) {
            fillUpTo(t);
            reachSource();
        }

        boolean isOpen(int place, int minute) {
            return toSink[minute * PLACES + place] != NONE;
        }

        /**
         * Not all can be safe by t: finds where they can't get through, and answers how many are
         * too many. Unless so many more can cross there, no change of lanes lets all through.
         */
        int squeeze(int t) {
            fillUpTo(t);
            for (int way = 0; way < 2 * town.roads; way++) {
                crossing[way] = countCrossing(way, t);
            }
            return people - safeNow;
        }

        /** How many more could cross where it is narrow, were k lanes of a road turned. */
        int crossingMore(int road, int k) {
            return k * (crossing[2 * road] - crossing[2 * road + 1]);
        }

        private int countCrossing(int way, int t) {
            int minutes = 0;
            int takes = town.minutes[way / 2];
            for (int minute = 0; minute + takes <= t; minute++) {
                if (!isOpen(town.starts[way], minute) && isOpen(town.starts[way ^ 1], minute + takes)) {
                    minutes++;
                }
            }
            return minutes;
        }

        /** QUICKEST, had every road lanes for all and every shelter room for all: it can't be less. */
        private int leastThinkable() {
            if (town.total(PEOPLE) > town.total(ROOM)) {
                return NEVER;
            }
            measureRoads();
            int least = 0;
            for (int place = 0; place < town.places; place++) {
                if (town.fact(place, PEOPLE) > 0) {
                    least = Math.max(least, town.fact(place, BEGINS) + toShelter[place]);
                }
            }
            return Math.min(least, NEVER);
        }

        private void measureRoads() {
            for (int place = 0; place < town.places; place++) {
                toShelter[place] = town.fact(place, ROOM) > 0 ? 0 : NEVER;
            }
            for (int round = 1; round < town.places; round++) {
                for (int way = 0; way < 2 * town.roads; way++) {
                    int from = town.starts[way];
                    int minutes = town.minutes[way / 2] + toShelter[town.starts[way ^ 1]];
                    if (town.lanes[way] > 0 && minutes < toShelter[from]) {
                        toShelter[from] = minutes;
                    }
                }
            }
        }

        private void fillUpTo(int t) {
            begin();
            for (int minute = 0; minute <= t; minute++) {
                addMinute();
            }
            push();
        }

        private void begin() {
            Arrays.fill(first, NONE);
            arcs = 0;
            last = NONE;
            safeNow = 0;
            people = town.total(PEOPLE);
            for (int place = 0; place < town.places; place++) {
                join(SOURCE, HOMES + place, town.fact(place, PEOPLE));
                join(SHELTERS + place, SINK, town.fact(place, ROOM));
            }
        }

        private void addMinute() {
            last++;
            int now = last * PLACES;
            for (int place = 0; place < town.places; place++) {
                join(now + place, SHELTERS + place, town.fact(place, ROOM));
                if (last > 0) {
                    join(now - PLACES + place, now + place, town.fact(place, HOLD));
                }
                if (last >= town.fact(place, BEGINS)) {
                    join(HOMES + place, now + place, town.fact(place, PEOPLE));
                }
            }
            for (int way = 0; way < 2 * town.roads; way++) {
                int takes = town.minutes[way / 2];
                if (last >= takes) {
                    join(now - takes * PLACES + town.starts[way], now + town.starts[way ^ 1], town.lanes[way]);
                }
            }
        }

        private void join(int from, int to, int most) {
            if (most > 0) {
                addArc(from, to, most);
                addArc(to, from, 0);
            }
        }

        private void addArc(int from, int to, int most) {
            leadsTo[arcs] = to;
            spare[arcs] = most;
            after[arcs] = first[from];
            first[from] = arcs;
            arcs++;
        }

        /** Lets as many more through as can be. */
        private void push() {
            for (int round = 0; round < FAR_MORE && safeNow < people && reachSource(); round++) {
                fillPaths();
            }
        }

        /** Goes from the sink back till the source is reached; false: all from where the sink can be reached is marked. */
        private boolean reachSource() {
            Arrays.fill(toSink, NONE);
            toSink[SINK] = 0;
            row[0] = SINK;
            int found = 1;
            for (int i = 0; i < NODES && i < found && toSink[SOURCE] == NONE; i++) {
                int node = row[i];
                int arc = first[node];
                for (int n = 0; n < ARCS && arc != NONE; n++) {
                    int from = leadsTo[arc];
                    if (spare[arc ^ 1] > 0 && toSink[from] == NONE) {
                        toSink[from] = toSink[node] + 1;
                        row[found] = from;
                        found++;
                    }
                    arc = after[arc];
                }
            }
            return toSink[SOURCE] != NONE;
        }

        /** Fills all shortest paths; row holds the arcs of the one that is being tried. */
        private void fillPaths() {
            System.arraycopy(first, 0, trying, 0, NODES);
            int node = SOURCE;
            int depth = 0;
            for (int step = 0; step < FAR_MORE; step++) {
                if (node == SINK) {
                    depth = fillPath(depth);
                    node = leadsTo[row[depth] ^ 1];
                }
                int arc = arcNearer(node);
                if (arc != NONE) {
                    row[depth] = arc;
                    depth++;
                    node = leadsTo[arc];
                } else if (depth == 0) {
                    return;
                } else {
                    depth--;
                    node = leadsTo[row[depth] ^ 1];
                    trying[node] = after[row[depth]];
                }
            }
        }

        private int arcNearer(int node) {
            int arc = trying[node];
            int nearer = toSink[node] - 1;
            for (int n = 0; n < ARCS && arc != NONE; n++) {
                if (spare[arc] > 0 && toSink[leadsTo[arc]] == nearer) {
                    break;
                }
                arc = after[arc];
            }
            trying[node] = arc;
            return arc;
        }

        /** Fills the path with as many as it takes; answers where its first full arc is. */
        private int fillPath(int depth) {
            int many = people;
            for (int i = 0; i < depth; i++) {
                many = spare[row[i]] < many ? spare[row[i]] : many;
            }
            int full = 0;
            for (int i = depth - 1; i >= 0; i--) {
                spare[row[i]] -= many;
                spare[row[i] ^ 1] += many;
                if (spare[row[i]] == 0) {
                    full = i;
                }
            }
            safeNow += many;
            return full;
        }
    }

    /** Looks for the lanes to turn. */
    private static final class Turner {
        static final int MOST_IN_SET = 4;
        private static final int MOST_LANES = 18;

        int quick;
        int road;
        int k;
        int row;
        private final Town town;
        private final Network network;
        private int tooMany;
        private int chosen;
        private final int[] roadsOfSet = new int[MOST_IN_SET];
        private final int[] lanesBefore = new int[WAYS];

        Turner(Town town, Network network) {
            this.town = town;
            this.network = network;
        }

        /** Tries turns, the first of equals ahead, so that only a quicker one counts. */
        boolean findTurn() {
            int asItIs = network.soonest();
            quick = asItIs;
            findNarrow();
            for (int size = 1; size <= MOST_LANES; size++) {
                for (int tried = 0; tried < 2 * town.roads && quick > 0; tried++) {
                    if (tryTurn(tried / 2, tried % 2 == 0 ? size : -size)) {
                        findNarrow();
                    }
                }
            }
            return quick < asItIs;
        }

        private boolean tryTurn(int tried, int lanes) {
            if (!town.turnFits(tried, lanes) || network.crossingMore(tried, lanes) < tooMany) {
                return false;
            }
            town.shiftLanes(tried, lanes);
            int found = network.allSafeBy(quick - 1) ? network.soonestWithin(0, quick) : quick;
            town.shiftLanes(tried, -lanes);
            if (found == quick) {
                return false;
            }
            quick = found;
            road = tried;
            k = lanes;
            return true;
        }

        /** Tries rows, those with fewest turned first, then the least, so that only a quicker one counts. */
        void findRow(int set) {
            int rows = choose(set);
            row = 0;
            quick = network.soonest();
            findNarrow();
            for (int notZero = 1; notZero <= chosen; notZero++) {
                for (int tried = 1; tried < rows && quick > 0; tried++) {
                    if (digitsNotZero(tried) == notZero && tryRow(tried)) {
                        findNarrow();
                    }
                }
            }
        }

        private int choose(int set) {
            chosen = 0;
            int rows = 1;
            for (int one = 0; one < town.roads && chosen < MOST_IN_SET; one++) {
                if ((set >> one & 1) == 1) {
                    roadsOfSet[chosen] = one;
                    chosen++;
                    rows *= 3;
                }
            }
            return rows;
        }

        private static int digitsNotZero(int number) {
            int notZero = 0;
            int rest = number;
            for (int i = 0; i < MOST_IN_SET; i++) {
                if (rest % 3 != 0) {
                    notZero++;
                }
                rest /= 3;
            }
            return notZero;
        }

        private boolean tryRow(int tried) {
            System.arraycopy(town.lanes, 0, lanesBefore, 0, WAYS);
            int more = 0;
            int rest = tried;
            for (int i = chosen - 1; i >= 0; i--) {
                more += turnAll(roadsOfSet[i], rest % 3);
                rest /= 3;
            }
            int found = quick;
            if (more >= tooMany && network.allSafeBy(quick - 1)) {
                found = network.soonestWithin(0, quick);
            }
            System.arraycopy(lanesBefore, 0, town.lanes, 0, WAYS);
            if (found == quick) {
                return false;
            }
            quick = found;
            row = tried;
            return true;
        }

        /** Turns a road as the digit says; how many more could cross the narrow by that. */
        private int turnAll(int turnedRoad, int digit) {
            if (digit == 0) {
                return 0;
            }
            int lanes = digit == 1 ? town.lanes[2 * turnedRoad + 1] : -town.lanes[2 * turnedRoad];
            town.shiftLanes(turnedRoad, lanes);
            return network.crossingMore(turnedRoad, lanes);
        }

        /** From now on only what is quicker counts; what can't get through the narrow is not tried. */
        private void findNarrow() {
            tooMany = quick > 0 ? network.squeeze(quick - 1) : 1;
        }
    }
}
