import java.util.Arrays;

/** A palace of rooms that may not be left by the door one came in by, or by other laws. */
public final class OtherDoor {
    public static final int BAD = -1, STATE = -2, FULL = -3, NONE = -4;

    private static final int FIRST_ROOMS = 4;
    private static final int MOST_ROOMS = 10;
    private static final int MOST_DOORS = 14;
    private static final int MOST_PEOPLE = 5;
    private static final int MOST_TOLD = 12;
    private static final int COLOURS = 4;
    private static final int LAWS = 4;
    private static final int LAW_TWO_BACK = 1;
    private static final int LAW_COLOUR = 2;
    private static final int LAW_ANY = 3;
    private static final int NO_DOOR = -1;
    /** A door has two sides, and who came in by it stands at one of them. */
    private static final int SIDES = 2 * MOST_DOORS;
    /** What may stand ahead of a door: no door, or one of all. */
    private static final int AHEADS = MOST_DOORS + 1;
    private static final int IMAGES = 2;
    private static final int SHEETS = 4;
    private static final int LANES = 3;
    private static final int MOST_CELLS = 40;
    private static final int MOST_BYTES = 320;
    private static final int MOST_BY_ROUND = 5;
    private static final int MOST_TOUR = 8;
    private static final int MOST_TALK = 5;
    private static final int MOST_AJAR = 6;
    private static final int MOST_READ = 12;
    /** Where a call tells a number and a row by one argument, the row begins here. */
    private static final int ROW = 10;
    private static final int FAULT_BASE = -10;
    private static final int REFUSED_BASE = -20;
    private static final int NULL = 1;
    private static final int INDEX = 2;
    private static final int CAST = 3;
    private static final int SIZE = 4;

    private final Palace now = new Palace();
    private final Palace[] images = {new Palace(), new Palace()};
    private final Sheet[] sheets = {new Sheet(), new Sheet(), new Sheet(), new Sheet()};
    private final Tape tape = new Tape();
    private final Walker scratch = new Walker();
    private final Ways ways = new Ways();
    private final Rounds rounds = new Rounds();
    private final Tours tours = new Tours();
    private final Two two = new Two();
    private final Builders builders = new Builders();
    private final Trails trails = new Trails();
    private int kept = 0;
    private int lastTorn = 0;

    public OtherDoor() {
    }

    // ---- the text, what there is

    public int feed(long v) {
        return tape.append(v) ? tape.length : FULL;
    }

    public int end(int n) {
        if (n < 0 || n > tape.length) {
            return BAD;
        }
        int had = tape.length;
        tape.length = n;
        return had;
    }

    public int palace() {
        boolean taken = tape.understand();
        tape.length = 0;
        if (!taken) {
            return FAULT_BASE - tape.faultPlace;
        }
        now.take(tape.draft);
        kept = 0;
        return tape.lines;
    }

    public int fault() {
        return tape.fault;
    }

    public int rule(int what) {
        switch (what) {
            case 0: return now.house.rooms;
            case 1: return now.house.law;
            case 2: return now.house.size;
            case 3: return now.people;
            default: return BAD;
        }
    }

    public int door(int d, int what) {
        if (!now.house.hasDoor(d)) {
            return BAD;
        }
        switch (what) {
            case 0: return now.house.first[d];
            case 1: return now.house.second[d];
            case 2: return now.house.colour[d];
            case 3: return now.house.isWalled(d) ? 1 : 0;
            default: return BAD;
        }
    }

    public int one(int p, int what) {
        if (!now.hasOne(p)) {
            return BAD;
        }
        Walker one = now.ones[p];
        switch (what) {
            case 0: return one.room;
            case 1: return orNone(one.last);
            case 2: return orNone(one.ahead);
            case 3: return one.choices(now.house);
            default: return BAD;
        }
    }

    private static int orNone(int d) {
        return d == NO_DOOR ? NONE : d;
    }

    public int doors(int room) {
        return now.house.hasRoom(room) ? now.house.open[room] : BAD;
    }

    // ---- what is changed

    public int law(int v) {
        if (v < 0 || v >= LAWS) {
            return BAD;
        }
        int was = now.house.law;
        now.house.law = v;
        return was;
    }

    public int build(int a, int b, int colour) {
        if (!now.house.hasRoom(a) || !now.house.hasRoom(b) || a == b || colour < 0 || colour >= COLOURS) {
            return BAD;
        }
        return now.house.add(a, b, colour) ? now.house.size - 1 : FULL;
    }

    public int wall(int d, boolean is) {
        if (!now.house.hasDoor(d)) {
            return BAD;
        }
        int was = now.house.isWalled(d) ? 1 : 0;
        now.house.setWalled(d, is);
        return was;
    }

    public int stand(int p, int room) {
        if (!now.hasOne(p) || !now.house.hasRoom(room)) {
            return BAD;
        }
        int was = now.ones[p].room;
        now.ones[p].standNew(room);
        return was;
    }

    public int go(int p, int d) {
        if (!now.hasOne(p) || !now.house.hasDoor(d)) {
            return BAD;
        }
        return now.ones[p].step(now.house, d) ? now.ones[p].room : NONE;
    }

    // ---- ways

    public int far(int p, int room) {
        if (!now.hasOne(p) || !now.house.hasRoom(room)) {
            return BAD;
        }
        return ways.leastTo(now.house, now.ones[p], room);
    }

    public int way(int p, int room, int i) {
        if (!now.hasOne(p) || !now.house.hasRoom(room) || i < 0) {
            return BAD;
        }
        int most = ways.leastTo(now.house, now.ones[p], room);
        return i < most ? ways.stepOf(i) : NONE;
    }

    public int can(int p) {
        return now.hasOne(p) ? ways.roomsOf(now.house, now.ones[p]) : BAD;
    }

    public int path(int a, int b) {
        if (!now.house.hasRoom(a) || !now.house.hasRoom(b)) {
            return BAD;
        }
        scratch.standNew(a);
        return ways.leastTo(now.house, scratch, b);
    }

    public int pairs() {
        return builders.pairsOf(now.house);
    }

    public int life() {
        int some = 0;
        for (int room = 0; room < now.house.rooms; room++) {
            if (now.house.isForLife(room)) {
                some |= 1 << room;
            }
        }
        return some;
    }

    public int trap(int room, int d) {
        if (!now.house.hasRoom(room) || !now.house.hasDoor(d) || !now.house.isOf(d, room)) {
            return BAD;
        }
        if (now.house.isWalled(d)) {
            return STATE;
        }
        return now.house.choices(room, d, NO_DOOR) == 0 ? 1 : 0;
    }

    public int secret() {
        int some = 0;
        for (int room = 0; room < now.house.rooms; room++) {
            // a NEW one at the other side of any open door comes in by it, whatever the law
            if (now.house.open[room] == 0) {
                some |= 1 << room;
            }
        }
        return some;
    }

    public int safe() {
        return now.house.losing() == 0 ? 1 : 0;
    }

    // ---- rounds, tours

    public int round(int p, int some) {
        if (!now.hasOne(p) || some < 0 || some >= 1 << now.house.rooms || Integer.bitCount(some) > MOST_BY_ROUND) {
            return BAD;
        }
        return rounds.least(now.house, now.ones[p], some);
    }

    public int tour(int room, int what) {
        boolean isRow = what >= ROW && what < ROW + MOST_TOUR;
        if (!now.house.hasRoom(room) || (what != 0 && !isRow)) {
            return BAD;
        }
        if (now.house.openDoors() > MOST_TOUR) {
            return STATE;
        }
        tours.prepare(now.house, room);
        return isRow ? tours.stepOf(now.house, what - ROW) : tours.all();
    }

    // ---- two

    public int talk(int p, int q, int k) {
        if (!now.hasOne(p) || !now.hasOne(q) || p == q || k < 1 || k > MOST_TALK) {
            return BAD;
        }
        if (now.house.law == LAW_TWO_BACK) {
            return STATE;
        }
        two.prepare(now.house, now.ones[p], now.ones[q]);
        return two.untilTalked(k);
    }

    public int cup(int p, int q, int room) {
        if (!now.hasOne(p) || !now.hasOne(q) || p == q || !now.house.hasRoom(room)) {
            return BAD;
        }
        if (now.house.law == LAW_TWO_BACK) {
            return STATE;
        }
        two.prepare(now.house, now.ones[p], now.ones[q]);
        return two.untilCupIn(room);
    }

    // ---- builders

    public int more(int what) {
        if (what < 0 || what > 1) {
            return BAD;
        }
        if (now.house.size >= MOST_DOORS) {
            return STATE;
        }
        builders.seekMore(now.house);
        return builders.answer(what);
    }

    public int worst(int what) {
        if (what < 0 || what > 1) {
            return BAD;
        }
        builders.seekWorst(now.house);
        return builders.answer(what);
    }

    public int mend(int what) {
        if (what < 0 || what > 2) {
            return BAD;
        }
        int fewest = builders.seekMend(now.house);
        if (what == 0) {
            return fewest;
        }
        return what <= fewest ? builders.row[what - 1] : NONE;
    }

    // ---- walks

    public int tell(int d) {
        if (!now.house.hasDoor(d)) {
            return BAD;
        }
        if (now.toldSize >= MOST_TOLD) {
            return FULL;
        }
        now.told[now.toldSize] = d;
        now.toldSize++;
        return now.toldSize;
    }

    public int forget() {
        int had = now.toldSize;
        now.toldSize = 0;
        return had;
    }

    public int judge(int room) {
        if (!now.house.hasRoom(room)) {
            return BAD;
        }
        scratch.standNew(room);
        for (int i = 0; i < now.toldSize; i++) {
            if (!scratch.step(now.house, now.told[i])) {
                return i;
            }
        }
        return NONE;
    }

    public int ajar(int room, int n, int some, int what) {
        boolean isRow = what >= ROW && what < ROW + MOST_AJAR;
        if (!now.house.hasRoom(room) || n < 0 || n > MOST_AJAR || (what != 0 && what != 1 && !isRow)) {
            return BAD;
        }
        if (some < 0 || some >= 1 << now.house.size) {
            return BAD;
        }
        trails.seek(now.house, room, n, some);
        if (isRow) {
            return trails.found > 0 && what - ROW < n ? trails.first[what - ROW] : NONE;
        }
        return what == 0 ? trails.found : trails.ends;
    }

    // ---- images, sheets

    public int keep(int k) {
        if (k < 0 || k >= IMAGES) {
            return BAD;
        }
        int was = kept >> k & 1;
        images[k].take(now);
        kept |= 1 << k;
        return was;
    }

    public int back(int k) {
        if (k < 0 || k >= IMAGES) {
            return BAD;
        }
        if ((kept >> k & 1) == 0) {
            return STATE;
        }
        now.take(images[k]);
        return now.house.size;
    }

    public int sheet(int k, int lane, int n) {
        if (!isSheet(k) || !isLane(lane) || n > MOST_CELLS) {
            return BAD;
        }
        if (n < 0) {
            return FAULT_BASE - SIZE;
        }
        sheets[k].renew(lane, n);
        return 1;
    }

    private static boolean isSheet(int k) {
        return k >= 0 && k < SHEETS;
    }

    private static boolean isLane(int lane) {
        return lane >= 0 && lane < LANES;
    }

    public int lay(int k, int i, int v) {
        if (!isSheet(k)) {
            return BAD;
        }
        int found = sheets[k].faultAt(sheets[k].lane, i);
        if (found != 0) {
            return FAULT_BASE - found;
        }
        sheets[k].put(i, v);
        return 1;
    }

    public int read(int k, int lane, int p, int f, int n) {
        if (!isSheet(k) || !isLane(lane) || n < 0 || n > MOST_READ || !now.hasOne(p)) {
            return BAD;
        }
        Walker one = now.ones[p];
        scratch.take(one);
        for (int i = 0; i < n; i++) {
            int found = sheets[k].faultAt(lane, f + i);
            if (found != 0) {
                lastTorn = found;
                return i;
            }
            if (!one.step(now.house, sheets[k].cells[f + i])) {
                one.take(scratch);
                return REFUSED_BASE - i;
            }
        }
        lastTorn = 0;
        return n;
    }

    public int torn() {
        return lastTorn;
    }

    public int count(int what) {
        switch (what) {
            case 0: return now.house.openDoors();
            case 1: return now.lost();
            case 2: return now.toldSize;
            case 3: return Integer.bitCount(kept);
            case 4: return tape.length;
            case 5: return sheets[0].lane == Sheet.NOTHING ? NONE : sheets[0].size;
            default: return BAD;
        }
    }

    /** Rooms, doors and the law: all that says which steps there are. */
    private static final class House {
        int rooms = FIRST_ROOMS;
        int law = 0;
        int size = 0;
        int walled = 0;
        final int[] first = new int[MOST_DOORS];
        final int[] second = new int[MOST_DOORS];
        final int[] colour = new int[MOST_DOORS];
        /** For each room its doors that are not walled up. */
        final int[] open = new int[MOST_ROOMS];
        /** For each colour all doors of it. */
        final int[] painted = new int[COLOURS];

        void clear() {
            rooms = FIRST_ROOMS;
            law = 0;
            size = 0;
            walled = 0;
            Arrays.fill(open, 0);
            Arrays.fill(painted, 0);
        }

        void take(House other) {
            rooms = other.rooms;
            law = other.law;
            size = other.size;
            walled = other.walled;
            System.arraycopy(other.first, 0, first, 0, MOST_DOORS);
            System.arraycopy(other.second, 0, second, 0, MOST_DOORS);
            System.arraycopy(other.colour, 0, colour, 0, MOST_DOORS);
            System.arraycopy(other.open, 0, open, 0, MOST_ROOMS);
            System.arraycopy(other.painted, 0, painted, 0, COLOURS);
        }

        boolean hasRoom(int room) {
            return room >= 0 && room < rooms;
        }

        boolean hasDoor(int d) {
            return d >= 0 && d < size;
        }

        boolean isWalled(int d) {
            return (walled >> d & 1) != 0;
        }

        boolean isOf(int d, int room) {
            return first[d] == room || second[d] == room;
        }

        int beyond(int d, int room) {
            return first[d] == room ? second[d] : first[d];
        }

        /** Where one stands who came in by a door from a room, as one number. */
        int sideBeyond(int d, int room) {
            return first[d] == room ? 2 * d + 1 : 2 * d;
        }

        int sideAt(int d, int room) {
            return first[d] == room ? 2 * d : 2 * d + 1;
        }

        int roomOfSide(int side) {
            return (side & 1) == 0 ? first[side >> 1] : second[side >> 1];
        }

        int openDoors() {
            return size - Integer.bitCount(walled);
        }

        boolean add(int a, int b, int tint) {
            if (size >= MOST_DOORS) {
                return false;
            }
            first[size] = a;
            second[size] = b;
            colour[size] = tint;
            open[a] |= 1 << size;
            open[b] |= 1 << size;
            painted[tint] |= 1 << size;
            size++;
            return true;
        }

        /** Takes the latest door away: for a builder who only tries it, and does not wall it up. */
        void dropLatest() {
            if (size <= 0) {
                return;
            }
            size--;
            int others = ~(1 << size);
            open[first[size]] &= others;
            open[second[size]] &= others;
            painted[colour[size]] &= others;
        }

        void setWalled(int d, boolean is) {
            int bit = 1 << d;
            if (is) {
                walled |= bit;
                open[first[d]] &= ~bit;
                open[second[d]] &= ~bit;
            } else {
                walled &= ~bit;
                open[first[d]] |= bit;
                open[second[d]] |= bit;
            }
        }

        /** The doors that the law lets one through who is in a room (bits). */
        int choices(int room, int last, int ahead) {
            int may = open[room];
            if (last == NO_DOOR || law == LAW_ANY) {
                return may;
            }
            if (law == LAW_COLOUR) {
                return may & ~painted[colour[last]];
            }
            may &= ~(1 << last);
            return law == LAW_TWO_BACK && ahead != NO_DOOR ? may & ~(1 << ahead) : may;
        }

        boolean isForLife(int room) {
            for (int d = 0; d < size; d++) {
                if ((open[room] >> d & 1) != 0 && choices(room, d, NO_DOOR) == 0) {
                    return true;
                }
            }
            return false;
        }

        /**
         * Rooms in which somebody can be lost. Two steps are enough to look at: no law looks
         * further back than two doors, and who is NEW ahead of them is barred from none.
         */
        int losing() {
            int some = 0;
            for (int room = 0; room < rooms; room++) {
                if (isForLife(room) || (law == LAW_TWO_BACK && losesBySecond(room))) {
                    some |= 1 << room;
                }
            }
            return some;
        }

        private boolean losesBySecond(int room) {
            for (int d = 0; d < size; d++) {
                if ((open[room] >> d & 1) != 0 && losesBehind(room, d)) {
                    return true;
                }
            }
            return false;
        }

        /** Whether one is lost who came by any other door to where this door leads in from. */
        private boolean losesBehind(int room, int d) {
            int others = open[beyond(d, room)] & ~(1 << d);
            for (int e = 0; e < size; e++) {
                if ((others >> e & 1) != 0 && choices(room, d, e) == 0) {
                    return true;
                }
            }
            return false;
        }
    }

    /** Somebody: where he is, by which door, by which one ahead of that. */
    private static final class Walker {
        int room = 0;
        int last = NO_DOOR;
        int ahead = NO_DOOR;

        void standNew(int where) {
            room = where;
            last = NO_DOOR;
            ahead = NO_DOOR;
        }

        void take(Walker other) {
            room = other.room;
            last = other.last;
            ahead = other.ahead;
        }

        int choices(House house) {
            return house.choices(room, last, ahead);
        }

        boolean step(House house, int d) {
            if (!house.hasDoor(d) || (choices(house) >> d & 1) == 0) {
                return false;
            }
            room = house.beyond(d, room);
            ahead = last;
            last = d;
            return true;
        }
    }

    /** All that a text tells and an image keeps. */
    private static final class Palace {
        final House house = new House();
        final Walker[] ones = {new Walker(), new Walker(), new Walker(), new Walker(), new Walker()};
        int people = 0;
        final int[] told = new int[MOST_TOLD];
        int toldSize = 0;

        void clear() {
            house.clear();
            people = 0;
            toldSize = 0;
        }

        void take(Palace other) {
            house.take(other.house);
            people = other.people;
            for (int p = 0; p < MOST_PEOPLE; p++) {
                ones[p].take(other.ones[p]);
            }
            System.arraycopy(other.told, 0, told, 0, MOST_TOLD);
            toldSize = other.toldSize;
        }

        boolean hasOne(int p) {
            return p >= 0 && p < people;
        }

        int lost() {
            int some = 0;
            for (int p = 0; p < people; p++) {
                if (ones[p].choices(house) == 0) {
                    some++;
                }
            }
            return some;
        }
    }

    /** The least ways of one: what he can be in, level by level, each level in the order of doors. */
    private static final class Ways {
        private static final int MOST = SIDES * AHEADS + 1;
        private final int[] room = new int[MOST];
        private final int[] last = new int[MOST];
        private final int[] ahead = new int[MOST];
        private final int[] from = new int[MOST];
        private final int[] length = new int[MOST];
        /** For each side of a door the doors ahead of it (bits, no door the lowest). */
        private final int[] met = new int[SIDES];
        private int size = 0;
        private int goal = 0;

        /** Of several least ways the first by doors is met first, as each level keeps their order. */
        int leastTo(House house, Walker one, int target) {
            begin(house, one);
            for (int at = 0; at < size && at < MOST; at++) {
                if (room[at] == target) {
                    goal = at;
                    return length[at];
                }
                spread(house, at);
            }
            return NONE;
        }

        /** The door of a step of the way that leastTo() found latest; it has so many steps. */
        int stepOf(int i) {
            int at = goal;
            for (int left = length[goal] - 1 - i; left > 0; left--) {
                at = from[at];
            }
            return last[at];
        }

        int roomsOf(House house, Walker one) {
            int some = 0;
            begin(house, one);
            for (int at = 0; at < size && at < MOST; at++) {
                some |= 1 << room[at];
                spread(house, at);
            }
            return some;
        }

        private void begin(House house, Walker one) {
            Arrays.fill(met, 0);
            size = 1;
            room[0] = one.room;
            last[0] = one.last;
            ahead[0] = house.law == LAW_TWO_BACK ? one.ahead : NO_DOOR;
            from[0] = 0;
            length[0] = 0;
            if (one.last != NO_DOOR) {
                met[house.sideAt(one.last, one.room)] |= 1 << ahead[0] + 1;
            }
        }

        private void spread(House house, int at) {
            int may = house.choices(room[at], last[at], ahead[at]);
            // only the law of two doors looks at the one ahead
            int newAhead = house.law == LAW_TWO_BACK ? last[at] : NO_DOOR;
            int bit = 1 << newAhead + 1;
            for (int d = 0; d < house.size; d++) {
                if ((may >> d & 1) == 0) {
                    continue;
                }
                int side = house.sideBeyond(d, room[at]);
                if ((met[side] & bit) == 0 && size < MOST) {
                    met[side] |= bit;
                    room[size] = house.beyond(d, room[at]);
                    last[size] = d;
                    ahead[size] = newAhead;
                    from[size] = at;
                    length[size] = length[at] + 1;
                    size++;
                }
            }
        }
    }

    /** The least round by some rooms: for each place the sets of those rooms he may have been in. */
    private static final class Rounds {
        private static final int SPOTS = SIDES * AHEADS + 1;
        /** Who has not come in by any door: nobody comes back to be so. */
        private static final int NEW_SPOT = SIDES * AHEADS;
        private static final int SETS = 1 << MOST_BY_ROUND;
        /** For each of the told rooms, which of all sets of them have it (a bit for each set). */
        private static final int[] HAVING = {0xAAAAAAAA, 0xCCCCCCCC, 0xF0F0F0F0, 0xFF00FF00, 0xFFFF0000};
        private final int[] order = new int[MOST_ROOMS];
        private final int[] met = new int[SPOTS];
        private final int[][] fresh = new int[2][SPOTS];
        private final int[][] spots = new int[2][SPOTS];
        private final int[] sizes = new int[2];
        private int home = 0;
        private int all = 0;

        int least(House house, Walker one, int some) {
            begin(one.room, some);
            int set = order[home] < 0 ? 0 : 1 << order[home];
            if (set == all) {
                return 0;
            }
            int ahead = house.law == LAW_TWO_BACK ? one.ahead : NO_DOOR;
            int spot = one.last == NO_DOOR ? NEW_SPOT : house.sideAt(one.last, home) * AHEADS + ahead + 1;
            put(0, spot, 1 << set);
            // each level but the last one meets a set at a spot for the first time
            for (int length = 1; length <= SPOTS * SETS && sizes[length - 1 & 1] > 0; length++) {
                if (spreadLevel(house, length & 1)) {
                    return length;
                }
            }
            return NONE;
        }

        private void begin(int room, int some) {
            home = room;
            int number = 0;
            for (int r = 0; r < MOST_ROOMS; r++) {
                boolean is = (some >> r & 1) != 0 && number < MOST_BY_ROUND;
                order[r] = is ? number : NONE;
                number += is ? 1 : 0;
            }
            all = (1 << number) - 1;
            Arrays.fill(met, 0);
            Arrays.fill(fresh[0], 0);
            Arrays.fill(fresh[1], 0);
            sizes[0] = 0;
            sizes[1] = 0;
        }

        private void put(int turn, int spot, int sets) {
            int found = sets & ~met[spot];
            if (found == 0) {
                return;
            }
            if (fresh[turn][spot] == 0) {
                spots[turn][sizes[turn]] = spot;
                sizes[turn]++;
            }
            fresh[turn][spot] |= found;
            met[spot] |= found;
        }

        /** One step more of all: whether somebody is home with all rooms. */
        private boolean spreadLevel(House house, int turn) {
            int old = 1 - turn;
            sizes[turn] = 0;
            int many = sizes[old];
            boolean done = false;
            for (int i = 0; i < many; i++) {
                int spot = spots[old][i];
                int sets = fresh[old][spot];
                fresh[old][spot] = 0;
                done |= spread(house, turn, spot, sets);
            }
            return done;
        }

        private boolean spread(House house, int turn, int spot, int sets) {
            boolean isNew = spot == NEW_SPOT;
            int side = spot / AHEADS;
            int room = isNew ? home : house.roomOfSide(side);
            int last = isNew ? NO_DOOR : side >> 1;
            int ahead = isNew ? NO_DOOR : spot % AHEADS - 1;
            int may = house.choices(room, last, ahead);
            int newAhead = house.law == LAW_TWO_BACK ? last : NO_DOOR;
            boolean done = false;
            for (int d = 0; d < house.size; d++) {
                if ((may >> d & 1) == 0) {
                    continue;
                }
                int to = house.beyond(d, room);
                int with = withRoom(sets, to);
                put(turn, house.sideBeyond(d, room) * AHEADS + newAhead + 1, with);
                done |= to == home && (with >> all & 1) != 0;
            }
            return done;
        }

        /** To each set that has not the room yet it is added: the set's bit moves up to the set with it. */
        private int withRoom(int sets, int room) {
            int number = order[room];
            if (number < 0) {
                return sets;
            }
            int having = HAVING[number];
            return (sets & having) | (sets & ~having) << (1 << number);
        }
    }

    /** The tours from a room: for each set of doors behind one, how many ways there are through the others. */
    private static final class Tours {
        /** Colours, and no door at all, that one may have come in by. */
        private static final int MARKS = COLOURS + 1;
        private final int[] doors = new int[MOST_TOUR];
        private final int[] rest = new int[(1 << MOST_TOUR) * MARKS];
        private int size = 0;
        private int start = 0;

        void prepare(House house, int room) {
            start = room;
            size = 0;
            for (int d = 0; d < house.size; d++) {
                if (!house.isWalled(d) && size < MOST_TOUR) {
                    doors[size] = d;
                    size++;
                }
            }
            int full = (1 << size) - 1;
            for (int mark = 0; mark < MARKS; mark++) {
                rest[full * MARKS + mark] = 1;
            }
            for (int gone = full - 1; gone >= 0; gone--) {
                fill(house, gone);
            }
        }

        int all() {
            return rest[COLOURS];
        }

        /** The door of a step of the first tour by doors. */
        int stepOf(House house, int i) {
            if (i >= size || all() == 0) {
                return NONE;
            }
            int gone = 0;
            int mark = COLOURS;
            int step = NONE;
            for (int at = 0; at <= i; at++) {
                int room = roomBehind(house, gone);
                for (int j = 0; j < size; j++) {
                    if (through(house, gone, room, mark, j) > 0) {
                        step = doors[j];
                        mark = house.colour[step];
                        gone |= 1 << j;
                        break;
                    }
                }
            }
            return step;
        }

        private void fill(House house, int gone) {
            int room = roomBehind(house, gone);
            for (int mark = 0; mark < MARKS; mark++) {
                int sum = 0;
                for (int j = 0; j < size; j++) {
                    sum += through(house, gone, room, mark, j);
                }
                rest[gone * MARKS + mark] = sum;
            }
        }

        /**
         * How many ways go on by a door. No door is taken twice, so but for the colours
         * no law bars anybody here.
         */
        private int through(House house, int gone, int room, int mark, int j) {
            int d = doors[j];
            if ((gone >> j & 1) != 0 || !house.isOf(d, room)) {
                return 0;
            }
            if (house.law == LAW_COLOUR && house.colour[d] == mark) {
                return 0;
            }
            return rest[(gone | 1 << j) * MARKS + house.colour[d]];
        }

        /** Where one is behind some doors, in whatever order; NONE if they are no way. */
        private int roomBehind(House house, int gone) {
            // on a way each room but the first and the last one has an even number of door ends
            int odd = 1 << start;
            for (int j = 0; j < size; j++) {
                if ((gone >> j & 1) != 0) {
                    odd ^= 1 << house.first[doors[j]] ^ 1 << house.second[doors[j]];
                }
            }
            for (int room = 0; room < house.rooms; room++) {
                if (odd == 1 << room) {
                    return room;
                }
            }
            return NONE;
        }
    }

    /** Two who walk minute by minute: for each spot of the first one the spots of the second one (bits). */
    private static final class Two {
        private static final int FIRST_NEW = SIDES;
        private static final int SECOND_NEW = SIDES + 1;
        private static final int SPOTS = SIDES + 2;
        private static final int LEVELS = MOST_TALK;
        private final int[] roomOf = new int[SPOTS];
        private final int[] next = new int[SPOTS];
        private final int[] inRoom = new int[MOST_ROOMS];
        private final int[][] met = new int[LEVELS][SPOTS];
        private final int[][] fresh = new int[LEVELS][SPOTS];
        private final int[][] coming = new int[LEVELS][SPOTS];
        private int firstSpot = 0;
        private int secondSpot = 0;
        private boolean anyComing = false;

        void prepare(House house, Walker p, Walker q) {
            Arrays.fill(inRoom, 0);
            for (int level = 0; level < LEVELS; level++) {
                Arrays.fill(met[level], 0);
                Arrays.fill(coming[level], 0);
            }
            for (int side = 0; side < 2 * house.size; side++) {
                addSpot(house, side, house.roomOfSide(side), side >> 1);
            }
            addSpot(house, FIRST_NEW, p.room, NO_DOOR);
            addSpot(house, SECOND_NEW, q.room, NO_DOOR);
            firstSpot = p.last == NO_DOOR ? FIRST_NEW : house.sideAt(p.last, p.room);
            secondSpot = q.last == NO_DOOR ? SECOND_NEW : house.sideAt(q.last, q.room);
        }

        private void addSpot(House house, int spot, int room, int last) {
            roomOf[spot] = room;
            inRoom[room] |= 1 << spot;
            int may = house.choices(room, last, NO_DOOR);
            int some = 0;
            for (int d = 0; d < house.size; d++) {
                if ((may >> d & 1) != 0) {
                    some |= 1 << house.sideBeyond(d, room);
                }
            }
            // who is lost stays
            next[spot] = some == 0 ? 1 << spot : some;
        }

        private boolean together() {
            return roomOf[firstSpot] == roomOf[secondSpot];
        }

        /** The level is how many ends of minutes, one behind another, they have been in one room. */
        int untilTalked(int k) {
            int level = together() ? 1 : 0;
            if (level >= k) {
                return 0;
            }
            put(level, firstSpot, 1 << secondSpot);
            // each minute but the last one meets two spots at a level for the first time
            for (int minute = 1; minute <= SPOTS * SPOTS * LEVELS && anyComing; minute++) {
                turnMinute();
                if (talkMinute(k)) {
                    return minute;
                }
            }
            return NONE;
        }

        private boolean talkMinute(int k) {
            for (int level = 0; level < k; level++) {
                for (int spot = 0; spot < SPOTS; spot++) {
                    if (fresh[level][spot] != 0 && talkStep(k, level, spot)) {
                        return true;
                    }
                }
            }
            return false;
        }

        private boolean talkStep(int k, int level, int spot) {
            int seconds = nextOf(fresh[level][spot]);
            for (int to = 0; to < SPOTS; to++) {
                if ((next[spot] >> to & 1) == 0) {
                    continue;
                }
                int same = seconds & inRoom[roomOf[to]];
                if (same != 0 && level + 1 >= k) {
                    return true;
                }
                put(level + 1, to, same);
                put(0, to, seconds & ~same);
            }
            return false;
        }

        /** The level is who has the cup. */
        int untilCupIn(int room) {
            if (roomOf[firstSpot] == room) {
                return 0;
            }
            put(0, firstSpot, 1 << secondSpot);
            put(1, firstSpot, together() ? 1 << secondSpot : 0);
            for (int minute = 1; minute <= SPOTS * SPOTS * LEVELS && anyComing; minute++) {
                turnMinute();
                if (cupMinute(room)) {
                    return minute;
                }
            }
            return NONE;
        }

        private boolean cupMinute(int room) {
            for (int who = 0; who < 2; who++) {
                for (int spot = 0; spot < SPOTS; spot++) {
                    if (fresh[who][spot] != 0 && cupStep(room, who, spot)) {
                        return true;
                    }
                }
            }
            return false;
        }

        private boolean cupStep(int room, int who, int spot) {
            int seconds = nextOf(fresh[who][spot]);
            for (int to = 0; to < SPOTS; to++) {
                if ((next[spot] >> to & 1) == 0) {
                    continue;
                }
                if (who == 0 ? roomOf[to] == room : (seconds & inRoom[room]) != 0) {
                    return true;
                }
                put(who, to, seconds);
                put(1 - who, to, seconds & inRoom[roomOf[to]]);
            }
            return false;
        }

        private int nextOf(int seconds) {
            int some = 0;
            for (int spot = 0; spot < SPOTS; spot++) {
                if ((seconds >> spot & 1) != 0) {
                    some |= next[spot];
                }
            }
            return some;
        }

        private void put(int level, int spot, int seconds) {
            int found = level < LEVELS ? seconds & ~met[level][spot] : 0;
            if (found != 0) {
                met[level][spot] |= found;
                coming[level][spot] |= found;
                anyComing = true;
            }
        }

        private void turnMinute() {
            for (int level = 0; level < LEVELS; level++) {
                System.arraycopy(coming[level], 0, fresh[level], 0, SPOTS);
                Arrays.fill(coming[level], 0);
            }
            anyComing = false;
        }
    }

    /** Doors that are tried: one more, one walled up, as few as make all safe. */
    private static final class Builders {
        /** A pair of rooms is ten times the one and the other. */
        private static final int PAIRS = 100;
        /** For each colour and room: those rooms (bits) from which a NEW one comes into it by that colour. */
        private final int[][] entered = new int[COLOURS][MOST_ROOMS];
        final int[] row = new int[2];
        private int best = NONE;
        private int bestPairs = NONE;

        int answer(int what) {
            if (best == NONE) {
                return NONE;
            }
            return what == 0 ? best : bestPairs;
        }

        int pairsOf(House house) {
            spreadNew(house);
            int sum = 0;
            for (int room = 0; room < house.rooms; room++) {
                sum += Integer.bitCount(comersTo(room, NONE)) - 1;
            }
            return sum;
        }

        /** From all rooms at once, as far as one comes. */
        private void spreadNew(House house) {
            for (int tint = 0; tint < COLOURS; tint++) {
                Arrays.fill(entered[tint], 0);
            }
            boolean grew = true;
            // each turn but the last one finds a bit more
            for (int turn = 0; turn <= COLOURS * MOST_ROOMS * MOST_ROOMS && grew; turn++) {
                grew = false;
                for (int d = 0; d < house.size; d++) {
                    if (!house.isWalled(d)) {
                        grew |= enterBy(house, d, house.first[d], house.second[d]);
                        grew |= enterBy(house, d, house.second[d], house.first[d]);
                    }
                }
            }
        }

        /**
         * A NEW one's least way by rooms takes no door twice, so but for the colours
         * no law bars him.
         */
        private boolean enterBy(House house, int d, int from, int to) {
            int tint = house.colour[d];
            int found = comersTo(from, house.law == LAW_COLOUR ? tint : NONE) & ~entered[tint][to];
            entered[tint][to] |= found;
            return found != 0;
        }

        /** Rooms from which a NEW one comes to a room, at last by another colour than the barred one. */
        private int comersTo(int room, int barred) {
            int some = 1 << room;
            for (int tint = 0; tint < COLOURS; tint++) {
                some |= tint == barred ? 0 : entered[tint][room];
            }
            return some;
        }

        void seekMore(House house) {
            best = NONE;
            bestPairs = pairsOf(house);
            for (int a = 0; a < house.rooms; a++) {
                for (int b = a + 1; b < house.rooms; b++) {
                    tryMore(house, a, b);
                }
            }
        }

        private void tryMore(House house, int a, int b) {
            if (!house.add(a, b, 0)) {
                return;
            }
            int found = pairsOf(house);
            house.dropLatest();
            if (found > bestPairs) {
                bestPairs = found;
                best = 10 * a + b;
            }
        }

        void seekWorst(House house) {
            best = NONE;
            for (int d = 0; d < house.size; d++) {
                if (house.isWalled(d)) {
                    continue;
                }
                house.setWalled(d, true);
                int found = pairsOf(house);
                house.setWalled(d, false);
                if (best == NONE || found < bestPairs) {
                    bestPairs = found;
                    best = d;
                }
            }
        }

        /** The fewest doors by which all is safe, with their row; NONE if two are not enough. */
        int seekMend(House house) {
            int losing = house.losing();
            if (losing == 0) {
                return 0;
            }
            if (house.size + 1 <= MOST_DOORS && mendByOne(house, 0, losing, 0)) {
                return 1;
            }
            return house.size + 2 <= MOST_DOORS && mendByTwo(house, losing) ? 2 : NONE;
        }

        private boolean mendByTwo(House house, int losing) {
            for (int pair = 0; pair < PAIRS; pair++) {
                if (!isPair(house, pair)) {
                    continue;
                }
                house.add(pair / 10, pair % 10, 0);
                boolean mended = mendByOne(house, pair, losing & ~roomsOf(pair), 1);
                house.dropLatest();
                if (mended) {
                    row[0] = pair;
                    return true;
                }
            }
            return false;
        }

        /** Tries a door between each pair that is no less than the least one. */
        private boolean mendByOne(House house, int least, int losing, int at) {
            for (int pair = least; pair < PAIRS; pair++) {
                // a door changes nothing but in its two rooms
                if (!isPair(house, pair) || (losing & ~roomsOf(pair)) != 0) {
                    continue;
                }
                house.add(pair / 10, pair % 10, 0);
                boolean mended = house.losing() == 0;
                house.dropLatest();
                if (mended) {
                    row[at] = pair;
                    return true;
                }
            }
            return false;
        }

        private static boolean isPair(House house, int pair) {
            return pair / 10 < pair % 10 && house.hasRoom(pair % 10);
        }

        private static int roomsOf(int pair) {
            return 1 << pair / 10 | 1 << pair % 10;
        }
    }

    /** Ways of so many steps by just some doors. */
    private static final class Trails {
        final int[] first = new int[MOST_AJAR];
        private final int[] trail = new int[MOST_AJAR];
        int found = 0;
        int ends = 0;
        private int some = 0;
        private int steps = 0;

        void seek(House house, int room, int n, int doors) {
            steps = n;
            some = doors;
            found = 0;
            ends = 0;
            follow(house, 0, room, NO_DOOR, NO_DOOR, doors);
        }

        private void follow(House house, int depth, int room, int last, int ahead, int unused) {
            if (Integer.bitCount(unused) > steps - depth) {
                return;
            }
            if (depth >= steps || depth >= MOST_AJAR) {
                note(room);
            } else {
                branch(house, depth, room, last, ahead, unused);
            }
        }

        /** Tries the doors in their order, so that the first way that is found is the first by doors. */
        private void branch(House house, int depth, int room, int last, int ahead, int unused) {
            int may = house.choices(room, last, ahead) & some;
            for (int d = 0; d < house.size; d++) {
                if ((may >> d & 1) != 0) {
                    trail[depth] = d;
                    follow(house, depth + 1, house.beyond(d, room), d, last, unused & ~(1 << d));
                }
            }
        }

        private void note(int room) {
            if (found == 0) {
                System.arraycopy(trail, 0, first, 0, MOST_AJAR);
            }
            found++;
            ends |= 1 << room;
        }
    }

    /** The tape, and its reader, who makes a draft of the palace token by token. */
    private static final class Tape {
        private static final int BROKEN = 0;
        private static final int OVER = 1;
        private static final int NAME = 2;
        private static final int NUMBER = 3;
        private static final int SIGN = 4;
        private static final int NO_TOKEN = 1;
        private static final int MISPLACED = 2;
        private static final int OUT_OF_BOUNDS = 3;
        private static final int TWICE = 4;
        private static final int TOO_MANY = 5;
        private static final int MISSING = 6;
        final byte[] bytes = new byte[MOST_BYTES];
        final Palace draft = new Palace();
        int length = 0;
        int lines = 0;
        int fault = 0;
        int faultPlace = 0;
        private int place = 0;
        private int start = 0;
        private int kind = OVER;
        private int number = 0;
        private boolean hasRooms = false;
        private boolean hasLaw = false;
        private int walls = 0;

        boolean append(long v) {
            if (length + 8 > MOST_BYTES) {
                return false;
            }
            for (int shift = 56; shift >= 0; shift -= 8) {
                bytes[length] = (byte) (v >>> shift);
                length++;
            }
            return true;
        }

        boolean understand() {
            draft.clear();
            lines = 0;
            fault = 0;
            faultPlace = 0;
            place = 0;
            hasRooms = false;
            hasLaw = false;
            walls = 0;
            nextToken();
            // each line takes some bytes, so there are no more lines than bytes
            for (int line = 0; line < length && kind != OVER; line++) {
                if (!takeLine()) {
                    return false;
                }
                lines++;
                nextToken();
            }
            return closeText();
        }

        /** Keeps the first fault alone: one that breaks a token comes ahead of what is missed then. */
        private boolean refuse(int what, int where) {
            if (fault == 0) {
                fault = what;
                faultPlace = where;
            }
            return false;
        }

        private void nextToken() {
            place = behind(' ', ' ');
            start = place;
            if (place >= length) {
                kind = OVER;
                return;
            }
            byte sign = bytes[place];
            if (sign >= 'a' && sign <= 'z') {
                kind = NAME;
                place = behind('a', 'z');
            } else if (sign >= '0' && sign <= '9') {
                place = behind('0', '9');
                takeFigures();
            } else if (sign == ';') {
                kind = SIGN;
                place++;
            } else {
                kind = BROKEN;
                refuse(NO_TOKEN, start);
            }
        }

        /** The place behind all bytes from here on that are within bounds. */
        private int behind(char low, char high) {
            int at = place;
            while (at < length && bytes[at] >= low && bytes[at] <= high) {
                at++;
            }
            return at;
        }

        private void takeFigures() {
            if (place - start > 2) {
                kind = BROKEN;
                refuse(NO_TOKEN, start);
                return;
            }
            kind = NUMBER;
            number = 0;
            for (int at = start; at < place; at++) {
                number = 10 * number + bytes[at] - '0';
            }
        }

        private boolean isWord(String word) {
            if (kind != NAME || place - start != word.length()) {
                return false;
            }
            for (int i = 0; i < word.length(); i++) {
                if (bytes[start + i] != word.charAt(i)) {
                    return false;
                }
            }
            return true;
        }

        private boolean takeLine() {
            if (isWord("rooms")) {
                return takeRooms();
            }
            if (isWord("law")) {
                return takeLaw();
            }
            if (isWord("door")) {
                return takeDoor();
            }
            if (isWord("one")) {
                return takeOne();
            }
            return isWord("walled") ? takeWalled() : refuse(MISPLACED, start);
        }

        private boolean takeNumber(int low, int high) {
            nextToken();
            if (kind != NUMBER) {
                return refuse(MISPLACED, start);
            }
            return number >= low && number <= high || refuse(OUT_OF_BOUNDS, start);
        }

        private boolean takeSign() {
            nextToken();
            return isSign();
        }

        private boolean isSign() {
            return kind == SIGN || refuse(MISPLACED, start);
        }

        private boolean takeRooms() {
            if (hasRooms) {
                return refuse(TWICE, start);
            }
            hasRooms = true;
            if (!takeNumber(2, MOST_ROOMS)) {
                return false;
            }
            draft.house.rooms = number;
            return takeSign();
        }

        private boolean takeLaw() {
            if (hasLaw) {
                return refuse(TWICE, start);
            }
            hasLaw = true;
            if (!takeNumber(0, LAWS - 1)) {
                return false;
            }
            draft.house.law = number;
            return takeSign();
        }

        private boolean takeDoor() {
            if (draft.house.size >= MOST_DOORS) {
                return refuse(TOO_MANY, start);
            }
            if (!takeNumber(0, MOST_ROOMS - 1)) {
                return false;
            }
            int a = number;
            if (!takeNumber(0, MOST_ROOMS - 1)) {
                return false;
            }
            int b = number;
            if (a == b) {
                return refuse(TWICE, start);
            }
            nextToken();
            int tint = 0;
            if (kind == NAME) {
                tint = colourTold();
                if (tint == 0) {
                    return refuse(MISPLACED, start);
                }
                nextToken();
            }
            return isSign() && draft.house.add(a, b, tint);
        }

        private int colourTold() {
            if (isWord("red")) {
                return 1;
            }
            if (isWord("green")) {
                return 2;
            }
            return isWord("blue") ? 3 : 0;
        }

        private boolean takeOne() {
            if (draft.people >= MOST_PEOPLE) {
                return refuse(TOO_MANY, start);
            }
            if (!takeNumber(0, MOST_ROOMS - 1)) {
                return false;
            }
            draft.ones[draft.people].standNew(number);
            draft.people++;
            return takeSign();
        }

        private boolean takeWalled() {
            if (!takeNumber(0, MOST_DOORS - 1)) {
                return false;
            }
            if ((walls >> number & 1) != 0) {
                return refuse(TWICE, start);
            }
            walls |= 1 << number;
            return takeSign();
        }

        /** Rooms and doors may be told behind what names them, so only here can it be seen that there are none. */
        private boolean closeText() {
            House house = draft.house;
            boolean all = walls < 1 << house.size;
            for (int d = 0; d < house.size; d++) {
                all &= house.hasRoom(house.first[d]) && house.hasRoom(house.second[d]);
            }
            for (int p = 0; p < draft.people; p++) {
                all &= house.hasRoom(draft.ones[p].room);
            }
            if (!all) {
                return refuse(MISSING, length);
            }
            for (int d = 0; d < house.size; d++) {
                if ((walls >> d & 1) != 0) {
                    house.setWalled(d, true);
                }
            }
            return true;
        }
    }

    /** A row of cells of a lane, or nothing; what the machine would find is asked ahead of it. */
    private static final class Sheet {
        static final int NOTHING = -1;
        private static final int LANE_BYTES = 0;
        private static final int LANE_SHORTS = 1;
        final int[] cells = new int[MOST_CELLS];
        int lane = NOTHING;
        int size = 0;

        void renew(int kind, int n) {
            lane = kind;
            size = n;
            Arrays.fill(cells, 0);
        }

        int faultAt(int kind, int i) {
            if (lane == NOTHING) {
                return NULL;
            }
            if (lane != kind) {
                return CAST;
            }
            return i < 0 || i >= size ? INDEX : 0;
        }

        void put(int i, int v) {
            if (lane == LANE_BYTES) {
                cells[i] = (byte) v;
            } else if (lane == LANE_SHORTS) {
                cells[i] = (short) v;
            } else {
                cells[i] = v;
            }
        }
    }
}
