import java.util.ArrayDeque;
import java.util.ArrayList;
import java.util.Arrays;
import java.util.HashMap;
import java.util.HashSet;
import java.util.LinkedHashMap;
import java.util.List;
import java.util.Map;
import java.util.Set;
import java.util.regex.Matcher;
import java.util.regex.Pattern;

/** The document's words put down as literally as may be, slow, for answers to compare with. */
final class NaiveDoor {
    static final int BAD = -1, STATE = -2, FULL = -3, NONE = -4;

    static final class Way extends RuntimeException {
        private static final long serialVersionUID = 1L;
        final int fault;
        final int place;

        Way(int fault, int place) {
            super(null, null, false, false);
            this.fault = fault;
            this.place = place;
        }
    }

    /** first room, second room, colour, walled. */
    record Door(int a, int b, int colour, boolean walled) { }

    record One(int room, int last, int prev) { }

    record Both(One p, One q, int n) { }

    record Image(List<Door> doors, List<One> people, int law, List<Integer> told) { }

    int rooms = 4;
    int law = 0;
    List<Door> doors = new ArrayList<>();
    List<One> people = new ArrayList<>();
    List<Integer> told = new ArrayList<>();
    final Image[] images = new Image[2];
    final Object[] sheets = new Object[4];
    StringBuilder tape = new StringBuilder();
    int fault = 0;
    int torn = 0;

    // ---- text

    int feed(long v) {
        if (tape.length() + 8 > 320) return FULL;
        for (int i = 7; i >= 0; i--) tape.append((char) (v >> 8 * i & 255));
        return tape.length();
    }

    int end(int n) {
        if (n < 0 || n > tape.length()) return BAD;
        int had = tape.length();
        tape.setLength(n);
        return had;
    }

    private String text;
    private int at;
    private int tokenAt;

    private String token() {
        Matcher m = Pattern.compile(" *([a-z]+|[0-9]+|;|[\\x00-\\xff]|$)", Pattern.DOTALL).matcher(text).region(at, text.length());
        if (!m.lookingAt()) throw new IllegalStateException();
        String t = m.group(1);
        tokenAt = m.start(1);
        at = m.end(1);
        if (!t.matches("[a-z]+|[0-9][0-9]?|;|")) throw new Way(1, tokenAt);
        return t;
    }

    private int number(int low, int high) {
        String t = token();
        if (t.isEmpty() || !Character.isDigit(t.charAt(0))) throw new Way(2, tokenAt);
        int n = Integer.parseInt(t);
        if (n < low || n > high) throw new Way(3, tokenAt);
        return n;
    }

    int palace() {
        text = tape.toString();
        tape = new StringBuilder();
        at = 0;
        try {
            int lines = parse();
            fault = 0;
            return lines;
        } catch (Way f) {
            fault = f.fault;
            return -10 - f.place;
        }
    }

    private int parse() {
        Integer newRooms = null;
        Integer newLaw = null;
        List<Door> newDoors = new ArrayList<>();
        List<One> newPeople = new ArrayList<>();
        Set<Integer> walls = new HashSet<>();
        int lines = 0;
        for (String t = token(); !t.isEmpty(); t = token()) {
            int name = tokenAt;
            String next = null;
            switch (t) {
                case "rooms" -> {
                    if (newRooms != null) throw new Way(4, name);
                    newRooms = number(2, 10);
                }
                case "law" -> {
                    if (newLaw != null) throw new Way(4, name);
                    newLaw = number(0, 3);
                }
                case "door" -> {
                    if (newDoors.size() == 14) throw new Way(5, name);
                    int a = number(0, 9);
                    int b = number(0, 9);
                    if (a == b) throw new Way(4, tokenAt);
                    next = token();
                    int colour = List.of("red", "green", "blue").indexOf(next) + 1;
                    if (colour > 0) next = token();
                    newDoors.add(new Door(a, b, colour, false));
                }
                case "one" -> {
                    if (newPeople.size() == 5) throw new Way(5, name);
                    newPeople.add(new One(number(0, 9), -1, -1));
                }
                case "walled" -> {
                    int d = number(0, 13);
                    if (!walls.add(d)) throw new Way(4, tokenAt);
                }
                default -> throw new Way(2, name);
            }
            if (next == null) next = token();
            if (!next.equals(";")) throw new Way(2, tokenAt);
            lines++;
        }
        int r = newRooms == null ? 4 : newRooms;
        for (Door d : newDoors) if (d.a >= r || d.b >= r) throw new Way(6, text.length());
        for (One o : newPeople) if (o.room >= r) throw new Way(6, text.length());
        for (int w : walls) if (w >= newDoors.size()) throw new Way(6, text.length());
        rooms = r;
        law = newLaw == null ? 0 : newLaw;
        doors = newDoors;
        people = newPeople;
        for (int w : walls) setWall(w, true);
        told = new ArrayList<>();
        images[0] = null;
        images[1] = null;
        return lines;
    }

    private void setWall(int d, boolean is) {
        Door o = doors.get(d);
        doors.set(d, new Door(o.a, o.b, o.colour, is));
    }

    int fault() {
        return fault;
    }

    private boolean room(int r) {
        return r >= 0 && r < rooms;
    }

    private boolean isDoor(int d) {
        return d >= 0 && d < doors.size();
    }

    private boolean isOne(int p) {
        return p >= 0 && p < people.size();
    }

    int rule(int what) {
        return switch (what) {
            case 0 -> rooms;
            case 1 -> law;
            case 2 -> doors.size();
            case 3 -> people.size();
            default -> BAD;
        };
    }

    int door(int d, int what) {
        if (!isDoor(d) || what < 0 || what > 3) return BAD;
        Door o = doors.get(d);
        return new int[] {o.a, o.b, o.colour, o.walled ? 1 : 0}[what];
    }

    private boolean may(One o, int d) {
        Door x = doors.get(d);
        if (x.walled || x.a != o.room && x.b != o.room) return false;
        if (o.last < 0) return true;
        return switch (law) {
            case 0 -> d != o.last;
            case 1 -> d != o.last && d != o.prev;
            case 2 -> x.colour != doors.get(o.last).colour;
            default -> true;
        };
    }

    private One step(One o, int d) {
        Door x = doors.get(d);
        return new One(x.a == o.room ? x.b : x.a, d, o.last);
    }

    private List<Integer> choices(One o) {
        List<Integer> some = new ArrayList<>();
        for (int d = 0; d < doors.size(); d++) if (may(o, d)) some.add(d);
        return some;
    }

    private static One fresh(int room) {
        return new One(room, -1, -1);
    }

    private boolean lost(One o) {
        return choices(o).isEmpty();
    }

    private static int bits(Iterable<Integer> some) {
        int all = 0;
        for (int x : some) all |= 1 << x;
        return all;
    }

    int one(int p, int what) {
        if (!isOne(p) || what < 0 || what > 3) return BAD;
        One o = people.get(p);
        if (what == 0) return o.room;
        if (what == 1) return o.last < 0 ? NONE : o.last;
        if (what == 2) return o.prev < 0 ? NONE : o.prev;
        return bits(choices(o));
    }

    int doors(int room) {
        return room(room) ? bits(choices(fresh(room))) : BAD;
    }

    // ---- changes

    int law(int v) {
        if (v < 0 || v > 3) return BAD;
        int was = law;
        law = v;
        return was;
    }

    int build(int a, int b, int colour) {
        if (!room(a) || !room(b) || a == b || colour < 0 || colour > 3) return BAD;
        if (doors.size() == 14) return FULL;
        doors.add(new Door(a, b, colour, false));
        return doors.size() - 1;
    }

    int wall(int d, boolean is) {
        if (!isDoor(d)) return BAD;
        int was = doors.get(d).walled ? 1 : 0;
        setWall(d, is);
        return was;
    }

    int stand(int p, int room) {
        if (!isOne(p) || !room(room)) return BAD;
        return people.set(p, fresh(room)).room;
    }

    int go(int p, int d) {
        if (!isOne(p) || !isDoor(d)) return BAD;
        if (!may(people.get(p), d)) return NONE;
        people.set(p, step(people.get(p), d));
        return people.get(p).room;
    }

    // ---- ways

    private static int compare(List<Integer> x, List<Integer> y) {
        if (x.size() != y.size()) return Integer.compare(x.size(), y.size());
        for (int i = 0; i < x.size(); i++) if (!x.get(i).equals(y.get(i))) return Integer.compare(x.get(i), y.get(i));
        return 0;
    }

    /** For each room the least way, of several the first by doors. */
    private Map<Integer, List<Integer>> least(One start) {
        Map<One, List<Integer>> all = new HashMap<>();
        Map<One, List<Integer>> level = new HashMap<>();
        level.put(start, List.of());
        while (!level.isEmpty()) {
            all.putAll(level);
            Map<One, List<Integer>> next = new HashMap<>();
            for (Map.Entry<One, List<Integer>> e : level.entrySet()) {
                for (int d : choices(e.getKey())) {
                    One to = step(e.getKey(), d);
                    if (all.containsKey(to)) continue;
                    List<Integer> way = new ArrayList<>(e.getValue());
                    way.add(d);
                    next.merge(to, way, (x, y) -> compare(x, y) <= 0 ? x : y);
                }
            }
            level = next;
        }
        Map<Integer, List<Integer>> byRoom = new LinkedHashMap<>();
        for (Map.Entry<One, List<Integer>> e : all.entrySet()) {
            byRoom.merge(e.getKey().room, e.getValue(), (x, y) -> compare(x, y) <= 0 ? x : y);
        }
        return byRoom;
    }

    int far(int p, int room) {
        if (!isOne(p) || !room(room)) return BAD;
        List<Integer> way = least(people.get(p)).get(room);
        return way == null ? NONE : way.size();
    }

    int way(int p, int room, int i) {
        if (!isOne(p) || !room(room) || i < 0) return BAD;
        List<Integer> way = least(people.get(p)).get(room);
        return way == null || i >= way.size() ? NONE : way.get(i);
    }

    int can(int p) {
        return isOne(p) ? bits(least(people.get(p)).keySet()) : BAD;
    }

    int path(int a, int b) {
        if (!room(a) || !room(b)) return BAD;
        List<Integer> way = least(fresh(a)).get(b);
        return way == null ? NONE : way.size();
    }

    int pairs() {
        int n = 0;
        for (int a = 0; a < rooms; a++) n += least(fresh(a)).size() - 1;
        return n;
    }

    private boolean forLife(int room, int d) {
        Door x = doors.get(d);
        int from = x.a == room ? x.b : x.a;
        return lost(step(fresh(from), d));
    }

    int life() {
        int all = 0;
        for (int r = 0; r < rooms; r++) for (int d : choices(fresh(r))) if (forLife(r, d)) all |= 1 << r;
        return all;
    }

    int trap(int room, int d) {
        if (!room(room) || !isDoor(d)) return BAD;
        Door x = doors.get(d);
        if (x.a != room && x.b != room) return BAD;
        if (x.walled) return STATE;
        return forLife(room, d) ? 1 : 0;
    }

    int secret() {
        int all = (1 << rooms) - 1;
        for (int a = 0; a < rooms; a++) for (int b : least(fresh(a)).keySet()) if (a != b) all &= ~(1 << b);
        return all;
    }

    int safe() {
        Set<One> seen = new HashSet<>();
        ArrayDeque<One> todo = new ArrayDeque<>();
        for (int r = 0; r < rooms; r++) todo.add(fresh(r));
        while (!todo.isEmpty()) {
            One o = todo.poll();
            if (o.last >= 0 && lost(o)) return 0;
            for (int d : choices(o)) {
                One to = step(o, d);
                if (seen.add(to)) todo.add(to);
            }
        }
        return 1;
    }

    // ---- rounds, tours

    record Been(One o, int been) { }

    int round(int p, int some) {
        if (!isOne(p) || some < 0 || some >= 1 << rooms || Integer.bitCount(some) > 5) return BAD;
        One start = people.get(p);
        Set<Been> seen = new HashSet<>();
        List<Been> level = List.of(new Been(start, 1 << start.room));
        for (int n = 0; !level.isEmpty(); n++) {
            List<Been> next = new ArrayList<>();
            for (Been b : level) {
                if (b.o.room == start.room && (some & ~b.been) == 0) return n;
                for (int d : choices(b.o)) {
                    One to = step(b.o, d);
                    Been c = new Been(to, b.been & some | 1 << to.room);
                    if (seen.add(c)) next.add(c);
                }
            }
            level = next;
        }
        return NONE;
    }

    private void tours(One o, Set<Integer> left, List<Integer> so, List<List<Integer>> all) {
        if (left.isEmpty()) all.add(new ArrayList<>(so));
        for (int d : choices(o)) {
            if (!left.remove(d)) continue;
            so.add(d);
            tours(step(o, d), left, so, all);
            so.remove(so.size() - 1);
            left.add(d);
        }
    }

    int tour(int room, int what) {
        if (!room(room) || what != 0 && (what < 10 || what > 17)) return BAD;
        Set<Integer> open = new HashSet<>();
        for (int d = 0; d < doors.size(); d++) if (!doors.get(d).walled) open.add(d);
        if (open.size() > 8) return STATE;
        List<List<Integer>> all = new ArrayList<>();
        tours(fresh(room), open, new ArrayList<>(), all);
        if (what == 0) return all.size();
        if (all.isEmpty() || what - 10 >= all.get(0).size()) return NONE;
        return all.get(0).get(what - 10);
    }

    // ---- two

    private List<One> minute(One o) {
        List<One> some = new ArrayList<>();
        for (int d : choices(o)) some.add(step(o, d));
        if (some.isEmpty()) some.add(o);
        return some;
    }

    private static One plain(One o) {
        return new One(o.room, o.last, -1);
    }

    int talk(int p, int q, int k) {
        if (!isOne(p) || !isOne(q) || p == q || k < 1 || k > 5) return BAD;
        if (law == 1) return STATE;
        One a = plain(people.get(p));
        One b = plain(people.get(q));
        Set<Both> seen = new HashSet<>();
        List<Both> level = List.of(new Both(a, b, a.room == b.room ? 1 : 0));
        for (int n = 0; !level.isEmpty(); n++) {
            List<Both> next = new ArrayList<>();
            for (Both x : level) {
                if (x.n >= k) return n;
                for (One c : minute(x.p)) {
                    for (One d : minute(x.q)) {
                        Both y = new Both(plain(c), plain(d), c.room == d.room ? x.n + 1 : 0);
                        if (seen.add(y)) next.add(y);
                    }
                }
            }
            level = next;
        }
        return NONE;
    }

    int cup(int p, int q, int room) {
        if (!isOne(p) || !isOne(q) || p == q || !room(room)) return BAD;
        if (law == 1) return STATE;
        Set<Both> seen = new HashSet<>();
        List<Both> level = new ArrayList<>();
        level.add(new Both(plain(people.get(p)), plain(people.get(q)), 0));
        for (int n = 0; !level.isEmpty(); n++) {
            List<Both> handed = new ArrayList<>(level);
            for (Both x : level) {
                Both y = new Both(x.p, x.q, 1 - x.n);
                if (x.p.room == x.q.room && seen.add(y)) handed.add(y);
            }
            List<Both> next = new ArrayList<>();
            for (Both x : handed) {
                if ((x.n == 0 ? x.p : x.q).room == room) return n;
                for (One c : minute(x.p)) {
                    for (One d : minute(x.q)) {
                        Both y = new Both(plain(c), plain(d), x.n);
                        if (seen.add(y)) next.add(y);
                    }
                }
            }
            level = next;
        }
        return NONE;
    }

    // ---- builders

    int more(int what) {
        if (what < 0 || what > 1) return BAD;
        if (doors.size() == 14) return STATE;
        int now = pairs();
        int best = NONE;
        for (int a = 0; a < rooms; a++) {
            for (int b = a + 1; b < rooms; b++) {
                doors.add(new Door(a, b, 0, false));
                int n = pairs();
                doors.remove(doors.size() - 1);
                if (n > now) {
                    now = n;
                    best = 10 * a + b;
                }
            }
        }
        return best == NONE ? NONE : what == 0 ? best : now;
    }

    int worst(int what) {
        if (what < 0 || what > 1) return BAD;
        int least = Integer.MAX_VALUE;
        int best = NONE;
        for (int d = 0; d < doors.size(); d++) {
            if (doors.get(d).walled) continue;
            setWall(d, true);
            int n = pairs();
            setWall(d, false);
            if (n < least) {
                least = n;
                best = d;
            }
        }
        return best == NONE ? NONE : what == 0 ? best : least;
    }

    private List<Integer> mendRow() {
        if (safe() == 1) return List.of();
        for (int many = 1; many <= 2; many++) {
            if (doors.size() + many > 14) return null;
            for (int x = 0; x < 100; x++) {
                for (int y = many == 1 ? 99 : x; y < 100; y++) {
                    int[] row = many == 1 ? new int[] {x} : new int[] {x, y};
                    boolean fits = true;
                    for (int pair : row) fits &= pair / 10 < pair % 10 && pair % 10 < rooms;
                    if (!fits) continue;
                    for (int pair : row) doors.add(new Door(pair / 10, pair % 10, 0, false));
                    boolean mended = safe() == 1;
                    for (int i = 0; i < many; i++) doors.remove(doors.size() - 1);
                    if (mended) return many == 1 ? List.of(x) : List.of(x, y);
                }
            }
        }
        return null;
    }

    int mend(int what) {
        if (what < 0 || what > 2) return BAD;
        List<Integer> row = mendRow();
        if (row == null) return NONE;
        if (what == 0) return row.size();
        return what <= row.size() ? row.get(what - 1) : NONE;
    }

    // ---- walks

    int tell(int d) {
        if (!isDoor(d)) return BAD;
        if (told.size() == 12) return FULL;
        told.add(d);
        return told.size();
    }

    int forget() {
        int had = told.size();
        told.clear();
        return had;
    }

    int judge(int room) {
        if (!room(room)) return BAD;
        One o = fresh(room);
        for (int i = 0; i < told.size(); i++) {
            if (!may(o, told.get(i))) return i;
            o = step(o, told.get(i));
        }
        return NONE;
    }

    private void ways(One o, int n, List<Integer> so, int some, List<List<Integer>> all, List<Integer> ends) {
        if (n == 0) {
            if (bits(so) == some) {
                all.add(new ArrayList<>(so));
                ends.add(o.room);
            }
            return;
        }
        for (int d : choices(o)) {
            if ((some >> d & 1) == 0) continue;
            so.add(d);
            ways(step(o, d), n - 1, so, some, all, ends);
            so.remove(so.size() - 1);
        }
    }

    int ajar(int room, int n, int some, int what) {
        if (!room(room) || n < 0 || n > 6 || some < 0 || some >= 1 << doors.size()) return BAD;
        if (what != 0 && what != 1 && (what < 10 || what > 15)) return BAD;
        List<List<Integer>> all = new ArrayList<>();
        List<Integer> ends = new ArrayList<>();
        if (Integer.bitCount(some) <= 6) ways(fresh(room), n, new ArrayList<>(), some, all, ends);
        if (what == 0) return all.size();
        if (what == 1) return bits(ends);
        return all.isEmpty() || what - 10 >= n ? NONE : all.get(0).get(what - 10);
    }

    // ---- images, sheets

    int keep(int k) {
        if (k < 0 || k > 1) return BAD;
        int was = images[k] == null ? 0 : 1;
        images[k] = new Image(List.copyOf(doors), List.copyOf(people), law, List.copyOf(told));
        return was;
    }

    int back(int k) {
        if (k < 0 || k > 1) return BAD;
        if (images[k] == null) return STATE;
        doors = new ArrayList<>(images[k].doors);
        people = new ArrayList<>(images[k].people);
        law = images[k].law;
        told = new ArrayList<>(images[k].told);
        return doors.size();
    }

    int sheet(int k, int lane, int n) {
        if (k < 0 || k > 3 || lane < 0 || lane > 2 || n > 40) return BAD;
        try {
            sheets[k] = lane == 0 ? new byte[n] : lane == 1 ? new short[n] : new int[n];
        } catch (NegativeArraySizeException e) {
            return -14;
        }
        return 1;
    }

    int lay(int k, int i, int v) {
        if (k < 0 || k > 3) return BAD;
        try {
            Object s = sheets[k];
            if (s instanceof byte[] b) b[i] = (byte) v;
            else if (s instanceof short[] b) b[i] = (short) v;
            else ((int[]) s)[i] = v;
        } catch (NullPointerException e) {
            return -11;
        } catch (ArrayIndexOutOfBoundsException e) {
            return -12;
        }
        return 1;
    }

    private int cell(int k, int lane, int i) {
        return lane == 0 ? ((byte[]) sheets[k])[i] : lane == 1 ? ((short[]) sheets[k])[i] : ((int[]) sheets[k])[i];
    }

    int read(int k, int lane, int p, int f, int n) {
        if (k < 0 || k > 3 || lane < 0 || lane > 2 || n < 0 || n > 12 || !isOne(p)) return BAD;
        One was = people.get(p);
        int found = 0;
        int i = 0;
        for (; i < n && found == 0; i++) {
            int d = 0;
            try {
                d = cell(k, lane, f + i);
            } catch (NullPointerException e) {
                found = 1;
            } catch (ArrayIndexOutOfBoundsException e) {
                found = 2;
            } catch (ClassCastException e) {
                found = 3;
            }
            if (found != 0) break;
            if (go(p, d) < 0) {
                people.set(p, was);
                return -20 - i;
            }
        }
        torn = found;
        return i;
    }

    int torn() {
        return torn;
    }

    int count(int what) {
        int n = 0;
        switch (what) {
            case 0:
                for (Door d : doors) n += d.walled ? 0 : 1;
                return n;
            case 1:
                for (One o : people) n += lost(o) ? 1 : 0;
                return n;
            case 2: return told.size();
            case 3: return (images[0] == null ? 0 : 1) + (images[1] == null ? 0 : 1);
            case 4: return tape.length();
            case 5: return sheets[0] == null ? NONE : java.lang.reflect.Array.getLength(sheets[0]);
            default: return BAD;
        }
    }

    String tell() {
        return "rooms " + rooms + " law " + law + " doors " + doors + " people " + people + " told " + told
            + " images " + Arrays.toString(images);
    }
}
