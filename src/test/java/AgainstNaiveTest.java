import java.util.ArrayList;
import java.util.List;
import java.util.Random;

/** Promises 1 to 41: long rows of calls with chance arguments, each answer as the naive one. */
public final class AgainstNaiveTest {
    private static final int RUNS = Integer.getInteger("runs", 1200);
    private static final String[] NAMES = {"feed", "end", "palace", "fault", "rule", "door", "one", "doors", "law",
        "build", "wall", "stand", "go", "far", "way", "can", "path", "pairs", "life", "trap", "secret", "safe",
        "round", "tour", "talk", "cup", "more", "worst", "mend", "tell", "forget", "judge", "ajar", "keep", "back",
        "sheet", "lay", "read", "torn", "count"};

    private final Random chance;
    private final OtherDoor x = new OtherDoor();
    private final NaiveDoor y = new NaiveDoor();
    private final List<String> row = new ArrayList<>();
    private final int heavy;

    private AgainstNaiveTest(long seed) {
        chance = new Random(seed);
        heavy = chance.nextInt(4);
    }

    private int in(int low, int high) {
        return low + chance.nextInt(high - low + 1);
    }

    /** Mostly within bounds, now and then just outside, seldom far away. */
    private int some(int low, int high) {
        int luck = chance.nextInt(60);
        if (luck == 0) return low - 1;
        if (luck == 1) return high + 1;
        if (luck == 2) return new int[] {Integer.MIN_VALUE, Integer.MAX_VALUE, -5, 31, 32, 64, 1 << 30}[in(0, 6)];
        return in(low, Math.max(low, high));
    }

    private int room() {
        return some(0, y.rooms - 1);
    }

    private int someDoor() {
        return some(0, y.doors.size() - 1);
    }

    private int person() {
        return some(0, y.people.size() - 1);
    }

    private int roomBits() {
        int bits = 0;
        int many = some(0, 5);
        for (int i = 0; i < Math.min(many, 6); i++) bits |= 1 << in(0, y.rooms - 1);
        return chance.nextInt(40) == 0 ? bits | 1 << y.rooms : chance.nextInt(60) == 0 ? -bits : bits;
    }

    private boolean check(String call, int got, int want) {
        row.add(call + " -> " + got);
        if (got == want) return true;
        System.out.println("wrong: " + call + " answered " + got + ", due is " + want);
        System.out.println("  palace: " + y.tell());
        for (int i = Math.max(0, row.size() - 30); i < row.size(); i++) System.out.println("  " + row.get(i));
        return false;
    }

    private static String blanks(Random chance, boolean one) {
        int luck = chance.nextInt(8);
        return luck == 0 ? "   " : luck == 1 && !one ? "" : " ";
    }

    /** A text that is right but for what chance puts into it. */
    private String text(boolean clean) {
        int r = in(2, 10);
        int doors = in(0, 3) == 0 ? in(0, 15) : in(2, 12);
        int ones = in(0, 3) == 0 ? in(0, 6) : in(1, 4);
        List<String> lines = new ArrayList<>();
        if (in(0, 9) > 0) lines.add("rooms" + blanks(chance, false) + r);
        else r = 4;
        if (in(0, 4) > 0) lines.add("law" + blanks(chance, false) + new int[] {0, 1, 1, 2, 2, 3}[in(0, 5)]);
        int narrow = in(0, 1) == 0 ? Math.max(2, r / 2) : r;
        for (int i = 0; i < doors; i++) {
            int a = in(0, narrow - 1);
            int b = (a + in(1, narrow - 1)) % narrow;
            String colour = new String[] {"", "", "red", "green", "blue"}[in(0, 4)];
            lines.add("door" + blanks(chance, false) + a + " " + blanks(chance, false) + b + blanks(chance, false) + colour);
        }
        for (int i = 0; i < ones; i++) lines.add("one" + blanks(chance, false) + in(0, r - 1));
        for (int i = 0; i < doors && i < 14; i++) if (in(0, 7) == 0) lines.add("walled" + blanks(chance, false) + i);
        java.util.Collections.shuffle(lines, chance);
        StringBuilder all = new StringBuilder();
        for (String line : lines) all.append(line).append(blanks(chance, false)).append(";").append(in(0, 3) == 0 ? " " : "");
        if (clean) return all.toString();
        for (int i = in(0, 2); i > 0 && all.length() > 0; i--) {
            int at = in(0, all.length() - 1);
            String[] odd = {"", "x", ";", " ", "7", "00", "red", "one ", "law 2;", "rooms 5;", "walled 3;", "door 1 2", "\t",
                "\u00e9", "A", "100", "10", "14", "?"};
            String put = odd[in(0, odd.length - 1)];
            if (in(0, 1) == 0) all.insert(at, put);
            else all.replace(at, at + 1, put);
        }
        return all.toString();
    }

    private boolean tellText(boolean clean) {
        String text = text(clean);
        for (int at = 0; at < text.length(); at += 8) {
            long v = 0;
            for (int i = 0; i < 8; i++) v = v << 8 | (at + i < text.length() ? text.charAt(at + i) : 32);
            if (!check("feed(" + v + ")", x.feed(v), y.feed(v))) return false;
        }
        int n = Math.min(text.length(), y.tape.length());
        return check("end(" + n + ")", x.end(n), y.end(n))
            && check("palace() of \"" + text + "\"", x.palace(), y.palace())
            && check("fault()", x.fault(), y.fault());
    }

    private boolean run() {
        if (!tellText(true)) return false;
        for (int i = 0; i < 100; i++) {
            if (in(0, 3) == 0 && !walk()) return false;
            if (!call(NAMES[in(0, NAMES.length - 1)])) return false;
        }
        return true;
    }

    private boolean call(String name) {
        switch (name) {
            case "feed": return in(0, 3) != 0 || tellText(in(0, 2) == 0);
            case "end": {
                int n = some(-1, y.tape.length() + 1);
                return check("end(" + n + ")", x.end(n), y.end(n));
            }
            case "palace": return in(0, 9) != 0 || check("palace()", x.palace(), y.palace());
            case "fault": return check("fault()", x.fault(), y.fault());
            case "pairs": return check("pairs()", x.pairs(), y.pairs());
            case "life": return check("life()", x.life(), y.life());
            case "secret": return check("secret()", x.secret(), y.secret());
            case "safe": return check("safe()", x.safe(), y.safe());
            case "forget": return in(0, 3) != 0 || check("forget()", x.forget(), y.forget());
            case "torn": return check("torn()", x.torn(), y.torn());
            default: return callWith(name);
        }
    }

    private boolean callWith(String name) {
        int a = 0;
        int b = 0;
        int c = 0;
        int d = 0;
        int e = 0;
        switch (name) {
            case "rule": a = some(0, 3); return check("rule(" + a + ")", x.rule(a), y.rule(a));
            case "door": a = someDoor(); b = some(0, 3); return check("door(" + a + ", " + b + ")", x.door(a, b), y.door(a, b));
            case "one": a = person(); b = some(0, 3); return check("one(" + a + ", " + b + ")", x.one(a, b), y.one(a, b));
            case "doors": a = room(); return check("doors(" + a + ")", x.doors(a), y.doors(a));
            case "law": a = some(0, 3); return check("law(" + a + ")", x.law(a), y.law(a));
            case "build":
                if (in(0, 2) != 0) return true;
                a = room(); b = room(); c = some(0, 3);
                return check("build(" + a + ", " + b + ", " + c + ")", x.build(a, b, c), y.build(a, b, c));
            case "wall": {
                a = someDoor();
                boolean is = in(0, 2) == 0;
                return check("wall(" + a + ", " + is + ")", x.wall(a, is), y.wall(a, is));
            }
            case "stand": a = person(); b = room(); return check("stand(" + a + ", " + b + ")", x.stand(a, b), y.stand(a, b));
            case "go": return walk();
            case "far": a = person(); b = room(); return check("far(" + a + ", " + b + ")", x.far(a, b), y.far(a, b));
            case "way": return wholeWay();
            case "can": a = person(); return check("can(" + a + ")", x.can(a), y.can(a));
            case "path": a = room(); b = room(); return check("path(" + a + ", " + b + ")", x.path(a, b), y.path(a, b));
            case "trap": a = room(); b = someDoor(); return check("trap(" + a + ", " + b + ")", x.trap(a, b), y.trap(a, b));
            case "round": a = person(); b = roomBits(); return check("round(" + a + ", " + b + ")", x.round(a, b), y.round(a, b));
            case "tour": return wholeTour();
            case "talk":
                a = person(); b = person(); c = some(1, 5);
                return check("talk(" + a + ", " + b + ", " + c + ")", x.talk(a, b, c), y.talk(a, b, c));
            case "cup":
                a = person(); b = person(); c = room();
                return check("cup(" + a + ", " + b + ", " + c + ")", x.cup(a, b, c), y.cup(a, b, c));
            case "tell":
                for (int i = in(1, 3); i > 0; i--) {
                    a = someDoor();
                    if (!check("tell(" + a + ")", x.tell(a), y.tell(a))) return false;
                }
                return true;
            case "judge": a = room(); return check("judge(" + a + ")", x.judge(a), y.judge(a));
            case "ajar": return wholeAjar();
            case "keep": a = some(0, 1); return check("keep(" + a + ")", x.keep(a), y.keep(a));
            case "back": a = some(0, 1); return check("back(" + a + ")", x.back(a), y.back(a));
            case "sheet":
                a = some(0, 3); b = some(0, 2); c = in(0, 5) == 0 ? some(0, 40) : in(0, 12);
                return check("sheet(" + a + ", " + b + ", " + c + ")", x.sheet(a, b, c), y.sheet(a, b, c));
            case "lay":
                a = some(0, 3);
                for (int i = 0; i < 12; i++) {
                    c = in(0, 3) == 0 ? someDoor() + 65536 * in(-2, 2) + 256 * in(-2, 2) : someDoor();
                    if (!check("lay(" + a + ", " + i + ", " + c + ")", x.lay(a, i, c), y.lay(a, i, c))) return false;
                }
                return true;
            case "read":
                a = some(0, 3); b = some(0, 2); c = person(); d = some(-1, 12); e = in(0, 2) == 0 ? some(0, 12) : in(0, 3);
                return check("read(" + a + ", " + b + ", " + c + ", " + d + ", " + e + ")", x.read(a, b, c, d, e), y.read(a, b, c, d, e))
                    && check("torn()", x.torn(), y.torn()) && people();
            case "count": a = some(0, 5); return check("count(" + a + ")", x.count(a), y.count(a));
            default: return slowCall(name);
        }
    }

    /** The naive builders are slow, so only some runs ask them. */
    private boolean slowCall(String name) {
        if (heavy != 0) return true;
        int a = some(0, 2);
        switch (name) {
            case "more": return check("more(" + a + ")", x.more(a), y.more(a)) && people();
            case "worst": return check("worst(" + a + ")", x.worst(a), y.worst(a)) && people();
            case "mend": return check("mend(" + a + ")", x.mend(a), y.mend(a)) && people();
            default: throw new IllegalStateException(name);
        }
    }

    private boolean people() {
        for (int p = 0; p < y.people.size(); p++) {
            for (int what = 0; what < 4; what++) {
                if (!check("one(" + p + ", " + what + ")", x.one(p, what), y.one(p, what))) return false;
            }
        }
        return check("rule(2)", x.rule(2), y.rule(2)) && check("count(0)", x.count(0), y.count(0));
    }

    private boolean walk() {
        for (int i = 0; i < 5; i++) {
            int p = person();
            int d = someDoor();
            // mostly a door that he may take: else nobody walks far
            int may = in(0, 2) == 0 ? 0 : y.one(p, 3);
            for (int turn = 0; turn < 14 && may > 0 && (d < 0 || d > 13 || (may >> d & 1) == 0); turn++) d = turn;
            if (!check("go(" + p + ", " + d + ")", x.go(p, d), y.go(p, d))) return false;
        }
        return true;
    }

    private boolean wholeWay() {
        int p = person();
        int r = room();
        for (int i = -1; i < 12; i++) {
            if (!check("way(" + p + ", " + r + ", " + i + ")", x.way(p, r, i), y.way(p, r, i))) return false;
        }
        return true;
    }

    private boolean wholeTour() {
        int r = room();
        if (!check("tour(" + r + ", 0)", x.tour(r, 0), y.tour(r, 0))) return false;
        int what = some(9, 18);
        return check("tour(" + r + ", " + what + ")", x.tour(r, what), y.tour(r, what));
    }

    /** Chance bits are seldom a walk's doors, so a walk is made and its doors asked for. */
    private boolean wholeAjar() {
        int r = in(0, y.rooms - 1);
        int n = in(0, 6);
        int bits = 0;
        int here = r;
        for (int i = 0; i < n; i++) {
            int open = y.doors(here);
            if (open == 0) break;
            int d = in(0, y.doors.size() - 1);
            while ((open >> d & 1) == 0) d = (d + 1) % y.doors.size();
            bits |= 1 << d;
            here = y.door(d, 0) == here ? y.door(d, 1) : y.door(d, 0);
        }
        if (in(0, 9) == 0) bits = some(0, 1 << y.doors.size());
        n = in(0, 3) == 0 ? some(0, 6) : n;
        for (int what : new int[] {0, 1, 10, 11, some(8, 17)}) {
            String call = "ajar(" + r + ", " + n + ", " + bits + ", " + what + ")";
            if (!check(call, x.ajar(r, n, bits, what), y.ajar(r, n, bits, what))) return false;
        }
        return true;
    }

    public static void main(String[] args) {
        int wrong = 0;
        for (int run = 0; run < RUNS && wrong < 5; run++) {
            if (!new AgainstNaiveTest(run).run()) {
                wrong++;
                System.out.println("  in run " + run);
            }
        }
        System.out.println(wrong == 0 ? RUNS + " chance runs agree" : "chance runs do not agree");
        if (wrong != 0) System.exit(1);
    }
}
