import java.util.ArrayList;
import java.util.List;

/** Objects made alike, and all that can be seen of them: what is refused to one must leave it as the other. */
final class Twins {
    interface Made {
        OtherDoor make();
    }

    interface Call {
        int on(OtherDoor x);
    }

    interface Look {
        List<String> at(OtherDoor x);
    }

    private static final String TOLD = "rooms 6; law 1; door 0 1; door 1 2 red; door 2 3 green; door 3 0 blue; door 0 2; door 4 5;"
        + " one 0; one 2; one 4; walled 5;";

    /** A palace in which nothing is as at first: walks, two unlike images, sheets of each kind, a text half told. */
    static OtherDoor rich() {
        OtherDoor x = Check.of(TOLD);
        x.tell(0);
        x.tell(1);
        x.tell(2);
        x.keep(0);
        x.law(2);
        x.wall(5, false);
        x.go(2, 5);
        x.build(3, 4, 1);
        x.go(0, 0);
        x.tell(3);
        x.keep(1);
        x.law(0);
        x.go(0, 1);
        x.go(1, 2);
        x.wall(4, true);
        x.build(1, 4, 3);
        lay(x, 0, 0, 0, 1, 2);
        lay(x, 1, 1, 3, 2, 1, 300);
        lay(x, 2, 2);
        x.read(0, 1, 0, 0, 1);
        Check.tell(x, "rooms 1;");
        Check.put(x, "rooms 7;law 3;");
        return x;
    }

    /** The rich palace with all doors that it can have. */
    static OtherDoor richAndFull() {
        OtherDoor x = rich();
        for (int d = x.rule(2); d < 14; d++) {
            x.build(4, 5, d % 4);
        }
        return x;
    }

    static void lay(OtherDoor x, int k, int lane, int... cells) {
        x.sheet(k, lane, cells.length);
        for (int i = 0; i < cells.length; i++) {
            x.lay(k, i, cells[i]);
        }
    }

    /** One object is used for one look alone, so that none is asked more than 512 calls. */
    static final Look[] ALL = {Twins::palace, Twins::searches, Twins::images, Twins::sheets, Twins::tape};
    static final Look[] ALL_BUT_TAPE = {Twins::palace, Twins::searches, Twins::images, Twins::sheets};

    private static void note(List<String> all, String call, int answer) {
        all.add(call + " = " + answer);
    }

    static List<String> palace(OtherDoor x) {
        List<String> all = new ArrayList<>();
        for (int what = 0; what < 4; what++) {
            note(all, "rule(" + what + ")", x.rule(what));
            note(all, "count(" + what + ")", x.count(what));
        }
        for (int room = 0; room < 10; room++) {
            note(all, "doors(" + room + ")", x.doors(room));
            note(all, "judge(" + room + ")", x.judge(room));
        }
        for (int d = 0; d < 14; d++) {
            for (int what = 0; what < 4; what++) {
                note(all, "door(" + d + ", " + what + ")", x.door(d, what));
            }
        }
        for (int p = 0; p < 5; p++) {
            for (int what = 0; what < 4; what++) {
                note(all, "one(" + p + ", " + what + ")", x.one(p, what));
            }
        }
        return all;
    }

    private static List<String> searches(OtherDoor x) {
        List<String> all = new ArrayList<>();
        note(all, "worst(0)", x.worst(0));
        note(all, "more(0)", x.more(0));
        note(all, "pairs()", x.pairs());
        note(all, "safe()", x.safe());
        for (int what = 0; what < 3; what++) {
            note(all, "mend(" + what + ")", x.mend(what));
        }
        for (int p = 0; p < 3; p++) {
            int q = (p + 1) % 3;
            note(all, "can(" + p + ")", x.can(p));
            note(all, "round(" + p + ", 7)", x.round(p, 7));
            note(all, "round(" + p + ", 31)", x.round(p, 31));
            note(all, "talk(" + p + ", " + q + ", 3)", x.talk(p, q, 3));
            for (int room = 0; room < 6; room++) {
                note(all, "far(" + p + ", " + room + ")", x.far(p, room));
                note(all, "way(" + p + ", " + room + ", 1)", x.way(p, room, 1));
                note(all, "cup(" + p + ", " + q + ", " + room + ")", x.cup(p, q, room));
            }
        }
        for (int room = 0; room < 6; room++) {
            note(all, "tour(" + room + ", 0)", x.tour(room, 0));
            note(all, "tour(" + room + ", 11)", x.tour(room, 11));
            for (int what : new int[] {0, 1, 10, 13}) {
                note(all, "ajar(" + room + ", 4, 15, " + what + ")", x.ajar(room, 4, 15, what));
            }
        }
        return all;
    }

    private static List<String> images(OtherDoor x) {
        List<String> all = new ArrayList<>();
        for (int k = 0; k < 2; k++) {
            note(all, "back(" + k + ")", x.back(k));
            all.addAll(palace(x));
        }
        return all;
    }

    private static List<String> sheets(OtherDoor x) {
        List<String> all = new ArrayList<>();
        note(all, "torn()", x.torn());
        note(all, "count(5)", x.count(5));
        for (int k = 0; k < 4; k++) {
            for (int lane = 0; lane < 3; lane++) {
                x.stand(0, 0);
                note(all, "read(" + k + ", " + lane + ", 0, 0, 12)", x.read(k, lane, 0, 0, 12));
                note(all, "torn()", x.torn());
                note(all, "one(0, 0)", x.one(0, 0));
                note(all, "one(0, 1)", x.one(0, 1));
            }
        }
        for (int k = 0; k < 4; k++) {
            for (int i = -1; i <= 40; i += i < 5 ? 1 : 7) {
                note(all, "lay(" + k + ", " + i + ", 0)", x.lay(k, i, 0));
            }
        }
        return all;
    }

    private static List<String> tape(OtherDoor x) {
        List<String> all = new ArrayList<>();
        note(all, "count(4)", x.count(4));
        note(all, "fault()", x.fault());
        note(all, "palace()", x.palace());
        note(all, "fault()", x.fault());
        all.addAll(palace(x));
        return all;
    }

    private Twins() {
    }
}
