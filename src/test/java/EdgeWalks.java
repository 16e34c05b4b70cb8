/** Boundary cases of promises 31 to 34: walks told and judged, doors ajar. */
final class EdgeWalks {
    private static final int BAD = OtherDoor.BAD, FULL = OtherDoor.FULL, NONE = OtherDoor.NONE;
    private static final int MIN = Integer.MIN_VALUE, MAX = Integer.MAX_VALUE;
    private static final String MANY = "rooms 2;law 3;" + "door 0 1;".repeat(14);

    private final Edges e;

    EdgeWalks(Edges edges) {
        e = edges;
    }

    void run() {
        tell();
        forget();
        judge();
        ajar();
        ajarRefused();
    }

    /** The rich palace with a walk that has all the doors it can have. */
    private static OtherDoor richAndTold() {
        OtherDoor x = Twins.rich();
        for (int i = x.count(2); i < 12; i++) {
            x.tell(i % 4);
        }
        return x;
    }

    private void tell() {
        e.of(31, "A walk is told: one DOOR more: how many there are (12).");
        OtherDoor x = Check.of(MANY);
        x.wall(13, true);
        for (int i = 1; i <= 12; i++) {
            e.due("tell " + i, x.tell(i == 12 ? 13 : 0), i);
        }
        e.row("all of them, a walled one, too", new int[] {x.count(2), x.judge(0), x.wall(13, false), x.judge(0)}, 12, 11, 1, NONE);
        e.of(31, "BAD; FULL.");
        for (int d : new int[] {-1, 8, 13, 14, MIN, MAX}) {
            e.refused("tell(" + d + ") of 8 doors", z -> z.tell(d), BAD);
            e.refused("tell(" + d + ") behind 12: BAD fits first", EdgeWalks::richAndTold, z -> z.tell(d), BAD);
        }
        e.refused("tell(14) of 14 doors", Twins::richAndFull, z -> z.tell(14), BAD);
        e.refused("tell(0) of no door", OtherDoor::new, z -> z.tell(0), BAD);
        e.refused("the 13th", EdgeWalks::richAndTold, z -> z.tell(0), FULL);
        e.refused("the 13th, the last door", EdgeWalks::richAndTold, z -> z.tell(7), FULL);
    }

    private void forget() {
        e.of(32, "The told walk is forgotten: how many DOORS it had.");
        OtherDoor x = richAndTold();
        e.row("twelve, then none", new int[] {x.judge(1), x.forget(), x.count(2), x.judge(1), x.forget(), x.tell(0), x.count(2)},
            1, 12, 0, NONE, 0, 1, 1);
        OtherDoor y = new OtherDoor();
        e.row("no walk", new int[] {y.forget(), y.forget(), y.count(2)}, 0, 0, 0);
    }

    private void judge() {
        e.of(33, "The told walk of a NEW one from a ROOM: the first DOOR of it that is no STEP (0 on).");
        OtherDoor x = Check.of("rooms 10;door 8 9;door 8 9;one 8;one 9;");
        x.tell(0);
        e.row("one door", new int[] {x.judge(8), x.judge(9), x.judge(0)}, NONE, NONE, 0);
        for (int i = 2; i <= 11; i++) {
            x.tell((i - 1) % 2);
        }
        x.tell(0);
        e.row("the last of twelve", new int[] {x.count(2), x.judge(8), x.judge(9), x.judge(7)}, 12, 11, 11, 0);
        x.go(0, 0);
        e.row("of a NEW one, whoever came in by whatever door", new int[] {x.judge(9), x.one(0, 1), x.one(0, 0)}, 11, 0, 9);
        x.law(1);
        e.due("by law 1", x.judge(8), 2);
        x.law(2);
        e.due("by law 2", x.judge(8), 1);
        x.wall(0, true);
        e.due("a walled door", x.judge(8), 0);
        e.of(33, "BAD; NONE: all are.");
        for (int room : new int[] {-1, 6, 10, MIN, MAX}) {
            e.refused("judge(" + room + ") of 6 rooms", z -> z.judge(room), BAD);
        }
        e.row("of ten rooms", new int[] {x.judge(10), x.judge(-1)}, BAD, BAD);
        x.wall(0, false);
        x.law(3);
        e.row("all twelve", new int[] {x.judge(8), x.judge(9)}, NONE, NONE);
        x.forget();
        e.row("of none, in each room", new int[] {x.judge(8), x.judge(0), x.judge(10)}, NONE, NONE, BAD);
        e.refused("all of four", z -> z.judge(0), NONE);
    }

    private void ajar() {
        OtherDoor x = Check.of(MANY);
        e.of(34, "WAYS of a NEW one from a ROOM with n STEPS (0 to 6) by which just some DOORS (bits; 0, too) are AJAR: how many (what 0),");
        e.row("no step", new int[] {x.ajar(0, 0, 0, 0), x.ajar(0, 0, 1, 0), x.ajar(0, 1, 0, 0), x.ajar(0, 6, 0, 0)}, 1, 0, 0, 0);
        e.row("one door", new int[] {x.ajar(0, 1, 1, 0), x.ajar(0, 6, 1, 0), x.ajar(0, 6, 1 << 13, 0)}, 1, 1, 1);
        e.row("all of them, no others", new int[] {x.ajar(0, 2, 3, 0), x.ajar(0, 2, 7, 0), x.ajar(0, 6, 3, 0), x.ajar(0, 6, 63, 0),
            x.ajar(0, 6, 127, 0), x.ajar(0, 6, 0x3fff, 0)}, 2, 0, 62, 720, 0, 0);
        x.law(0);
        e.row("by law 0", new int[] {x.ajar(0, 2, 1, 0), x.ajar(0, 6, 3, 0), x.ajar(0, 6, 63, 0)}, 0, 2, 720);
        x.wall(0, true);
        e.row("a walled door", new int[] {x.ajar(0, 1, 1, 0), x.ajar(0, 2, 3, 0), x.ajar(0, 1, 2, 0)}, 0, 0, 1);
        e.of(34, "ROOMS where he can be now (1; bits);");
        OtherDoor y = Check.of("rooms 10;law 3;door 9 0;door 9 1;");
        e.row("where", new int[] {y.ajar(9, 0, 0, 1), y.ajar(9, 1, 1, 1), y.ajar(9, 2, 1, 1), y.ajar(9, 3, 3, 1), y.ajar(8, 1, 1, 1)},
            512, 1, 512, 3, 0);
        e.of(34, "10 and i (0 to 5): the DOOR of STEP i of the first one by DOORS.");
        x.wall(0, false);
        e.row("six steps", new int[] {x.ajar(0, 6, 63, 10), x.ajar(0, 6, 63, 11), x.ajar(0, 6, 63, 14), x.ajar(0, 6, 63, 15)}, 0, 1, 4, 5);
        e.row("the last doors", new int[] {x.ajar(0, 6, 3 << 12, 10), x.ajar(0, 6, 3 << 12, 15), x.ajar(1, 1, 1 << 13, 10)}, 12, 13, 13);
        e.row("not the first that goes on, but the first that comes to an end", new int[] {y.ajar(9, 3, 3, 10), y.ajar(9, 3, 3, 11), y.ajar(9, 3, 3, 12)},
            0, 0, 1);
    }

    private void ajarRefused() {
        e.of(34, "BAD; NONE (10 and i): there is none, not so many.");
        for (int room : new int[] {-1, 6, 10, MIN, MAX}) {
            e.refused("ajar(" + room + ", 0, 0, 0) of 6 rooms", z -> z.ajar(room, 0, 0, 0), BAD);
        }
        for (int n : new int[] {-1, 7, MIN, MAX}) {
            e.refused("ajar(0, " + n + ", 1, 0)", z -> z.ajar(0, n, 1, 0), BAD);
            e.refused("ajar(0, " + n + ", 1, 10)", z -> z.ajar(0, n, 1, 10), BAD);
        }
        for (int some : new int[] {-1, 256, 257, 1 << 13, 1 << 14, MIN, MAX}) {
            e.refused("ajar(0, 6, " + some + ", 0) of 8 doors", z -> z.ajar(0, 6, some, 0), BAD);
        }
        for (int what : new int[] {-1, 2, 9, 16, MIN, MAX}) {
            e.refused("ajar(0, 1, 1, " + what + ")", z -> z.ajar(0, 1, 1, what), BAD);
        }
        e.refused("ajar(0, 6, 16384, 0) of 14 doors", Twins::richAndFull, z -> z.ajar(0, 6, 1 << 14, 0), BAD);
        e.refused("no door there", OtherDoor::new, z -> z.ajar(0, 1, 1, 0), BAD);
        e.refused("none", z -> z.ajar(0, 1, 2, 10), NONE);
        e.refused("two steps", z -> z.ajar(0, 2, 3, 12), NONE);
        OtherDoor x = Twins.rich();
        e.row("as many as it has", new int[] {x.ajar(0, 2, 3, 10), x.ajar(0, 2, 3, 11), x.ajar(0, 2, 3, 15)}, 0, 1, NONE);
        e.row("no step", new int[] {x.ajar(0, 0, 0, 10), x.ajar(0, 0, 0, 15)}, NONE, NONE);
        e.row("none: 0 and no room", new int[] {x.ajar(0, 1, 2, 0), x.ajar(0, 1, 2, 1)}, 0, 0);
    }
}
