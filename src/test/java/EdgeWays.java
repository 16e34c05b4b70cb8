/** Boundary cases of promises 15 to 23: ways, rooms for life, rooms that can not be had. */
final class EdgeWays {
    private static final int BAD = OtherDoor.BAD, STATE = OtherDoor.STATE, NONE = OtherDoor.NONE;
    private static final int MIN = Integer.MIN_VALUE, MAX = Integer.MAX_VALUE;
    /** A row of ten rooms, each with a door to the next. */
    private static final String ROW = "rooms 10;door 0 1;door 1 2;door 2 3;door 3 4;door 4 5;door 5 6;door 6 7;door 7 8;door 8 9;";
    private static final String RING = "rooms 5;door 0 1;door 1 2;door 2 3;door 3 0;one 0;one 4;";

    private final Edges e;

    EdgeWays(Edges edges) {
        e = edges;
    }

    void run() {
        far();
        way();
        can();
        path();
        pairs();
        life();
        trap();
        secret();
        safe();
    }

    private void far() {
        e.of(15, "Length of THE WAY of a ONE to a ROOM.");
        OtherDoor x = Check.of(ROW + "one 0;one 9;one 9;one 9;one 9;");
        e.row("to his own room, the next, the last", new int[] {x.far(0, 0), x.far(0, 1), x.far(0, 9), x.far(4, 0), x.far(4, 9)}, 0, 1, 9, 9, 0);
        OtherDoor y = Check.of(RING);
        y.go(0, 0);
        e.row("not by the door he came in by", new int[] {y.far(0, 0), y.far(0, 1)}, 3, 0);
        OtherDoor z = Check.of("rooms 4;law 2;door 0 1 red;door 1 2 red;door 1 3;door 3 1 blue;one 0;");
        e.row("longer than there are rooms", new int[] {z.far(0, 2), z.rule(0)}, 4, 4);
        e.of(15, "BAD; NONE: he can not come there.");
        for (int p : new int[] {-1, 3, 5, MIN, MAX}) {
            e.refused("far(" + p + ", 0) of 3 people", w -> w.far(p, 0), BAD);
        }
        for (int room : new int[] {-1, 6, 10, MIN, MAX}) {
            e.refused("far(0, " + room + ") of 6 rooms", w -> w.far(0, room), BAD);
        }
        e.row("of ten rooms, of five people", new int[] {x.far(0, 10), x.far(5, 0)}, BAD, BAD);
        e.refused("from a dead end", w -> w.far(2, 4), NONE);
        e.row("no door there", new int[] {y.far(0, 4), y.far(1, 0), y.far(1, 4)}, NONE, NONE, 0);
        y.wall(1, true);
        e.row("a wall", new int[] {y.far(0, 2), y.far(0, 1)}, NONE, 0);
    }

    private void way() {
        e.of(16, "The DOOR of STEP i (0 on) on THE WAY.");
        OtherDoor x = Check.of(ROW + "one 9;");
        e.row("the first step, the last", new int[] {x.way(0, 0, 0), x.way(0, 0, 1), x.way(0, 0, 8)}, 8, 7, 0);
        OtherDoor y = Check.of(RING);
        e.row("of two the first by doors", new int[] {y.far(0, 2), y.way(0, 2, 0), y.way(0, 2, 1)}, 2, 0, 1);
        OtherDoor w = Check.of("rooms 2;law 1;door 0 1;door 0 1;door 0 1;one 0;");
        e.row("by law 1 not by the one ahead", new int[] {w.go(0, 0), w.go(0, 1), w.way(0, 1, 0), w.law(0), w.way(0, 1, 0)}, 1, 0, 2, 1, 0);
        e.of(16, "BAD (i below 0);");
        for (int i : new int[] {-1, MIN}) {
            e.refused("way(0, 3, " + i + ")", z -> z.way(0, 3, i), BAD);
            e.refused("to no room, " + i, z -> z.way(2, 4, i), BAD);
        }
        for (int p : new int[] {-1, 3, 5, MIN, MAX}) {
            e.refused("way(" + p + ", 0, 0) of 3 people", z -> z.way(p, 0, 0), BAD);
        }
        for (int room : new int[] {-1, 6, 10, MIN, MAX}) {
            e.refused("way(0, " + room + ", 0) of 6 rooms", z -> z.way(0, room, 0), BAD);
        }
        e.of(16, "NONE: it has not so many, there is none.");
        e.row("nine steps", new int[] {x.way(0, 0, 9), x.way(0, 0, 10), x.way(0, 0, MAX), x.way(0, 8, 1)}, NONE, NONE, NONE, NONE);
        e.row("his own room", new int[] {x.way(0, 9, 0), x.way(0, 9, MAX)}, NONE, NONE);
        e.row("no way", new int[] {y.way(0, 4, 0), y.way(1, 0, 0), y.way(1, 0, MAX)}, NONE, NONE, NONE);
        e.refused("behind its end", z -> z.way(0, 3, 1), NONE);
        e.refused("from a dead end", z -> z.way(2, 4, 0), NONE);
    }

    private void can() {
        e.of(17, "ROOMS to which a ONE can come (bits; his own, too).");
        OtherDoor x = Check.of(ROW + "one 0;one 9;");
        e.row("all ten", new int[] {x.can(0), x.can(1)}, 1023, 1023);
        x.go(1, 8);
        x.go(0, 0);
        e.row("not back", new int[] {x.can(0), x.can(1)}, 1022, 511);
        OtherDoor y = Check.of(RING);
        e.row("his own alone", new int[] {y.can(0), y.can(1)}, 15, 16);
        e.of(17, "BAD.");
        for (int p : new int[] {-1, 3, 5, MIN, MAX}) {
            e.refused("can(" + p + ") of 3 people", z -> z.can(p), BAD);
        }
        e.due("of five people", Check.of("one 0;".repeat(5)).can(5), BAD);
        e.refused("can(0) of nobody", OtherDoor::new, z -> z.can(0), BAD);
    }

    private void path() {
        e.of(18, "Length of THE WAY of a NEW one from a ROOM to another one.");
        OtherDoor x = Check.of(ROW);
        e.row("the first room, the last", new int[] {x.path(0, 9), x.path(9, 0), x.path(9, 8), x.path(0, 0), x.path(9, 9)}, 9, 9, 1, 0, 0);
        OtherDoor y = Check.of(RING);
        y.go(0, 0);
        e.due("whoever has come by whatever door", y.path(1, 0), 1);
        e.of(18, "BAD; NONE: there is none.");
        for (int room : new int[] {-1, 6, 10, MIN, MAX}) {
            e.refused("path(" + room + ", 0) of 6 rooms", z -> z.path(room, 0), BAD);
            e.refused("path(0, " + room + ") of 6 rooms", z -> z.path(0, room), BAD);
        }
        e.row("of ten rooms", new int[] {x.path(10, 0), x.path(0, 10)}, BAD, BAD);
        e.row("no way", new int[] {y.path(0, 4), y.path(4, 0), y.path(4, 4)}, NONE, NONE, 0);
        x.wall(4, true);
        e.row("a wall", new int[] {x.path(0, 4), x.path(0, 5), x.path(5, 9)}, 4, NONE, 4);
        x.law(2);
        e.row("one colour", new int[] {x.path(0, 1), x.path(0, 2)}, 1, NONE);
        e.refused("no way in the rich palace", () -> {
            OtherDoor z = Twins.rich();
            z.wall(5, true);
            return z;
        }, z -> z.path(0, 5), NONE);
    }

    private void pairs() {
        e.of(19, "Pairs of ROOMS (unlike ones, each way by itself) with such a WAY.");
        e.due("without doors", new OtherDoor().pairs(), 0);
        e.due("a door", Check.of("rooms 2;door 0 1;").pairs(), 2);
        e.due("a walled door", Check.of("rooms 2;door 0 1;walled 0;").pairs(), 0);
        e.due("all of ten rooms", Check.of(ROW).pairs(), 90);
        e.due("one colour", Check.of(ROW + "law 2;").pairs(), 18);
        e.due("one way alone", Check.of("rooms 4;law 2;door 0 1;door 1 2 red;door 2 3 red;door 2 0 red;").pairs(), 8);
    }

    private void life() {
        e.of(20, "ROOMS that are FOR LIFE by some DOOR (bits).");
        e.due("without doors", new OtherDoor().life(), 0);
        OtherDoor x = Check.of(ROW);
        e.due("the ends of a row", x.life(), 1 << 9 | 1);
        x.law(1);
        e.due("by law 1", x.life(), 1 << 9 | 1);
        x.law(2);
        e.due("all ten by one colour", x.life(), 1023);
        x.law(3);
        e.due("by law 3 none", x.life(), 0);
        x.law(0);
        x.wall(0, true);
        e.due("nobody comes in by a wall", x.life(), 1 << 9 | 2);
        e.due("by one of two doors", Check.of("law 2;rooms 3;door 0 1;door 1 2;door 2 1 red;").life(), 1);
    }

    private void trap() {
        e.of(21, "Whether a ROOM is FOR LIFE by a DOOR of it (1, 0).");
        OtherDoor x = Check.of("law 2;rooms 10;door 9 1;door 1 2;door 2 1 red;");
        e.row("by a door of two", new int[] {x.trap(9, 0), x.trap(1, 0), x.trap(2, 1), x.trap(2, 2), x.trap(1, 2)}, 1, 0, 0, 0, 0);
        x.wall(2, true);
        e.row("with a wall", new int[] {x.trap(1, 0), x.trap(2, 1), x.law(0), x.trap(1, 0), x.trap(2, 1)}, 1, 1, 2, 0, 1);
        e.of(21, "BAD: also a DOOR of other ROOMS; STATE: it is WALLED UP.");
        for (int room : new int[] {-1, 6, 10, MIN, MAX}) {
            e.refused("trap(" + room + ", 0) of 6 rooms", z -> z.trap(room, 0), BAD);
        }
        for (int d : new int[] {-1, 8, 13, 14, MIN, MAX}) {
            e.refused("trap(0, " + d + ") of 8 doors", z -> z.trap(0, d), BAD);
        }
        e.refused("a door of other rooms", z -> z.trap(0, 1), BAD);
        e.refused("a walled door of its first room", z -> z.trap(0, 4), STATE);
        e.refused("a walled door of its second room", z -> z.trap(2, 4), STATE);
        e.refused("a walled door of other rooms: BAD fits first", z -> z.trap(1, 4), BAD);
    }

    private void secret() {
        e.of(22, "ROOMS to which no NEW one from another ROOM can come (bits).");
        e.due("without doors", new OtherDoor().secret(), 15);
        e.due("ten rooms", Check.of("rooms 10;").secret(), 1023);
        OtherDoor x = Check.of(ROW);
        e.due("none", x.secret(), 0);
        x.wall(8, true);
        e.due("the last one behind a wall", x.secret(), 512);
        for (int law = 0; law < 4; law++) {
            x.law(law);
            e.due("by law " + law, x.secret(), 512);
        }
    }

    private void safe() {
        e.of(23, "Whether all is SAFE (1, 0).");
        e.due("without doors", new OtherDoor().safe(), 1);
        OtherDoor x = Check.of(RING);
        e.due("a ring, and a room without doors", x.safe(), 1);
        x.build(3, 4, 0);
        e.due("a dead end", x.safe(), 0);
        x.wall(4, true);
        e.due("walled up", x.safe(), 1);
        x.wall(0, true);
        e.due("a ring that is cut", x.safe(), 0);
        x.law(3);
        e.due("by law 3", x.safe(), 1);
        OtherDoor y = Check.of("rooms 2;law 1;door 0 1;door 0 1;");
        e.row("lost by the second step, not by the first", new int[] {y.safe(), y.life(), y.law(0), y.safe()}, 0, 0, 1, 1);
    }
}
