/** Boundary cases of promises 6 to 14: what there is, and what is changed. */
final class EdgeState {
    private static final int BAD = OtherDoor.BAD, FULL = OtherDoor.FULL, NONE = OtherDoor.NONE;
    private static final int MIN = Integer.MIN_VALUE, MAX = Integer.MAX_VALUE;
    /** All that there can be; the last door is walled up. */
    private static final String MOST = "rooms 10;law 3;" + "door 0 1;".repeat(12) + "door 9 8 blue;door 0 9 red;" + "one 9;".repeat(5)
        + "walled 13;";
    private static final String TRIANGLE = "rooms 3;door 0 1;door 1 2 red;door 2 0 blue;one 0;one 1;";

    private final Edges e;

    EdgeState(Edges edges) {
        e = edges;
    }

    void run() {
        rule();
        door();
        one();
        doors();
        law();
        build();
        wall();
        stand();
        go();
    }

    private void rule() {
        e.of(6, "0 ROOMS, 1 LAW, 2 DOORS, 3 PEOPLE.");
        OtherDoor x = Check.of(MOST);
        e.row("the most", new int[] {x.rule(0), x.rule(1), x.rule(2), x.rule(3)}, 10, 3, 14, 5);
        OtherDoor y = Check.of("rooms 2;");
        e.row("the least", new int[] {y.rule(0), y.rule(1), y.rule(2), y.rule(3)}, 2, 0, 0, 0);
        e.of(6, "BAD.");
        for (int what : new int[] {-1, 4, MIN, MAX}) {
            e.refused("rule(" + what + ")", z -> z.rule(what), BAD);
        }
    }

    private void door() {
        e.of(7, "Of a DOOR: 0 its first ROOM, 1 the second one, 2 COLOUR, 3 whether it is WALLED UP.");
        OtherDoor x = Check.of(MOST);
        e.row("the first door", new int[] {x.door(0, 0), x.door(0, 1), x.door(0, 2), x.door(0, 3)}, 0, 1, 0, 0);
        e.row("as told, not by size", new int[] {x.door(12, 0), x.door(12, 1), x.door(12, 2), x.door(12, 3)}, 9, 8, 3, 0);
        e.row("the last door", new int[] {x.door(13, 0), x.door(13, 1), x.door(13, 2), x.door(13, 3)}, 0, 9, 1, 1);
        e.of(7, "BAD.");
        for (int d : new int[] {-1, 8, 13, 14, MIN, MAX}) {
            e.refused("door(" + d + ", 0) of 8 doors", z -> z.door(d, 0), BAD);
        }
        for (int what : new int[] {-1, 4, MIN, MAX}) {
            e.refused("door(7, " + what + ")", z -> z.door(7, what), BAD);
        }
        e.refused("door(14, 0) of 14 doors", Twins::richAndFull, z -> z.door(14, 0), BAD);
        e.refused("door(0, 0) of none", OtherDoor::new, z -> z.door(0, 0), BAD);
    }

    private void one() {
        e.of(8, "Of a ONE: 0 his ROOM, 1 the DOOR he came in by (NONE), 2 the one ahead of that (NONE), 3 DOORS he may take (bits).");
        OtherDoor x = Check.of(TRIANGLE);
        e.row("NEW", new int[] {x.one(0, 0), x.one(0, 1), x.one(0, 2), x.one(0, 3)}, 0, NONE, NONE, 5);
        x.go(0, 0);
        e.row("door 0 is a door", new int[] {x.one(0, 0), x.one(0, 1), x.one(0, 2), x.one(0, 3)}, 1, 0, NONE, 2);
        x.go(0, 1);
        e.row("two doors behind him", new int[] {x.one(0, 0), x.one(0, 1), x.one(0, 2), x.one(0, 3)}, 2, 1, 0, 4);
        x.wall(2, true);
        e.row("lost", new int[] {x.one(0, 0), x.one(0, 1), x.one(0, 2), x.one(0, 3)}, 2, 1, 0, 0);
        OtherDoor y = Check.of("rooms 10;" + "door 9 0;".repeat(14) + "one 9;".repeat(5));
        e.row("all doors", new int[] {y.one(4, 3), y.go(4, 13), y.one(4, 1), y.one(4, 3), y.one(3, 3)}, 0x3fff, 0, 13, 0x1fff, 0x3fff);
        e.of(8, "BAD.");
        for (int p : new int[] {-1, 3, 4, 5, MIN, MAX}) {
            e.refused("one(" + p + ", 0) of 3 people", z -> z.one(p, 0), BAD);
        }
        for (int what : new int[] {-1, 4, MIN, MAX}) {
            e.refused("one(2, " + what + ")", z -> z.one(2, what), BAD);
        }
        e.due("one(5, 0) of 5 people", Check.of(MOST).one(5, 0), BAD);
        e.refused("one(0, 0) of nobody", OtherDoor::new, z -> z.one(0, 0), BAD);
    }

    private void doors() {
        e.of(9, "DOORS of a ROOM that are not WALLED UP (bits).");
        OtherDoor x = Check.of(MOST);
        e.row("doors", new int[] {x.doors(0), x.doors(1), x.doors(2), x.doors(8), x.doors(9)}, 0xfff, 0xfff, 0, 0x1000, 0x1000);
        x.wall(13, false);
        e.row("with the last one", new int[] {x.doors(0), x.doors(9)}, 0x2fff, 0x3000);
        e.of(9, "BAD.");
        for (int room : new int[] {-1, 6, 9, 10, MIN, MAX}) {
            e.refused("doors(" + room + ") of 6 rooms", z -> z.doors(room), BAD);
        }
        e.row("of ten rooms, of two", new int[] {x.doors(10), Check.of("rooms 2;").doors(1), Check.of("rooms 2;").doors(2)}, BAD, 0, BAD);
    }

    private void law() {
        e.of(10, "LAW becomes v: what it was.");
        OtherDoor x = new OtherDoor();
        e.row("from 0 to 3 and back", new int[] {x.law(0), x.law(3), x.law(3), x.law(1), x.law(2), x.law(0), x.rule(1)}, 0, 0, 3, 3, 1, 2, 0);
        e.of(10, "BAD.");
        for (int v : new int[] {-1, 4, MIN, MAX}) {
            e.refused("law(" + v + ")", z -> z.law(v), BAD);
        }
    }

    private void build() {
        e.of(11, "A DOOR more: its number.");
        OtherDoor x = Check.of("rooms 10;");
        for (int d = 0; d < 14; d++) {
            e.due("build " + d, x.build(9, d % 9, d % 4), d);
        }
        e.row("the last one", new int[] {x.door(13, 0), x.door(13, 1), x.door(13, 2), x.door(13, 3), x.doors(4)}, 9, 4, 1, 0, 1 << 4 | 1 << 13);
        e.of(11, "BAD (also alike);");
        for (int room : new int[] {-1, 6, 9, 10, MIN, MAX}) {
            e.refused("build(" + room + ", 0, 0) of 6 rooms", z -> z.build(room, 0, 0), BAD);
            e.refused("build(0, " + room + ", 0) of 6 rooms", z -> z.build(0, room, 0), BAD);
        }
        for (int room = 0; room < 6; room++) {
            int alike = room;
            e.refused("build() of " + room + " and itself", z -> z.build(alike, alike, 0), BAD);
        }
        for (int colour : new int[] {-1, 4, MIN, MAX}) {
            e.refused("build(0, 5, " + colour + ")", z -> z.build(0, 5, colour), BAD);
        }
        e.due("of ten rooms", Check.of("rooms 10;").build(10, 0, 0), BAD);
        e.of(11, "FULL.");
        e.refused("the 15th", Twins::richAndFull, z -> z.build(0, 5, 3), FULL);
        e.refused("BAD fits first", Twins::richAndFull, z -> z.build(5, 5, 3), BAD);
        OtherDoor y = Check.of("door 0 1;".repeat(14) + "walled 3;");
        e.row("a walled door is one, too", new int[] {y.build(0, 1, 0), y.rule(2), y.count(0)}, FULL, 14, 13);
    }

    private void wall() {
        e.of(12, "A DOOR is WALLED UP, or not: whether it was.");
        OtherDoor x = Check.of(MOST);
        e.row("the last door", new int[] {x.wall(13, true), x.wall(13, false), x.wall(13, false), x.wall(13, true), x.door(13, 3)}, 1, 1, 0, 0, 1);
        e.row("the first door", new int[] {x.wall(0, false), x.wall(0, true), x.wall(0, true), x.doors(0), x.doors(1)}, 0, 0, 1, 0xffe, 0xffe);
        e.of(12, "BAD.");
        for (int d : new int[] {-1, 8, 13, 14, 32, MIN, MAX}) {
            e.refused("wall(" + d + ", true) of 8 doors", z -> z.wall(d, true), BAD);
            e.refused("wall(" + d + ", false) of 8 doors", z -> z.wall(d, false), BAD);
        }
        e.refused("wall(14, true) of 14 doors", Twins::richAndFull, z -> z.wall(14, true), BAD);
        e.refused("wall(0, true) of none", OtherDoor::new, z -> z.wall(0, true), BAD);
    }

    private void stand() {
        e.of(13, "A ONE is NEW in a ROOM: the ROOM where he was.");
        OtherDoor x = Check.of(TRIANGLE);
        x.go(0, 0);
        x.go(0, 1);
        e.row("in his own room", new int[] {x.stand(0, 2), x.one(0, 0), x.one(0, 1), x.one(0, 2), x.one(0, 3)}, 2, 2, NONE, NONE, 6);
        OtherDoor y = Check.of(MOST);
        e.row("the last one, from the last room to the first", new int[] {y.stand(4, 0), y.one(4, 0), y.stand(4, 9), y.one(3, 0)}, 9, 0, 0, 9);
        e.of(13, "BAD.");
        for (int p : new int[] {-1, 3, 5, MIN, MAX}) {
            e.refused("stand(" + p + ", 0) of 3 people", z -> z.stand(p, 0), BAD);
        }
        for (int room : new int[] {-1, 6, 10, MIN, MAX}) {
            e.refused("stand(2, " + room + ") of 6 rooms", z -> z.stand(2, room), BAD);
        }
        e.row("of ten rooms, of five people", new int[] {y.stand(0, 10), y.stand(5, 0)}, BAD, BAD);
        e.refused("stand(0, 0) of nobody", OtherDoor::new, z -> z.stand(0, 0), BAD);
    }

    private void go() {
        e.of(14, "A STEP of a ONE: the ROOM where he is then.");
        OtherDoor x = Check.of(TRIANGLE);
        e.row("round", new int[] {x.go(0, 0), x.go(0, 1), x.go(0, 2), x.one(0, 0), x.one(0, 1), x.one(0, 2)}, 1, 2, 0, 0, 2, 1);
        OtherDoor y = Check.of("rooms 10;" + "door 0 1;".repeat(13) + "door 9 8;one 8;");
        e.row("the last door, from its second room", new int[] {y.go(0, 13), y.one(0, 1)}, 9, 13);
        e.of(14, "BAD; NONE: he may not.");
        for (int p : new int[] {-1, 3, 5, MIN, MAX}) {
            e.refused("go(" + p + ", 0) of 3 people", z -> z.go(p, 0), BAD);
        }
        for (int d : new int[] {-1, 8, 13, 14, 32, 34, MIN, MAX}) {
            e.refused("go(0, " + d + ") of 8 doors", z -> z.go(0, d), BAD);
        }
        e.refused("a door of other rooms", z -> z.go(0, 0), NONE);
        e.refused("the door he came in by", z -> z.go(0, 1), NONE);
        e.refused("a walled door", z -> z.go(0, 4), NONE);
        e.refused("by law 1 the one ahead", () -> behindTwo(1), z -> z.go(0, 0), NONE);
        e.refused("by law 2 its colour", () -> behindTwo(2), z -> z.go(0, 0), NONE);
        e.due("by law 0 he may", behindTwo(0).go(0, 0), 1);
        e.due("by law 3 he may", behindTwo(3).go(0, 1), 1);
        e.refused("a walled door by law 3, NEW", () -> {
            OtherDoor z = Twins.rich();
            z.law(3);
            z.stand(0, 0);
            return z;
        }, z -> z.go(0, 4), NONE);
    }

    /** One who has gone to and fro between two rooms by doors 0 and 1, both of colour 0. */
    private static OtherDoor behindTwo(int law) {
        OtherDoor x = Check.of("rooms 2;door 0 1;door 0 1;door 0 1 red;one 0;");
        x.go(0, 0);
        x.go(0, 1);
        x.law(law);
        x.keep(1);
        return x;
    }
}
