/** Boundary cases of promises 24 to 27: rounds, tours, two who walk. */
final class EdgeRounds {
    private static final int BAD = OtherDoor.BAD, STATE = OtherDoor.STATE, NONE = OtherDoor.NONE;
    private static final int MIN = Integer.MIN_VALUE, MAX = Integer.MAX_VALUE;
    private static final String RING = "rooms 6;door 0 1;door 1 2;door 2 3;door 3 4;door 4 5;door 5 0;one 0;";
    private static final int[] NOBODY = {-1, 3, 5, MIN, MAX};
    private static final int[] NO_ROOM = {-1, 6, 10, MIN, MAX};

    private final Edges e;

    EdgeRounds(Edges edges) {
        e = edges;
    }

    void run() {
        round();
        tour();
        talk();
        cup();
    }

    private static OtherDoor richWithLaw(int law) {
        OtherDoor x = Twins.rich();
        x.law(law);
        return x;
    }

    private void round() {
        e.of(24, "A ROUND of a ONE by some ROOMS (bits, 5 at most; 0, too).");
        OtherDoor x = Check.of(RING);
        e.row("no room, his own, the next, five", new int[] {x.round(0, 0), x.round(0, 1), x.round(0, 2), x.round(0, 62), x.round(0, 31)}, 0, 0, 6, 6, 6);
        x.law(3);
        e.row("by law 3", new int[] {x.round(0, 2), x.round(0, 34), x.round(0, 8), x.round(0, 62)}, 2, 4, 6, 6);
        OtherDoor y = Check.of("rooms 10;law 3;door 0 9;" + "one 0;".repeat(5));
        e.row("the last room, the last one", new int[] {y.round(4, 1 << 9), y.round(4, 0x3e0), y.round(4, 1 << 9 | 1)}, 2, NONE, 2);
        OtherDoor last = Check.of("rooms 10;law 1;door 2 1;door 2 1;" + "door 8 9;".repeat(11) + "door 0 1;one 0;");
        e.row("by law 1, ahead the last of 14 doors", new int[] {last.round(0, 4), last.round(0, 7), last.round(0, 2)}, 4, 4, 4);
        e.of(24, "BAD; NONE: there is none.");
        for (int p : NOBODY) {
            e.refused("round(" + p + ", 0) of 3 people", z -> z.round(p, 0), BAD);
        }
        for (int some : new int[] {63, 64, 65, 1 << 9, 1 << 31 | 1, -1, MIN, MAX}) {
            e.refused("round(0, " + some + ") of 6 rooms", z -> z.round(0, some), BAD);
        }
        e.row("six of ten rooms, an eleventh one", new int[] {y.round(0, 0x3f0), y.round(0, 1 << 10), y.round(5, 0)}, BAD, BAD, BAD);
        e.refused("who is lost", z -> z.round(2, 1), NONE);
        e.due("who is lost need not go", Twins.rich().round(2, 32), 0);
        e.refused("not back again", () -> richWithLaw(2), z -> z.round(2, 16), NONE);
        OtherDoor w = Check.of("rooms 3;door 0 1;one 0;");
        e.row("a dead end, a room without doors", new int[] {w.round(0, 2), w.round(0, 4)}, NONE, NONE);
    }

    private void tour() {
        OtherDoor x = Check.of("rooms 2;" + "door 0 1;".repeat(8));
        e.of(25, "TOURS from a ROOM: how many (what 0);");
        e.row("eight doors", new int[] {x.tour(0, 0), x.tour(1, 0)}, 40320, 40320);
        OtherDoor y = Check.of("rooms 10;" + "door 8 9;".repeat(3));
        e.row("the last room", new int[] {y.tour(9, 0), y.tour(8, 0), y.tour(0, 0)}, 6, 6, 0);
        e.of(25, "10 and i (0 to 7): the DOOR of STEP i of the first one by DOORS.");
        e.row("eight doors", new int[] {x.tour(0, 10), x.tour(0, 11), x.tour(0, 16), x.tour(0, 17)}, 0, 1, 6, 7);
        OtherDoor last = Check.of("rooms 2;" + "door 0 1;".repeat(14) + "walled 0;walled 1;walled 2;walled 3;walled 4;walled 5;");
        e.row("the last eight of 14", new int[] {last.tour(0, 0), last.tour(0, 10), last.tour(0, 17)}, 40320, 6, 13);
        OtherDoor painted = Check.of("rooms 2;law 2;door 0 1;door 0 1;door 0 1 red;");
        e.row("by law 2 the colours take turns", new int[] {painted.tour(0, 0), painted.tour(0, 10), painted.tour(0, 11), painted.tour(0, 12), painted.law(0),
            painted.tour(0, 0), painted.tour(0, 11)}, 2, 0, 2, 1, 2, 6, 1);
        e.of(25, "BAD; STATE: more than 8 DOORS are not WALLED UP;");
        for (int room : NO_ROOM) {
            e.refused("tour(" + room + ", 0) of 6 rooms", z -> z.tour(room, 0), BAD);
        }
        for (int what : new int[] {-1, 1, 9, 18, MIN, MAX}) {
            e.refused("tour(0, " + what + ")", z -> z.tour(0, what), BAD);
            e.refused("tour(0, " + what + ") of 13 doors: BAD fits first", Twins::richAndFull, z -> z.tour(0, what), BAD);
        }
        e.refused("13 doors", Twins::richAndFull, z -> z.tour(0, 0), STATE);
        e.refused("13 doors, a step", Twins::richAndFull, z -> z.tour(0, 10), STATE);
        last.wall(0, false);
        e.row("nine", new int[] {last.tour(0, 0), last.tour(0, 10), last.tour(1, 17), last.tour(2, 0)}, STATE, STATE, STATE, BAD);
        e.of(25, "NONE (10 and i): not so many, there is none.");
        e.row("three doors", new int[] {y.tour(9, 12), y.tour(9, 13), y.tour(9, 17)}, 2, NONE, NONE);
        e.row("no tour", new int[] {y.tour(0, 0), y.tour(0, 10), y.tour(0, 17)}, 0, NONE, NONE);
        e.refused("no tour of seven doors", z -> z.tour(0, 10), NONE);
        OtherDoor w = new OtherDoor();
        e.row("no door", new int[] {w.tour(0, 0), w.tour(3, 0), w.tour(0, 10), w.tour(0, 17)}, 1, 1, NONE, NONE);
    }

    private void talk() {
        e.of(26, "A TALK of two for k MINUTES (1 to 5): the fewest MINUTES.");
        OtherDoor x = Check.of(RING + "one 0;one 2;one 3;one 5;");
        e.row("in one room", new int[] {x.talk(0, 1, 1), x.talk(0, 1, 2), x.talk(0, 1, 5), x.talk(1, 0, 5)}, 0, 1, 4, 4);
        e.row("apart", new int[] {x.talk(0, 2, 1), x.talk(2, 4, 1)}, 1, NONE);
        x.law(3);
        e.row("by law 3", new int[] {x.talk(0, 2, 1), x.talk(0, 2, 5), x.talk(2, 4, 5)}, 1, 5, NONE);
        e.of(26, "BAD (also alike); STATE: LAW 1; NONE: never.");
        for (int p : NOBODY) {
            e.refused("talk(" + p + ", 0, 1) of 3 people", z -> z.talk(p, 0, 1), BAD);
            e.refused("talk(0, " + p + ", 1) of 3 people", z -> z.talk(0, p, 1), BAD);
        }
        for (int k : new int[] {0, 6, -1, MIN, MAX}) {
            e.refused("talk(0, 1, " + k + ")", z -> z.talk(0, 1, k), BAD);
            e.refused("talk(0, 1, " + k + ") by law 1: BAD fits first", () -> richWithLaw(1), z -> z.talk(0, 1, k), BAD);
        }
        for (int p = 0; p < 3; p++) {
            int alike = p;
            e.refused("one " + p + " and himself", z -> z.talk(alike, alike, 1), BAD);
            e.refused("one " + p + " and himself by law 1", () -> richWithLaw(1), z -> z.talk(alike, alike, 1), BAD);
        }
        e.row("the sixth one", new int[] {x.talk(5, 0, 1), x.talk(0, 5, 1), x.talk(4, 0, 1)}, BAD, BAD, NONE);
        e.refused("law 1", () -> richWithLaw(1), z -> z.talk(0, 1, 1), STATE);
        e.due("law 1, in one room", Check.of("law 1;one 0;one 0;").talk(0, 1, 1), STATE);
        e.due("law 1, never", Check.of("law 1;one 0;one 1;").talk(0, 1, 1), STATE);
        e.refused("shut in apart", () -> {
            OtherDoor z = Twins.rich();
            z.wall(6, true);
            z.wall(7, true);
            return z;
        }, z -> z.talk(0, 2, 1), NONE);
        OtherDoor y = Check.of("rooms 2;law 3;door 0 1;one 0;one 1;");
        e.row("they pass each other for ever", new int[] {y.talk(0, 1, 1), y.talk(1, 0, 5)}, NONE, NONE);
    }

    private void cup() {
        e.of(27, "A CUP that ONE p has comes to a ROOM by p and q: the fewest MINUTES.");
        OtherDoor x = Check.of(RING + "one 0;one 2;one 2;one 5;");
        e.row("he is there, the next one, the furthest", new int[] {x.cup(0, 4, 0), x.cup(0, 4, 1), x.cup(0, 4, 3), x.cup(4, 0, 4)}, 0, 1, 3, 1);
        e.row("that the other one is there is not enough", new int[] {x.cup(0, 2, 2), x.cup(2, 0, 0)}, 2, 2);
        OtherDoor y = Check.of("rooms 10;door 0 9;one 0;one 9;");
        e.row("the last room", new int[] {y.cup(0, 1, 9), y.cup(1, 0, 9), y.cup(1, 0, 0)}, 1, 0, 1);
        e.of(27, "BAD (also alike); STATE: LAW 1; NONE: never.");
        for (int p : NOBODY) {
            e.refused("cup(" + p + ", 0, 0) of 3 people", z -> z.cup(p, 0, 0), BAD);
            e.refused("cup(0, " + p + ", 0) of 3 people", z -> z.cup(0, p, 0), BAD);
        }
        for (int room : NO_ROOM) {
            e.refused("cup(0, 1, " + room + ") of 6 rooms", z -> z.cup(0, 1, room), BAD);
            e.refused("cup(0, 1, " + room + ") by law 1: BAD fits first", () -> richWithLaw(1), z -> z.cup(0, 1, room), BAD);
        }
        for (int p = 0; p < 3; p++) {
            int alike = p;
            e.refused("one " + p + " and himself", z -> z.cup(alike, alike, 0), BAD);
            e.refused("one " + p + " and himself by law 1", () -> richWithLaw(1), z -> z.cup(alike, alike, 0), BAD);
        }
        e.row("the sixth one, the eleventh room", new int[] {x.cup(5, 0, 0), x.cup(0, 5, 0), y.cup(0, 1, 10)}, BAD, BAD, BAD);
        e.refused("law 1", () -> richWithLaw(1), z -> z.cup(0, 1, 0), STATE);
        e.due("law 1, he is there", Check.of("law 1;one 0;one 0;").cup(0, 1, 0), STATE);
        e.due("law 1, never", Check.of("law 1;one 0;one 0;").cup(0, 1, 1), STATE);
        e.refused("who is lost has it, and who comes for it is lost, too", z -> z.cup(2, 0, 0), NONE);
        e.row("no door there", new int[] {y.cup(0, 1, 8), y.cup(1, 0, 1)}, NONE, NONE);
        OtherDoor w = Check.of("rooms 3;door 0 1;one 0;one 2;");
        w.go(0, 0);
        e.row("he is lost, and alone", new int[] {w.cup(0, 1, 1), w.cup(0, 1, 0), w.cup(0, 1, 2)}, 0, NONE, NONE);
    }
}
