/** Promises 15 to 23: ways, rooms for life, rooms that can not be had. */
public final class WaysTest {
    private static final Check C = Check.begin();
    /** A ring of four rooms, a dead end behind room 2, a room by itself. */
    private static final String RING = "rooms 6; door 0 1; door 1 2; door 2 3; door 3 0; door 2 4; one 0;";

    private static int[] way(OtherDoor x, int room) {
        return new int[] {x.far(0, room), x.way(0, room, 0), x.way(0, room, 1), x.way(0, room, 2), x.way(0, room, 3)};
    }

    private static void promise15() {
        OtherDoor x = Check.of(RING);
        C.dueAll("far", new int[] {x.far(0, 0), x.far(0, 1), x.far(0, 2), x.far(0, 3), x.far(0, 4), x.far(0, 5)},
            0, 1, 2, 1, 3, -4);
        x.go(0, 0);
        C.dueAll("out by another door", new int[] {x.far(0, 0), x.far(0, 1), x.far(0, 2), x.far(0, 3)}, 3, 0, 1, 2);
        x.law(3);
        C.due("back by the same", x.far(0, 0), 1);
        C.dueAll("no such", new int[] {x.far(1, 0), x.far(-1, 0), x.far(0, 6), x.far(0, -1)}, -1, -1, -1, -1);
        OtherDoor y = Check.of("rooms 4; law 1; door 0 1; door 1 0; door 0 2; door 2 3; one 1;");
        y.go(0, 0);
        y.go(0, 2);
        y.stand(0, 0);
        y.go(0, 0);
        C.due("by doors and not by rooms", y.far(0, 3), 3);
        OtherDoor z = Check.of("rooms 3; door 2 0; door 1 0; door 0 1; one 2; law 1;");
        z.go(0, 0);
        C.due("law 1: he turns round by two other doors", z.far(0, 2), 3);
        OtherDoor u = Check.of("rooms 3; law 1; door 0 1; door 0 1; door 0 2; one 1;");
        u.go(0, 0);
        u.go(0, 1);
        C.dueAll("law 1: lost", new int[] {u.far(0, 0), u.can(0), u.law(0), u.far(0, 0), u.can(0)}, -4, 2, 1, 1, 7);
        OtherDoor w = Check.of("rooms 3; door 1 2; door 0 1; door 1 0; one 2; law 1;");
        w.go(0, 0);
        w.go(0, 1);
        w.go(0, 2);
        C.dueAll("the one ahead bars him, too", new int[] {w.one(0, 3), w.far(0, 2), w.can(0)}, 1, 1, 6);
        OtherDoor v = Check.of("rooms 4; law 1; door 1 0; door 0 1; door 0 1; door 1 3; one 3;");
        v.go(0, 3);
        v.go(0, 0);
        C.dueAll("and is kept from step to step", new int[] {v.far(0, 3), v.way(0, 3, 0), v.way(0, 3, 1)}, 2, 1, 3);
        v.wall(3, true);
        v.wall(2, true);
        C.dueAll("two doors: one step more", new int[] {v.can(0), v.far(0, 1)}, 3, 1);
    }

    private static void promise16() {
        OtherDoor x = Check.of(RING);
        C.dueAll("of two ways the first by doors", way(x, 2), 2, 0, 1, -4, -4);
        C.dueAll("to his own room", way(x, 0), 0, -4, -4, -4, -4);
        C.dueAll("to no room", way(x, 5), -4, -4, -4, -4, -4);
        x.wall(0, true);
        C.dueAll("round a wall", way(x, 1), 3, 3, 2, 1, -4);
        C.dueAll("no such", new int[] {x.way(1, 0, 0), x.way(0, 6, 0), x.way(0, 0, -1), x.way(0, 5, -1)}, -1, -1, -1, -1);
        C.due("far behind its end", x.way(0, 1, Integer.MAX_VALUE), -4);
        OtherDoor y = Check.of("rooms 5; door 1 4; door 0 2; door 0 3; door 2 4; door 3 4; one 0;");
        C.dueAll("first by the first door, not by the last", way(y, 4), 2, 1, 3, -4, -4);
        OtherDoor z = Check.of("rooms 4; law 2; door 0 1 red; door 1 2 red; door 1 3; door 3 1 blue; one 0;");
        C.dueAll("through a room twice", way(z, 2), 4, 0, 2, 3, 1);
    }

    private static void promise17() {
        OtherDoor x = Check.of(RING + "one 5;");
        C.dueAll("can", new int[] {x.can(0), x.can(1), x.can(2), x.can(-1)}, 31, 32, -1, -1);
        x.wall(1, true);
        x.go(0, 0);
        C.due("in a dead end", x.can(0), 2);
        x.law(3);
        C.due("by any door", x.can(0), 31);
    }

    private static void promise18() {
        OtherDoor x = Check.of(RING);
        x.go(0, 0);
        C.dueAll("path", new int[] {x.path(1, 0), x.path(0, 0), x.path(4, 0), x.path(0, 5), x.path(5, 5)}, 1, 0, 3, -4, 0);
        C.dueAll("no such", new int[] {x.path(6, 0), x.path(0, 6), x.path(-1, 0), x.path(0, -1)}, -1, -1, -1, -1);
        x.law(2);
        C.dueAll("colours", new int[] {x.path(0, 1), x.path(0, 2)}, 1, -4);
    }

    private static void promise19() {
        OtherDoor x = Check.of(RING);
        C.due("pairs()", x.pairs(), 20);
        x.law(2);
        C.due("pairs() by one step alone", x.pairs(), 10);
        OtherDoor y = Check.of("rooms 3; law 2; door 0 1 red; door 1 2 green;");
        C.due("pairs() of two colours", y.pairs(), 6);
        y.wall(1, true);
        C.due("pairs() with a wall", y.pairs(), 2);
        C.due("pairs() of a detour", Check.of("rooms 4; law 2; door 0 1 red; door 1 2 red; door 1 3; door 3 1 blue;").pairs(), 12);
        C.due("pairs() round a red room", Check.of("rooms 4; law 2; door 0 1; door 1 2 red; door 2 3 red; door 2 0 red;").pairs(), 8);
    }

    private static void promise20() {
        OtherDoor x = Check.of(RING);
        C.due("life()", x.life(), 16);
        x.wall(0, true);
        C.due("life() with a wall", x.life(), 16 + 2 + 1);
        x.law(3);
        C.due("life() by law 3", x.life(), 0);
        x.law(2);
        C.due("life() of one colour", x.life(), 31);
        OtherDoor y = Check.of("rooms 2; door 0 1; walled 0;");
        C.due("nobody comes in by a wall", y.life(), 0);
        OtherDoor z = Check.of("rooms 2; law 1; door 0 1; door 0 1;");
        C.due("NEW ahead of the door", z.life(), 0);
    }

    private static void promise21() {
        OtherDoor x = Check.of(RING);
        C.dueAll("trap", new int[] {x.trap(4, 4), x.trap(2, 4), x.trap(0, 0)}, 1, 0, 0);
        C.dueAll("no such", new int[] {x.trap(6, 0), x.trap(-1, 0), x.trap(0, 5), x.trap(0, -1), x.trap(0, 1)}, -1, -1, -1, -1, -1);
        x.wall(0, true);
        C.dueAll("walled", new int[] {x.trap(0, 0), x.trap(2, 0), x.trap(1, 1)}, -2, -1, 1);
        OtherDoor y = Check.of("rooms 3; law 2; door 0 1 red; door 1 2 red; door 1 2 blue;");
        C.dueAll("colours", new int[] {y.trap(1, 0), y.trap(0, 0), y.trap(2, 1)}, 0, 1, 0);
    }

    private static void promise22() {
        OtherDoor x = Check.of(RING);
        C.due("secret()", x.secret(), 32);
        x.wall(4, true);
        C.due("secret() with a wall", x.secret(), 48);
        x.law(2);
        C.due("secret() by law 2", x.secret(), 48);
        C.due("secret() without doors", new OtherDoor().secret(), 15);
    }

    private static void promise23() {
        OtherDoor x = Check.of(RING);
        C.due("safe()", x.safe(), 0);
        x.wall(4, true);
        C.due("safe() without the dead end", x.safe(), 1);
        x.law(1);
        C.due("safe() by law 1 in a ring", x.safe(), 1);
        OtherDoor y = Check.of("rooms 2; law 1; door 0 1; door 0 1;");
        C.due("lost by the second step", y.safe(), 0);
        y.build(0, 1, 0);
        C.due("three doors", y.safe(), 1);
        y.law(2);
        C.due("of one colour", y.safe(), 0);
        y.build(0, 1, 1);
        C.due("of two colours", y.safe(), 1);
        OtherDoor z = Check.of("rooms 2; law 3; door 0 1;");
        C.due("by any door", z.safe(), 1);
        z.law(0);
        C.due("by one door", z.safe(), 0);
        C.due("without doors", new OtherDoor().safe(), 1);
    }

    private static void tenRooms() {
        OtherDoor x = Check.of("rooms 10; door 8 9; door 0 1; door 1 0;");
        C.dueAll("ten rooms", new int[] {x.life(), x.secret(), x.safe(), x.pairs(), x.path(9, 8)}, 768, 252, 0, 4, 1);
        x.wall(0, true);
        C.dueAll("a ring of two", new int[] {x.life(), x.secret(), x.safe(), x.pairs(), x.path(9, 8)}, 0, 1020, 1, 2, -4);
    }

    /** So many walks that no search may look at each of them. */
    private static void manyDoors() {
        OtherDoor x = Check.of("rooms 6;" + "door 0 1;door 1 2;door 2 3;door 3 4;".repeat(3) + "door 4 5;one 0;");
        for (int law = 0; law < 4; law++) {
            x.law(law);
            boolean barred = law == 2;
            C.dueAll("law " + law, new int[] {x.far(0, 5), x.can(0), x.path(5, 0), x.way(0, 5, 3), x.way(0, 5, 4)},
                barred ? -4 : 5, barred ? 3 : 63, barred ? -4 : 5, barred ? -4 : 3, barred ? -4 : 12);
        }
    }

    public static void main(String[] args) {
        promise15();
        promise16();
        promise17();
        promise18();
        promise19();
        promise20();
        promise21();
        promise22();
        promise23();
        tenRooms();
        manyDoors();
        C.finish("WaysTest");
    }
}
