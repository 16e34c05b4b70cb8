/** Promises 24 to 27: rounds, tours, two who walk. */
public final class RoundsTest {
    private static final Check C = Check.begin();
    private static final String RING = "rooms 6; door 0 1; door 1 2; door 2 3; door 3 0; door 2 4; one 0; one 2;";

    private static void promise24() {
        OtherDoor x = Check.of(RING);
        C.dueAll("round", new int[] {x.round(0, 0), x.round(0, 1), x.round(0, 2), x.round(0, 15), x.round(0, 16), x.round(0, 32)},
            0, 0, 4, 4, -4, -4);
        C.dueAll("no such", new int[] {x.round(2, 0), x.round(-1, 0), x.round(0, 64), x.round(0, -1), x.round(0, 63),
            x.round(0, Integer.MIN_VALUE)}, -1, -1, -1, -1, -1, -1);
        C.due("five rooms", x.round(0, 31), -4);
        x.law(3);
        C.dueAll("by any door", new int[] {x.round(0, 2), x.round(0, 31), x.round(0, 14), x.round(0, 16)}, 2, 6, 4, 6);
        x.law(0);
        x.go(0, 0);
        C.dueAll("from where he is, by the door he came in by", new int[] {x.round(0, 1), x.round(0, 2), x.round(0, 13)}, 4, 0, 4);
        x.law(2);
        C.due("he is lost", x.round(0, 1), -4);
        C.due("he need not go", x.round(0, 2), 0);
        OtherDoor y = Check.of("rooms 2; law 1; door 0 1; door 0 1; door 0 1; one 0;");
        C.due("law 1, NEW", y.round(0, 2), 2);
        y.wall(2, true);
        y.go(0, 0);
        C.due("law 1, one door behind him", y.round(0, 1), -4);
        OtherDoor z = Check.of("rooms 3; law 1; door 0 1; door 1 0; door 1 2; door 2 0; door 2 1; one 0;");
        z.go(0, 0);
        C.due("law 1, the door ahead is none", z.round(0, 1), 3);
        z.stand(0, 1);
        z.go(0, 0);
        z.go(0, 1);
        C.dueAll("law 1, the door ahead bars him", new int[] {z.one(0, 3), z.round(0, 1)}, 20, 3);
        OtherDoor w = Check.of("rooms 3; law 1; door 0 1; door 0 1; door 0 2; door 2 0; one 1;");
        w.go(0, 0);
        w.go(0, 1);
        C.dueAll("law 1, lost by the door ahead", new int[] {w.round(0, 1), w.law(0), w.round(0, 1)}, -4, 1, 2);
    }

    private static void promise25() {
        OtherDoor x = Check.of("rooms 3; door 0 1; door 1 2; door 2 0; door 0 1;");
        C.dueAll("tour(0, ..)", new int[] {x.tour(0, 0), x.tour(0, 10), x.tour(0, 11), x.tour(0, 12), x.tour(0, 13), x.tour(0, 14),
            x.tour(0, 17)}, 6, 0, 1, 2, 3, -4, -4);
        C.dueAll("tour(2, ..)", new int[] {x.tour(2, 0), x.tour(2, 10)}, 0, -4);
        C.dueAll("no such", new int[] {x.tour(3, 0), x.tour(-1, 0), x.tour(0, 1), x.tour(0, 9), x.tour(0, 18), x.tour(0, -1)},
            -1, -1, -1, -1, -1, -1);
        x.wall(3, true);
        C.dueAll("three doors", new int[] {x.tour(0, 0), x.tour(0, 10), x.tour(0, 12), x.tour(0, 13), x.tour(2, 0)}, 2, 0, 2, -4, 2);
        x.wall(2, true);
        x.law(2);
        C.dueAll("one colour", new int[] {x.tour(0, 0), x.tour(0, 10)}, 0, -4);
        OtherDoor y = Check.of("rooms 2; law 2;" + "door 0 1; door 0 1 red;".repeat(4));
        C.dueAll("two colours in turn", new int[] {y.tour(0, 0), y.tour(0, 10), y.tour(0, 11), y.tour(0, 12), y.tour(0, 17)},
            2 * 24 * 24, 0, 1, 2, 7);
        y.law(0);
        C.due("eight doors", y.tour(1, 0), 40320);
        y.build(0, 1, 0);
        C.dueAll("nine doors", new int[] {y.tour(0, 0), y.tour(0, 10), y.tour(0, 1), y.tour(2, 0)}, -2, -2, -1, -1);
        y.wall(4, true);
        C.dueAll("eight of nine", new int[] {y.tour(0, 0), y.tour(0, 14), y.tour(0, 17)}, 40320, 5, 8);
        OtherDoor z = new OtherDoor();
        C.dueAll("no door", new int[] {z.tour(3, 0), z.tour(3, 10)}, 1, -4);
        z.build(0, 1, 0);
        C.due("a door elsewhere", z.tour(3, 0), 0);
        OtherDoor w = Check.of("rooms 5; door 0 3; door 0 1; door 1 2; door 2 0;");
        C.dueAll("the first door is a dead end", new int[] {w.tour(0, 0), w.tour(0, 10), w.tour(0, 13)}, 2, 1, 0);
    }

    private static void promise26() {
        OtherDoor x = Check.of(RING);
        // they part again by the doors they met through; only in the dead end both stay
        C.dueAll("talk", new int[] {x.talk(0, 1, 1), x.talk(0, 1, 2), x.talk(1, 0, 5)}, 1, 4, 7);
        C.dueAll("no such", new int[] {x.talk(0, 0, 1), x.talk(2, 0, 1), x.talk(0, 2, 1), x.talk(-1, 0, 1), x.talk(0, 1, 0),
            x.talk(0, 1, 6)}, -1, -1, -1, -1, -1, -1);
        x.law(1);
        C.dueAll("law 1", new int[] {x.talk(0, 1, 1), x.talk(0, 0, 1), x.talk(0, 1, 6)}, -2, -1, -1);
        x.law(0);
        x.stand(1, 0);
        C.dueAll("minute 0 is the first end", new int[] {x.talk(0, 1, 1), x.talk(0, 1, 3)}, 0, 2);
        x.stand(1, 1);
        x.wall(4, true);
        C.due("they must walk: never", x.talk(0, 1, 1), -4);
        x.stand(1, 5);
        C.due("one is shut in alone", x.talk(0, 1, 1), -4);
        x.stand(0, 5);
        C.dueAll("both are shut in", new int[] {x.talk(0, 1, 1), x.talk(0, 1, 5)}, 0, 4);
        OtherDoor y = Check.of("rooms 3; door 0 1; door 1 2; one 0; one 1;");
        C.dueAll("lost, both, in room 2", new int[] {y.talk(0, 1, 1), y.talk(0, 1, 4)}, 2, 5);
        y.law(3);
        C.due("by any door never", y.talk(0, 1, 1), -4);
        OtherDoor z = Check.of("rooms 3; law 2; door 0 1; door 1 2 red; one 0; one 2;");
        C.dueAll("colours", new int[] {z.talk(0, 1, 1), z.talk(0, 1, 2)}, 1, -4);
    }

    private static void promise27() {
        OtherDoor x = Check.of(RING);
        C.dueAll("cup", new int[] {x.cup(0, 1, 0), x.cup(0, 1, 1), x.cup(0, 1, 2), x.cup(0, 1, 4), x.cup(0, 1, 5)}, 0, 1, 2, 3, -4);
        C.dueAll("no such", new int[] {x.cup(0, 0, 1), x.cup(2, 0, 1), x.cup(0, 2, 1), x.cup(0, 1, 6), x.cup(0, 1, -1),
            x.cup(-1, 0, 0)}, -1, -1, -1, -1, -1, -1);
        x.law(1);
        C.dueAll("law 1", new int[] {x.cup(0, 1, 0), x.cup(0, 0, 1), x.cup(0, 1, 6)}, -2, -1, -1);
        // p came in from the right and may not go back there; q may
        OtherDoor y = Check.of("rooms 4; door 0 1; door 1 2; door 2 3; one 2; one 0;");
        y.go(0, 1);
        C.due("p alone can not", y.far(0, 3), -4);
        y.go(1, 0);
        C.dueAll("handed at minute 0", new int[] {y.cup(0, 1, 3), y.cup(0, 1, 0), y.cup(1, 0, 0), y.cup(1, 0, 1)}, 2, 1, 1, 0);
        y.stand(1, 0);
        C.due("they pass each other at the door", y.cup(0, 1, 3), -4);
        OtherDoor z = Check.of("rooms 5; door 0 1; door 1 2; door 2 3; door 4 0; one 2; one 4;");
        C.due("handed at the end of a minute", z.cup(0, 1, 3), 1);
        z.wall(2, true);
        C.due("a wall", z.cup(0, 1, 3), -4);
        OtherDoor w = Check.of("rooms 4; law 2; door 0 1 red; door 2 1; door 1 3 red; one 0; one 2;");
        C.dueAll("colours", new int[] {w.far(0, 3), w.cup(0, 1, 3), w.cup(1, 0, 3), w.cup(0, 1, 0)}, -4, 2, 2, 0);
    }

    public static void main(String[] args) {
        promise24();
        promise25();
        promise26();
        promise27();
        C.finish("RoundsTest");
    }
}
