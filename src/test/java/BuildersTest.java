/** Promises 28 to 30: a door more, a door walled up, the fewest by which nobody is lost. */
public final class BuildersTest {
    private static final Check C = Check.begin();

    /** Trying doors must leave all as it was. */
    private static int[] seen(OtherDoor x) {
        return new int[] {x.rule(2), x.count(0), x.pairs(), x.doors(0), x.doors(1), x.safe(), x.life()};
    }

    private static void promise28() {
        OtherDoor x = Check.of("rooms 6; door 0 1; door 2 3; door 3 4;");
        int[] was = seen(x);
        C.dueAll("more", new int[] {x.more(0), x.more(1)}, 2, 20);
        C.dueAll("all is as it was", seen(x), was);
        C.dueAll("no such", new int[] {x.more(-1), x.more(2)}, -1, -1);
        OtherDoor y = Check.of("rooms 3; door 0 1; door 1 2;");
        C.dueAll("none makes more", new int[] {y.more(0), y.more(1)}, -4, -4);
        y.law(2);
        C.dueAll("of one colour", new int[] {y.more(0), y.more(1), y.pairs()}, 2, 6, 4);
        y.wall(0, true);
        y.law(0);
        C.dueAll("round a wall", new int[] {y.more(0), y.more(1)}, 1, 6);
        OtherDoor z = Check.of("rooms 3;" + "door 0 1;".repeat(14));
        C.dueAll("fourteen doors", new int[] {z.more(0), z.more(1), z.more(2)}, -2, -2, -1);
        OtherDoor again = Check.of("rooms 4; door 0 1;");
        C.dueAll("asked again", new int[] {again.more(0), again.more(1), again.build(0, 2, 0), again.build(0, 3, 0), again.more(0)},
            2, 6, 1, 2, -4);
        OtherDoor tried = Check.of("rooms 3; law 2; door 0 1;");
        C.dueAll("a door that was tried leaves no colour", new int[] {tried.more(0), tried.build(1, 2, 1), tried.path(0, 2)}, 2, 1, 2);
        OtherDoor middle = Check.of("rooms 3; law 2; door 1 0 red; door 0 2 red;");
        C.dueAll("no door from a room to itself", new int[] {middle.more(0), middle.more(1)}, 1, 6);
        C.dueAll("ten rooms", new int[] {Check.of("rooms 10; door 8 9;").more(0), Check.of("rooms 10; door 8 9;").more(1)}, 8, 6);
    }

    private static void promise29() {
        OtherDoor x = Check.of("rooms 5; door 0 1; door 1 2; door 2 3; door 3 0; door 2 4;");
        int[] was = seen(x);
        C.dueAll("worst", new int[] {x.worst(0), x.worst(1)}, 4, 12);
        C.dueAll("all is as it was", seen(x), was);
        x.wall(4, true);
        C.dueAll("all alike: the least", new int[] {x.worst(0), x.worst(1)}, 0, 12);
        x.wall(0, true);
        C.dueAll("a row of four", new int[] {x.worst(0), x.worst(1)}, 2, 4);
        C.due("a wall stays", x.door(0, 3), 1);
        C.dueAll("no such", new int[] {x.worst(-1), x.worst(2)}, -1, -1);
        OtherDoor y = Check.of("rooms 2; door 0 1; walled 0;");
        C.dueAll("all are walled", new int[] {y.worst(0), y.worst(1), y.worst(2)}, -4, -4, -1);
        y.wall(0, false);
        C.dueAll("the only one", new int[] {y.worst(0), y.worst(1)}, 0, 0);
        OtherDoor z = Check.of("rooms 3; law 2; door 0 1 red; door 0 1; door 1 2 red;");
        C.dueAll("colours", new int[] {z.worst(0), z.worst(1)}, 2, 2);
        z.wall(2, true);
        z.build(2, 1, 1);
        z.build(1, 2, 2);
        C.dueAll("colours with two doors between two rooms", new int[] {z.worst(0), z.worst(1)}, 0, 6);
    }

    private static int[] mends(OtherDoor x) {
        return new int[] {x.mend(0), x.mend(1), x.mend(2)};
    }

    private static void promise30() {
        C.dueAll("safe", mends(new OtherDoor()), 0, -4, -4);
        OtherDoor x = Check.of("rooms 4; door 0 1; door 1 2;");
        int[] was = seen(x);
        C.dueAll("one door", mends(x), 1, 2, -4);
        C.dueAll("all is as it was", seen(x), was);
        C.dueAll("no such", new int[] {x.mend(-1), x.mend(3)}, -1, -1);
        OtherDoor zero = Check.of("rooms 4; door 0 1; door 1 2; door 2 3; door 3 1;");
        C.dueAll("a room alone", mends(zero), 1, 1, -4);
        OtherDoor y = Check.of("rooms 8; door 0 1; door 2 3; door 4 5; door 5 6; door 6 4;");
        C.dueAll("two doors", mends(y), 2, 1, 23);
        OtherDoor twice = Check.of("rooms 2; law 1; door 0 1;");
        C.dueAll("the same pair twice", mends(twice), 2, 1, 1);
        OtherDoor z = Check.of("rooms 6; door 0 1; door 2 3; door 4 5;");
        C.dueAll("three would be needed", mends(z), -4, -4, -4);
        OtherDoor full = Check.of("rooms 4;" + "door 0 1;".repeat(13) + "door 1 2;");
        C.dueAll("no room for one", mends(full), -4, -4, -4);
        C.dueAll("its doors stay", new int[] {full.rule(2), full.doors(2), full.count(0)}, 14, 1 << 13, 14);
        full.law(3);
        C.dueAll("safe and full", mends(full), 0, -4, -4);
        OtherDoor one = Check.of("rooms 6;" + "door 0 1;".repeat(11) + "door 2 3; door 4 5;");
        C.dueAll("room for one, two would be needed", mends(one), -4, -4, -4);
        OtherDoor last = Check.of("rooms 4;" + "door 0 1;".repeat(11) + "door 1 2; door 2 3;");
        C.dueAll("room for one", mends(last), 1, 3, -4);
        OtherDoor room = Check.of("rooms 6;" + "door 0 1;".repeat(10) + "door 2 3; door 4 5;");
        C.dueAll("room for two", mends(room), 2, 23, 45);
        OtherDoor red = Check.of("rooms 3; law 2; door 0 1 red; door 1 2 red; door 2 0 red;");
        C.dueAll("colours", mends(red), 2, 1, 2);
        red.law(0);
        C.dueAll("a ring", mends(red), 0, -4, -4);
        OtherDoor plain = Check.of("rooms 2; law 2; door 0 1;");
        C.dueAll("colour 0 does not help", mends(plain), -4, -4, -4);
    }

    public static void main(String[] args) {
        promise28();
        promise29();
        promise30();
        C.finish("BuildersTest");
    }
}
