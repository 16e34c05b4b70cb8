/** Promises 31 to 34: walks told and judged, doors ajar. */
public final class WalksTest {
    private static final Check C = Check.begin();
    private static final String TRIANGLE = "rooms 4; door 0 1; door 1 2; door 2 0; door 2 3;";

    private static void tellAll(OtherDoor x, int... doors) {
        x.forget();
        for (int d : doors) {
            x.tell(d);
        }
    }

    private static void promise31() {
        OtherDoor x = Check.of(TRIANGLE);
        C.dueAll("no such", new int[] {x.tell(4), x.tell(-1), x.count(2)}, -1, -1, 0);
        for (int i = 1; i <= 12; i++) {
            C.due("tell " + i, x.tell(i % 4), i);
        }
        C.dueAll("the 13th", new int[] {x.tell(0), x.tell(4), x.count(2)}, -3, -1, 12);
    }

    private static void promise32() {
        OtherDoor x = Check.of(TRIANGLE);
        tellAll(x, 0, 1, 2);
        C.dueAll("forget", new int[] {x.forget(), x.forget(), x.count(2), x.tell(3)}, 3, 0, 0, 1);
    }

    private static void promise33() {
        OtherDoor x = Check.of(TRIANGLE);
        C.dueAll("no walk", new int[] {x.judge(0), x.judge(4), x.judge(-1)}, -4, -1, -1);
        tellAll(x, 2, 1, 0, 2, 3);
        C.dueAll("judge", new int[] {x.judge(0), x.judge(1), x.judge(2), x.judge(3)}, -4, 0, 1, 0);
        x.tell(3);
        C.due("the same door again: the place in the walk, not the door", x.judge(0), 5);
        x.law(3);
        C.due("by any door", x.judge(0), -4);
        x.law(2);
        C.due("of one colour", x.judge(0), 1);
        x.law(0);
        x.wall(1, true);
        C.due("a wall", x.judge(0), 1);
        OtherDoor y = Check.of("rooms 2; law 1; door 0 1; door 0 1; door 0 1;");
        tellAll(y, 0, 1, 2, 0, 1, 0);
        C.due("law 1", y.judge(1), 5);
    }

    private static void promise34() {
        OtherDoor x = Check.of(TRIANGLE);
        C.dueAll("no step", new int[] {x.ajar(1, 0, 0, 0), x.ajar(1, 0, 0, 1), x.ajar(1, 0, 0, 10), x.ajar(1, 0, 1, 0),
            x.ajar(1, 0, 1, 1)}, 1, 2, -4, 0, 0);
        C.dueAll("no door", new int[] {x.ajar(0, 1, 0, 0), x.ajar(0, 1, 0, 1), x.ajar(0, 1, 0, 10)}, 0, 0, -4);
        C.dueAll("round the triangle", new int[] {x.ajar(0, 3, 7, 0), x.ajar(0, 3, 7, 1), x.ajar(0, 3, 7, 10), x.ajar(0, 3, 7, 11),
            x.ajar(0, 3, 7, 12), x.ajar(0, 3, 7, 13), x.ajar(0, 3, 7, 15)}, 2, 1, 0, 1, 2, -4, -4);
        C.dueAll("five steps by three doors", new int[] {x.ajar(0, 5, 7, 0), x.ajar(0, 5, 7, 1), x.ajar(0, 5, 7, 14)}, 2, 6, 1);
        C.dueAll("just these, all of them", new int[] {x.ajar(0, 2, 7, 0), x.ajar(0, 2, 15, 0), x.ajar(0, 3, 11, 0),
            x.ajar(0, 4, 15, 0), x.ajar(0, 4, 15, 1)}, 0, 0, 1, 0, 0);
        C.dueAll("no such", new int[] {x.ajar(4, 0, 0, 0), x.ajar(-1, 0, 0, 0), x.ajar(0, 7, 0, 0), x.ajar(0, -1, 0, 0),
            x.ajar(0, 0, 16, 0), x.ajar(0, 0, -1, 0), x.ajar(0, 0, 0, 2), x.ajar(0, 0, 0, 9), x.ajar(0, 0, 0, 16), x.ajar(0, 0, 0, -1)},
            -1, -1, -1, -1, -1, -1, -1, -1, -1, -1);
        x.law(3);
        C.dueAll("to and fro", new int[] {x.ajar(0, 6, 1, 0), x.ajar(0, 6, 1, 1), x.ajar(0, 5, 1, 1), x.ajar(0, 3, 3, 0),
            x.ajar(0, 3, 3, 1), x.ajar(0, 3, 3, 10)}, 1, 1, 2, 1, 2, 0);
        x.wall(0, true);
        C.due("a wall", x.ajar(0, 6, 1, 0), 0);
        OtherDoor y = Check.of("rooms 2; law 3;" + "door 0 1;".repeat(14));
        C.dueAll("many ways", new int[] {y.ajar(0, 6, 63, 0), y.ajar(0, 6, 31, 0), y.ajar(0, 6, 15, 0), y.ajar(0, 6, 127, 0),
            y.ajar(0, 6, 16383, 0), y.ajar(0, 6, 16384, 0)}, 720, 1800, 1560, 0, 0, -1);
        C.due("the first by doors", y.ajar(0, 6, 3 << 12, 15), 13);
        y.law(1);
        C.due("law 1", y.ajar(0, 6, 7, 0), 6);
        y.law(0);
        C.due("law 0", y.ajar(0, 4, 3, 0), 2);
    }

    public static void main(String[] args) {
        promise31();
        promise32();
        promise33();
        promise34();
        C.finish("WalksTest");
    }
}
