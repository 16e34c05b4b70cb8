/** Promises 35 to 41: images, sheets, counts. */
public final class SheetsTest {
    private static final Check C = Check.begin();
    private static final String TRIANGLE = "rooms 4; door 0 1; door 1 2; door 2 0; one 0; one 3;";

    private static void promise35() {
        OtherDoor x = Check.of(TRIANGLE);
        C.dueAll("keep", new int[] {x.keep(0), x.keep(0), x.keep(1), x.keep(2), x.keep(-1), x.count(3)}, 0, 1, 0, -1, -1, 2);
        x.palace();
        C.dueAll("gone by a text", new int[] {x.count(3), x.keep(1), x.count(3)}, 0, 0, 1);
    }

    private static void promise36() {
        OtherDoor x = Check.of(TRIANGLE);
        C.dueAll("back", new int[] {x.back(0), x.back(1), x.back(2), x.back(-1)}, -2, -2, -1, -1);
        x.go(0, 0);
        x.go(0, 1);
        x.tell(2);
        x.tell(1);
        x.law(1);
        x.wall(0, true);
        x.keep(1);
        x.law(3);
        x.wall(0, false);
        x.wall(2, true);
        x.build(0, 3, 2);
        x.go(1, 3);
        x.stand(0, 3);
        x.forget();
        x.tell(3);
        x.feed(0L);
        x.sheet(0, 0, 7);
        C.due("back(0): there is none", x.back(0), -2);
        C.due("back(1)", x.back(1), 3);
        C.dueAll("one 0", new int[] {x.one(0, 0), x.one(0, 1), x.one(0, 2)}, 2, 1, 0);
        C.dueAll("one 1", new int[] {x.one(1, 0), x.one(1, 1), x.one(1, 2)}, 3, -4, -4);
        C.dueAll("doors", new int[] {x.rule(2), x.door(0, 3), x.door(2, 3), x.doors(0), x.doors(3), x.door(3, 0)}, 3, 1, 0, 4, 0, -1);
        C.dueAll("law, walk, tape, sheet", new int[] {x.rule(1), x.count(2), x.judge(0), x.count(4), x.count(5)}, 1, 2, -4, 8, 7);
        C.due("the image stays", x.back(1), 3);
        x.build(0, 3, 1);
        C.dueAll("colours are as they were", new int[] {x.door(3, 2), x.back(1), x.law(2), x.pairs()}, 1, 3, 1, 4);
    }

    private static void promise37() {
        OtherDoor x = new OtherDoor();
        C.dueAll("sheet", new int[] {x.sheet(0, 0, 0), x.count(5), x.sheet(0, 2, 40), x.count(5), x.sheet(3, 1, 1)}, 1, 0, 1, 40, 1);
        C.dueAll("no such", new int[] {x.sheet(4, 0, 1), x.sheet(-1, 0, 1), x.sheet(0, 3, 1), x.sheet(0, -1, 1), x.sheet(0, 0, 41),
            x.sheet(4, 0, -1), x.sheet(0, 3, -1)}, -1, -1, -1, -1, -1, -1, -1);
        C.dueAll("size", new int[] {x.sheet(0, 0, -1), x.sheet(0, 0, Integer.MIN_VALUE), x.count(5)}, -14, -14, 40);
        OtherDoor y = Check.of(TRIANGLE);
        y.sheet(2, 0, 2);
        y.lay(2, 0, 1);
        y.sheet(2, 0, 2);
        C.dueAll("cells are 0", new int[] {y.read(2, 0, 0, 0, 1), y.one(0, 1)}, 1, 0);
    }

    private static void promise38() {
        OtherDoor x = Check.of(TRIANGLE);
        C.dueAll("nothing", new int[] {x.lay(1, 0, 0), x.lay(1, -1, 0), x.lay(4, 0, 0), x.lay(-1, 0, 0)}, -11, -11, -1, -1);
        x.sheet(1, 0, 3);
        C.dueAll("index", new int[] {x.lay(1, 3, 0), x.lay(1, -1, 0), x.lay(1, 2, 9), x.lay(1, Integer.MAX_VALUE, 0)}, -12, -12, 1, -12);
        // the lowest bits alone: of bytes eight, of shorts sixteen
        C.dueAll("a byte", new int[] {x.lay(1, 0, 256), x.lay(1, 1, 0xff01), x.read(1, 0, 0, 0, 2), x.one(0, 0)}, 1, 1, 2, 2);
        x.stand(0, 0);
        x.sheet(1, 1, 3);
        C.dueAll("a short", new int[] {x.lay(1, 0, 65536), x.lay(1, 1, 257), x.read(1, 1, 0, 0, 1), x.read(1, 1, 0, 1, 1)}, 1, 1, 1, -20);
        x.stand(0, 0);
        x.sheet(1, 2, 3);
        C.dueAll("an int", new int[] {x.lay(1, 0, 65536), x.read(1, 2, 0, 0, 1), x.lay(1, 0, 2), x.read(1, 2, 0, 0, 1)}, 1, -20, 1, 1);
    }

    private static void promise39() {
        OtherDoor x = Check.of(TRIANGLE);
        x.sheet(1, 1, 5);
        int[] cells = {0, 1, 2, 2, -1};
        for (int i = 0; i < 5; i++) {
            x.lay(1, i, cells[i]);
        }
        C.dueAll("refused behind steps", new int[] {x.read(1, 1, 0, 0, 4), x.one(0, 0), x.one(0, 1), x.one(0, 2)}, -23, 0, -4, -4);
        C.dueAll("refused in another room", new int[] {x.read(1, 1, 0, 2, 2), x.one(0, 0), x.one(0, 1)}, -21, 0, -4);
        C.dueAll("read", new int[] {x.read(1, 1, 0, 0, 3), x.one(0, 0), x.one(0, 1), x.one(0, 2), x.torn()}, 3, 0, 2, 1, 0);
        C.dueAll("refused: none is made", new int[] {x.read(1, 1, 0, 0, 4), x.one(0, 0), x.one(0, 1), x.one(0, 2)}, -23, 0, 2, 1);
        C.dueAll("refused at once", new int[] {x.read(1, 1, 0, 3, 1), x.read(1, 1, 0, 4, 1), x.read(1, 1, 1, 0, 1)}, -20, -20, -20);
        x.lay(1, 3, 0);
        x.lay(1, 4, 1);
        C.dueAll("those ahead of the fault are made", new int[] {x.read(1, 1, 0, 3, 3), x.one(0, 0), x.torn()}, 2, 2, 2);
        x.lay(1, 0, 14);
        C.dueAll("the first met: a door ahead of the end", new int[] {x.read(1, 1, 0, 0, 12), x.one(0, 0), x.torn()}, -20, 2, 2);
        C.dueAll("no such", new int[] {x.read(4, 1, 0, 0, 1), x.read(-1, 1, 0, 0, 1), x.read(1, 3, 0, 0, 1), x.read(1, -1, 0, 0, 1),
            x.read(1, 1, 2, 0, 1), x.read(1, 1, -1, 0, 1), x.read(1, 1, 0, 0, 13), x.read(1, 1, 0, 0, -1)},
            -1, -1, -1, -1, -1, -1, -1, -1);
        C.dueAll("BAD with n 0, too", new int[] {x.read(4, 1, 0, 0, 0), x.read(1, 3, 0, 0, 0), x.read(1, 1, 2, 0, 0)}, -1, -1, -1);
        C.due("far cells", x.read(1, 1, 0, Integer.MAX_VALUE, 12), 0);
        C.due("their fault", x.torn(), 2);
        x.stand(0, 0);
        x.wall(0, true);
        x.lay(1, 0, 0);
        C.due("a wall", x.read(1, 1, 0, 0, 1), -20);
    }

    private static void promise40() {
        OtherDoor x = Check.of(TRIANGLE);
        C.dueAll("null", new int[] {x.read(0, 0, 0, 0, 1), x.torn()}, 0, 1);
        C.dueAll("n 0 finds nothing", new int[] {x.read(0, 0, 0, -1, 0), x.torn()}, 0, 0);
        x.sheet(0, 2, 1);
        C.dueAll("cast ahead of index", new int[] {x.read(0, 0, 0, -1, 1), x.torn(), x.read(0, 1, 0, 0, 1), x.torn()}, 0, 3, 0, 3);
        C.dueAll("index", new int[] {x.read(0, 2, 0, -1, 1), x.torn(), x.read(0, 2, 0, 1, 1), x.torn()}, 0, 2, 0, 2);
        x.lay(0, 0, 5);
        C.dueAll("one that is refused leaves it", new int[] {x.read(0, 2, 0, 0, 1), x.torn(), x.read(0, 2, 0, 0, 13), x.torn()},
            -20, 2, -1, 2);
        x.lay(0, 0, 2);
        C.dueAll("none", new int[] {x.read(0, 2, 0, 0, 1), x.torn()}, 1, 0);
        C.dueAll("a fault behind a step", new int[] {x.stand(0, 0), x.read(0, 2, 0, 0, 2), x.torn()}, 2, 1, 2);
        x.palace();
        C.due("a text leaves it", x.torn(), 2);
    }

    private static void promise41() {
        OtherDoor x = Check.of(TRIANGLE + "door 3 0; walled 3;");
        C.dueAll("count", new int[] {x.count(0), x.count(1), x.count(2), x.count(3), x.count(4), x.count(5)}, 3, 1, 0, 0, 0, -4);
        x.wall(3, false);
        x.tell(0);
        x.keep(1);
        x.feed(0L);
        x.sheet(0, 1, 9);
        C.dueAll("count", new int[] {x.count(0), x.count(1), x.count(2), x.count(3), x.count(4), x.count(5)}, 4, 0, 1, 1, 8, 9);
        C.dueAll("no such", new int[] {x.count(6), x.count(-1)}, -1, -1);
        x.law(2);
        x.go(0, 0);
        x.go(1, 3);
        C.due("lost by their colour", x.count(1), 2);
    }

    public static void main(String[] args) {
        promise35();
        promise36();
        promise37();
        promise38();
        promise39();
        promise40();
        promise41();
        C.finish("SheetsTest");
    }
}
