/** Promises 6 to 14: what there is, and what is changed. */
public final class StateTest {
    private static final Check C = Check.begin();
    private static final String SQUARE = "rooms 5; door 0 1; door 1 2 red; door 2 3 green; door 3 0 blue; door 0 2; one 0; one 4;";

    private static void promise6() {
        OtherDoor x = Check.of(SQUARE + "law 2;");
        C.dueAll("rule", new int[] {x.rule(-1), x.rule(0), x.rule(1), x.rule(2), x.rule(3), x.rule(4)},
            OtherDoor.BAD, 5, 2, 5, 2, OtherDoor.BAD);
    }

    private static void promise7() {
        OtherDoor x = Check.of(SQUARE + "walled 3;");
        C.dueAll("door 3", new int[] {x.door(3, 0), x.door(3, 1), x.door(3, 2), x.door(3, 3)}, 3, 0, 3, 1);
        C.dueAll("door 4", new int[] {x.door(4, 0), x.door(4, 1), x.door(4, 2), x.door(4, 3)}, 0, 2, 0, 0);
        C.dueAll("no such", new int[] {x.door(5, 0), x.door(-1, 0), x.door(0, 4), x.door(0, -1)}, -1, -1, -1, -1);
    }

    private static void promise8() {
        OtherDoor x = Check.of(SQUARE);
        C.dueAll("one 0 at first", new int[] {x.one(0, 0), x.one(0, 1), x.one(0, 2), x.one(0, 3)}, 0, -4, -4, 25);
        C.dueAll("one 1", new int[] {x.one(1, 0), x.one(1, 1), x.one(1, 2), x.one(1, 3)}, 4, -4, -4, 0);
        x.go(0, 0);
        C.dueAll("behind a step", new int[] {x.one(0, 0), x.one(0, 1), x.one(0, 2), x.one(0, 3)}, 1, 0, -4, 2);
        x.go(0, 1);
        C.dueAll("behind two", new int[] {x.one(0, 0), x.one(0, 1), x.one(0, 2), x.one(0, 3)}, 2, 1, 0, 20);
        x.go(0, 4);
        x.law(1);
        C.dueAll("law 1", new int[] {x.one(0, 0), x.one(0, 1), x.one(0, 2), x.one(0, 3)}, 0, 4, 1, 9);
        x.law(2);
        C.due("law 2: no door of colour 0", x.one(0, 3), 8);
        x.law(3);
        C.due("law 3", x.one(0, 3), 25);
        x.wall(3, true);
        C.due("a walled door", x.one(0, 3), 17);
        C.dueAll("no such", new int[] {x.one(2, 0), x.one(-1, 0), x.one(0, 4), x.one(0, -1)}, -1, -1, -1, -1);
        OtherDoor y = Check.of("rooms 2; law 1; door 0 1; door 0 1; door 0 1; one 0;");
        y.go(0, 0);
        y.go(0, 1);
        C.due("law 1 bars the one ahead, too", y.one(0, 3), 4);
    }

    private static void promise9() {
        OtherDoor x = Check.of(SQUARE);
        C.dueAll("doors", new int[] {x.doors(0), x.doors(1), x.doors(2), x.doors(3), x.doors(4)}, 25, 3, 22, 12, 0);
        x.wall(0, true);
        C.dueAll("doors", new int[] {x.doors(0), x.doors(1)}, 24, 2);
        C.dueAll("no such", new int[] {x.doors(5), x.doors(-1)}, -1, -1);
    }

    private static void promise10() {
        OtherDoor x = Check.of(SQUARE);
        C.dueAll("law", new int[] {x.law(3), x.law(1), x.law(4), x.law(-1), x.law(2), x.law(0)}, 0, 3, -1, -1, 1, 2);
        x.go(0, 0);
        x.law(3);
        C.due("who came in by what stays", x.one(0, 1), 0);
    }

    private static void promise11() {
        OtherDoor x = new OtherDoor();
        C.dueAll("build", new int[] {x.build(0, 0, 0), x.build(4, 0, 0), x.build(0, 4, 0), x.build(-1, 0, 0),
            x.build(0, -1, 0), x.build(0, 1, 4), x.build(0, 1, -1)}, -1, -1, -1, -1, -1, -1, -1);
        for (int d = 0; d < 14; d++) {
            C.due("build " + d, x.build(3, 1, d % 4), d);
        }
        C.dueAll("door 13", new int[] {x.door(13, 0), x.door(13, 1), x.door(13, 2), x.door(13, 3)}, 3, 1, 1, 0);
        C.due("the 15th", x.build(0, 1, 0), OtherDoor.FULL);
        C.due("BAD ahead of FULL", x.build(0, 0, 0), OtherDoor.BAD);
        C.due("rule(2)", x.rule(2), 14);
        C.due("doors(1)", x.doors(1), (1 << 14) - 1);
    }

    private static void promise12() {
        OtherDoor x = Check.of(SQUARE);
        C.dueAll("wall", new int[] {x.wall(1, true), x.wall(1, true), x.door(1, 3), x.wall(1, false), x.wall(1, false),
            x.door(1, 3)}, 0, 1, 1, 1, 0, 0);
        C.dueAll("no such", new int[] {x.wall(5, true), x.wall(-1, false)}, -1, -1);
        x.wall(0, true);
        C.due("no step through it", x.go(0, 0), OtherDoor.NONE);
        x.wall(0, false);
        C.due("a step through it", x.go(0, 0), 1);
    }

    private static void promise13() {
        OtherDoor x = Check.of(SQUARE);
        x.go(0, 0);
        x.go(0, 1);
        C.dueAll("stand", new int[] {x.stand(0, 4), x.one(0, 0), x.one(0, 1), x.one(0, 2), x.stand(0, 2)}, 2, 4, -4, -4, 4);
        C.dueAll("no such", new int[] {x.stand(2, 0), x.stand(-1, 0), x.stand(0, 5), x.stand(0, -1)}, -1, -1, -1, -1);
        C.due("his room stays", x.one(0, 0), 2);
    }

    private static void promise14() {
        OtherDoor x = Check.of(SQUARE);
        C.dueAll("go", new int[] {x.go(0, 1), x.go(0, 0), x.go(0, 0), x.go(0, 1), x.go(0, 4)}, -4, 1, -4, 2, 0);
        C.dueAll("no such", new int[] {x.go(2, 0), x.go(-1, 0), x.go(0, 5), x.go(0, -1)}, -1, -1, -1, -1);
        C.dueAll("he is there", new int[] {x.one(0, 0), x.one(0, 1), x.one(0, 2)}, 0, 4, 1);
        x.law(2);
        C.dueAll("law 2", new int[] {x.go(0, 0), x.go(0, 3)}, -4, 3);
        x.law(1);
        C.dueAll("law 1", new int[] {x.go(0, 3), x.go(0, 2), x.go(0, 2)}, -4, 2, -4);
        x.law(3);
        C.dueAll("law 3", new int[] {x.go(0, 2), x.go(0, 2), x.go(0, 3)}, 3, 2, -4);
    }

    public static void main(String[] args) {
        promise6();
        promise7();
        promise8();
        promise9();
        promise10();
        promise11();
        promise12();
        promise13();
        promise14();
        C.finish("StateTest");
    }
}
