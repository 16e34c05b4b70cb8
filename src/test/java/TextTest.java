/** Promises 1 to 5: a new object, the tape, the text and its faults. */
public final class TextTest {
    private static final Check C = Check.begin();

    private static void promise1() {
        OtherDoor x = new OtherDoor();
        C.dueAll("new: rule", new int[] {x.rule(0), x.rule(1), x.rule(2), x.rule(3)}, 4, 0, 0, 0);
        C.dueAll("new: count", new int[] {x.count(0), x.count(1), x.count(2), x.count(3), x.count(4), x.count(5)},
            0, 0, 0, 0, 0, OtherDoor.NONE);
        for (int k = 0; k < 4; k++) {
            C.due("new: lay(" + k + ", 0, 0)", x.lay(k, 0, 0), -11);
        }
        C.due("new: fault()", x.fault(), 0);
        C.due("new: torn()", x.torn(), 0);
        C.due("new: doors(3)", x.doors(3), 0);
        C.due("new: doors(4)", x.doors(4), OtherDoor.BAD);
        C.due("new: back(0)", x.back(0), OtherDoor.STATE);
        C.due("new: forget()", x.forget(), 0);
    }

    private static void promise2() {
        OtherDoor x = new OtherDoor();
        // the highest byte first: 'r' is the first one that is read
        C.due("feed(\"rooms 5;\")", x.feed(0x726f6f6d7320353bL), 8);
        C.due("palace()", x.palace(), 1);
        C.due("rule(0)", x.rule(0), 5);
        for (int i = 1; i <= 40; i++) {
            C.due("feed " + i, x.feed(0x2020202020202020L), 8 * i);
        }
        C.due("feed 41", x.feed(0L), OtherDoor.FULL);
        C.due("count(4)", x.count(4), 320);
        x.end(313);
        C.due("feed behind 313", x.feed(0L), OtherDoor.FULL);
        x.end(312);
        C.due("feed behind 312", x.feed(0xffL), 320);
        C.due("palace() with a 0 at 312", x.palace(), -10 - 312);
        C.due("fault()", x.fault(), 1);
    }

    private static void promise3() {
        OtherDoor x = new OtherDoor();
        C.due("end(0) of none", x.end(0), 0);
        C.due("end(1) of none", x.end(1), OtherDoor.BAD);
        x.feed(0x6c617720323b3b3bL);
        C.due("end(-1)", x.end(-1), OtherDoor.BAD);
        C.due("end(9)", x.end(9), OtherDoor.BAD);
        C.due("end(8)", x.end(8), 8);
        C.due("end(6)", x.end(6), 8);
        C.due("end(7) of 6", x.end(7), OtherDoor.BAD);
        C.due("count(4)", x.count(4), 6);
        C.due("palace()", x.palace(), 1);
        C.due("rule(1)", x.rule(1), 2);
    }

    private static void promise4() {
        OtherDoor x = new OtherDoor();
        C.due("all kinds of lines", Check.tell(x, "walled 1;one 4;rooms5;law 3;door0 1;door 1 2red;door 2 3 green ;door 3 4  blue;"), 8);
        C.dueAll("rule", new int[] {x.rule(0), x.rule(1), x.rule(2), x.rule(3)}, 5, 3, 4, 1);
        C.dueAll("colours", new int[] {x.door(0, 2), x.door(1, 2), x.door(2, 2), x.door(3, 2)}, 0, 1, 2, 3);
        C.dueAll("walled", new int[] {x.door(0, 3), x.door(1, 3), x.door(2, 3)}, 0, 1, 0);
        C.due("count(4)", x.count(4), 0);
        x.tell(0);
        x.keep(0);
        x.keep(1);
        x.sheet(0, 1, 3);
        C.due("a fault", Check.tell(x, "rooms 7; law 2; door 1 1;"), -10 - 23);
        C.due("the tape is empty by a fault", x.count(4), 0);
        C.dueAll("what was told stays", new int[] {x.rule(0), x.rule(1), x.rule(2), x.rule(3), x.count(2), x.count(3)},
            5, 3, 4, 1, 1, 2);
        C.due("the empty text", x.palace(), 0);
        C.dueAll("as at first", new int[] {x.rule(0), x.rule(1), x.rule(2), x.rule(3), x.count(2), x.count(3)},
            4, 0, 0, 0, 0, 0);
        C.due("images are gone", x.back(1), OtherDoor.STATE);
        C.due("sheets stay", x.count(5), 3);
        C.due("blanks alone", Check.tell(x, "     "), 0);
        C.due("leading noughts", Check.tell(x, "rooms 09;law 00;door 08 00;"), 3);
        C.due("rule(0)", x.rule(0), 9);
        C.due("door(0, 0)", x.door(0, 0), 8);
        C.due("two walls", Check.tell(x, "door 0 1;door 0 2;door 0 3;walled 2;walled 0;"), 5);
        C.due("doors(0)", x.doors(0), 2);
        C.due("a walled palace is forgotten", Check.tell(x, "door 0 1;law 2;one 0;"), 3);
        C.dueAll("nothing is left of it", new int[] {x.doors(0), x.doors(2), x.door(0, 3), x.go(0, 0), x.one(0, 3)}, 1, 0, 0, 1, 0);
        Check.tell(x, "door 0 1 red;");
        C.due("colours are told anew", Check.tell(x, "law 2;door 0 1;door 1 2 red;one 2;"), 4);
        C.dueAll("red is door 1 alone", new int[] {x.go(0, 1), x.one(0, 3)}, 1, 1);
        C.due("all figures", Check.tell(x, "rooms 10;door 0 9;door 1 8;door 2 7;door 3 6;door 4 5;"), 6);
        C.dueAll("doors(9)", new int[] {x.doors(9), x.doors(8), x.doors(5)}, 1, 2, 16);
        C.due("fourteen doors", Check.tell(x, "door 0 1;".repeat(14)), 14);
        C.due("five people", Check.tell(x, "one 0;".repeat(5)), 5);
    }

    private static void faulty(String text, int fault, int place) {
        OtherDoor x = new OtherDoor();
        C.due("palace() of \"" + text + "\"", Check.tell(x, text), -10 - place);
        C.due("fault() of \"" + text + "\"", x.fault(), fault);
    }

    private static void promise5() {
        faulty("#", 1, 0);
        faulty("  rooms 4;\u00ff", 1, 10);
        faulty("rooms\t4;", 1, 5);
        faulty("Rooms 4;", 1, 0);
        faulty("rooms 100;", 1, 6);
        faulty("rooms 4 004;", 1, 8);
        faulty("123", 1, 0);
        faulty("door 0 1 ?", 1, 9);
        faulty("door 0 1 red ?", 1, 13);
        faulty("door 3 3?", 4, 7);
        faulty("room 4;", 2, 0);
        faulty("roomss 4;", 2, 0);
        faulty("red;", 2, 0);
        faulty(";", 2, 0);
        faulty(" 4", 2, 1);
        faulty("rooms", 2, 5);
        faulty("rooms  ", 2, 7);
        faulty("rooms 4", 2, 7);
        faulty("rooms 4 ", 2, 8);
        faulty("rooms ;", 2, 6);
        faulty("rooms 4 4;", 2, 8);
        faulty("law 1 red;", 2, 6);
        faulty("door 1;", 2, 6);
        faulty("door 0 1 pink;", 2, 9);
        faulty("door 0 1 rooms 4;", 2, 9);
        faulty("door 0 1 red 2;", 2, 13);
        faulty("door 0 1 red blue;", 2, 13);
        faulty("door 0 1 2;", 2, 9);
        faulty("door 0 1", 2, 8);
        faulty("one red;", 2, 4);
        faulty("walled;", 2, 6);
        faulty("rooms 1;", 3, 6);
        faulty("rooms 11;", 3, 6);
        faulty("law 4;", 3, 4);
        faulty("door 10 0;", 3, 5);
        faulty("door 0 10;", 3, 7);
        faulty("door 12;", 3, 5);
        faulty("one 10;", 3, 4);
        faulty("walled 14;", 3, 7);
        faulty("rooms 4;rooms", 4, 8);
        faulty("law 0; law 0;", 4, 7);
        faulty("door 4 4;", 4, 7);
        faulty("walled 3;walled 3;", 4, 16);
        faulty("door 0 1;".repeat(14) + "door 0 1;", 5, 126);
        faulty("door 0 1;".repeat(14) + " door", 5, 127);
        faulty("one 0;".repeat(5) + "one 10;", 5, 30);
        faulty("door 0 4; ", 6, 10);
        faulty("door 4 0;", 6, 9);
        faulty("one 4;", 6, 6);
        faulty("rooms 2;one 2;", 6, 14);
        faulty("walled 0;", 6, 9);
        faulty("door 0 1;walled 1;", 6, 18);
        faulty("door 0 4;law 9;", 3, 13);
        // with the fault the text ends
        faulty("rooms 1", 3, 6);
        faulty("law 4", 3, 4);
        faulty("one 10", 3, 4);
        faulty("walled 14", 3, 7);
        faulty("door 10", 3, 5);
        faulty("door 0 10", 3, 7);
        faulty("door 0 0", 4, 7);
        faulty("one 1 walled 0; walled 0", 2, 6);
        // signs next to those of tokens
        faulty("abc;", 2, 0);
        faulty("zoo;", 2, 0);
        faulty("rooms 4;`", 1, 8);
        faulty("rooms 4;{", 1, 8);
        faulty("rooms/4;", 1, 5);
        faulty("rooms 4:", 1, 7);
        faulty("rooms!4", 1, 5);
        faulty("rooms 4<", 1, 7);
        faulty("door 0 1redd;", 2, 8);
        faulty("aw 1;", 2, 0);
        faulty("lax 1;", 2, 0);
        faulty("xooms 5;", 2, 0);
        OtherDoor x = new OtherDoor();
        Check.tell(x, "?");
        C.due("fault() of ?", x.fault(), 1);
        Check.tell(x, "one 1;");
        C.due("fault() of a text that is taken", x.fault(), 0);
        C.due("rooms told behind a door", Check.tell(x, "door 0 9;one 9;rooms 10;"), 3);
    }

    public static void main(String[] args) {
        promise1();
        promise2();
        promise3();
        promise4();
        promise5();
        C.finish("TextTest");
    }
}
