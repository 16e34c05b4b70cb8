/** Boundary cases of promises 1 to 5, and of the terms of THE TAPE. */
final class EdgeText {
    private static final int BAD = OtherDoor.BAD, FULL = OtherDoor.FULL, NONE = OtherDoor.NONE;
    private static final int MIN = Integer.MIN_VALUE, MAX = Integer.MAX_VALUE;
    private static final String DOORS_14 = "door 0 1;".repeat(14);
    private static final String ONES_5 = "one 0;".repeat(5);

    private final Edges e;

    EdgeText(Edges edges) {
        e = edges;
    }

    void run() {
        newObject();
        feed();
        end();
        palace();
        fault();
        tokens();
        lines();
        faults();
        faultOrder();
        textTaken();
    }

    /** The rich palace with so many bytes on its tape: two lines, then blanks. */
    private static OtherDoor withTape(int n) {
        OtherDoor x = Twins.rich();
        x.end(0);
        Check.put(x, "rooms 7;law 3;" + " ".repeat(n - 14));
        return x;
    }

    private void taken(String text, int lines) {
        OtherDoor x = new OtherDoor();
        e.due("palace() of \"" + text + "\"", Check.tell(x, text), lines);
        e.due("fault() of \"" + text + "\"", x.fault(), 0);
    }

    /** The answer, the fault, an empty tape; and what was told stays, with its images and sheets. */
    private void faulty(String text, int fault, int place) {
        OtherDoor x = Twins.rich();
        x.end(0);
        e.due("palace() of \"" + text + "\"", Check.tell(x, text), -10 - place);
        e.due("fault() of \"" + text + "\"", x.fault(), fault);
        e.due("count(4) behind \"" + text + "\"", x.count(4), 0);
        e.leaves("palace() of \"" + text + "\"", Twins::rich, y -> {
            y.end(0);
            return Check.tell(y, text);
        }, -10 - place, Twins.ALL_BUT_TAPE);
    }

    private void newObject() {
        OtherDoor x = new OtherDoor();
        e.of(1, "Four ROOMS without DOORS");
        e.row("rule", new int[] {x.rule(0), x.rule(1), x.rule(2), x.rule(3)}, 4, 0, 0, 0);
        e.row("doors", new int[] {x.doors(0), x.doors(1), x.doors(2), x.doors(3), x.doors(4)}, 0, 0, 0, 0, BAD);
        e.row("no door, no one", new int[] {x.door(0, 0), x.one(0, 0), x.can(0), x.count(0), x.count(1)}, BAD, BAD, BAD, 0, 0);
        e.row("the last room, and one more", new int[] {x.build(0, 4, 0), x.build(3, 0, 0)}, BAD, 0);
        OtherDoor y = new OtherDoor();
        e.of(1, "SHEETS have nothing");
        e.row("lay", new int[] {y.lay(0, 0, 0), y.lay(1, 0, 0), y.lay(2, 0, 0), y.lay(3, 0, 0)}, -11, -11, -11, -11);
        e.due("count(5)", y.count(5), NONE);
    }

    private void feed() {
        e.of(2, "Eight bytes come behind THE TAPE, the highest first: how many it has.");
        OtherDoor x = new OtherDoor();
        e.row("a word cut in two", new int[] {x.feed(0x726f6f6d20202020L), x.end(4), x.feed(0x7320353b20202020L), x.palace(), x.rule(0)},
            8, 8, 12, 1, 5);
        e.row("the lowest byte is the last", new int[] {x.feed(0x20202020202020ffL), x.palace(), x.fault()}, 8, -17, 1);
        e.row("the highest byte with its sign", new int[] {x.feed(Long.MIN_VALUE | 0x20202020202020L), x.palace(), x.fault()}, 8, -10, 1);
        e.row("bytes of 0", new int[] {x.feed(0L), x.palace(), x.fault()}, 8, -10, 1);
        e.row("bytes of 255", new int[] {x.feed(-1L), x.palace(), x.fault()}, 8, -10, 1);
        OtherDoor y = new OtherDoor();
        for (int i = 1; i <= 40; i++) {
            e.due("feed " + i, y.feed(0x2020202020202020L), 8 * i);
        }
        e.of(2, "FULL: more than 320.");
        e.due("312 and 8 are not more", withTape(312).feed(0L), 320);
        e.refused("feed() of 313", () -> withTape(313), z -> z.feed(0x6f6e6520303b2020L), FULL);
        e.refused("feed() of 319", () -> withTape(319), z -> z.feed(0x6f6e6520303b2020L), FULL);
        e.refused("feed() of 320", () -> withTape(320), z -> z.feed(0x6f6e6520303b2020L), FULL);
    }

    private void end() {
        e.of(3, "THE TAPE keeps its first n bytes: how many it had.");
        OtherDoor x = new OtherDoor();
        e.due("nothing of nothing", x.end(0), 0);
        Check.put(x, "law 2;;;");
        e.row("all, then six, then all of them", new int[] {x.end(8), x.end(6), x.end(6), x.count(4)}, 8, 8, 6, 6);
        e.row("the first ones", new int[] {x.palace(), x.rule(1)}, 1, 2);
        OtherDoor y = withTape(320);
        e.row("all 320, then none", new int[] {y.end(320), y.end(319), y.end(0), y.end(0), y.palace()}, 320, 320, 319, 0, 0);
        e.of(3, "BAD (n above that, too).");
        for (int n : new int[] {-1, 15, 320, 321, MIN, MAX}) {
            e.refused("end(" + n + ") of 14", z -> z.end(n), BAD);
        }
        e.refused("end(321) of 320", () -> withTape(320), z -> z.end(321), BAD);
        e.refused("end(1) of none", OtherDoor::new, z -> z.end(1), BAD);
        e.refused("end(-1) of none", OtherDoor::new, z -> z.end(-1), BAD);
    }

    private void palace() {
        e.of(4, "THE TAPE (empty then, by a FAULT, too) tells the palace");
        OtherDoor x = new OtherDoor();
        e.row("taken", new int[] {Check.tell(x, "rooms 9;"), x.count(4), x.rule(0), x.palace(), x.rule(0)}, 1, 0, 9, 0, 4);
        e.row("by a fault", new int[] {Check.tell(x, "rooms 9;?"), x.count(4), x.end(1), x.palace()}, -18, 0, BAD, 0);
        e.of(4, "how many lines");
        taken("", 0);
        taken(" ", 0);
        taken("one 3;", 1);
        String all = "rooms 4;law 0;" + DOORS_14 + ONES_5;
        for (int d = 0; d < 14; d++) {
            all += "walled " + d + ";";
        }
        taken(all, 35);
        OtherDoor y = Check.of(all);
        e.row("all of them", new int[] {y.rule(2), y.rule(3), y.count(0), y.count(1), y.doors(0)}, 14, 5, 0, 5, 0);
        e.of(4, "-10 less the place of its FAULT: that which was told stays.");
        faulty("?", 1, 0);
        faulty("one 0; ?", 1, 7);
        faulty(" ".repeat(319) + "?", 1, 319);
        faulty(" ".repeat(317) + "one", 2, 320);
        faulty("rooms 9;law 3;door 0 8;one 8;walled 1;", 6, 38);
    }

    private void fault() {
        e.of(5, "The FAULT of the latest palace(); 0.");
        OtherDoor x = new OtherDoor();
        e.row("at first", new int[] {x.fault(), x.palace(), x.fault()}, 0, 0, 0);
        String[] texts = {"?", "red", "rooms 1", "door 1 1", DOORS_14 + "door", "one 4;"};
        for (int i = 0; i < texts.length; i++) {
            Check.tell(x, texts[i]);
            e.due("fault() of \"" + texts[i] + "\"", x.fault(), i + 1);
        }
        Check.put(x, "one 0;");
        x.law(9);
        e.due("until the next palace()", x.fault(), 6);
        e.row("taken", new int[] {x.palace(), x.fault()}, 1, 0);
    }

    private void tokens() {
        e.of("Terms", "THE TAPE has 320 bytes, places from 0.");
        taken("one 0;" + " ".repeat(308) + "one 1;", 2);
        faulty("#" + " ".repeat(319), 1, 0);
        faulty(" ".repeat(319) + "#", 1, 319);
        e.of("Terms", "TOKENS, each as long as may be,");
        taken("rooms 10;", 1);
        faulty("roomslaw 3;", 2, 0);
        faulty("door 01;", 2, 7);
        faulty("door 1 23;", 3, 7);
        e.of("Terms", "any number of blanks (32) ahead of, between, behind them");
        taken(" ".repeat(320), 0);
        taken(" ".repeat(100) + "rooms" + " ".repeat(100) + "5" + " ".repeat(100) + ";" + " ".repeat(13), 1);
        for (char c : new char[] {0, 9, 10, 13, 31, 33, 160}) {
            faulty("one" + c + "0;", 1, 3);
        }
        e.of("Terms", "(one at least between two NAMES, between two NUMBERS; else none is needed):");
        taken("rooms7;law3;door0 6red;door6 1;one6;walled0;", 6);
        taken("rooms 7 ; law 3 ; door 0 6 red ;", 3);
        faulty("door 06red;", 2, 7);
        faulty("door0 1redone 0;", 2, 7);
        e.of("Terms", "NAMES (a .. z), NUMBERS (1 or 2 figures), the sign ; (every other byte is no TOKEN).");
        everyByte();
        taken("one 3;one 03;", 2);
        faulty("one 003;", 1, 4);
        faulty("az;", 2, 0);
        faulty("za;", 2, 0);
    }

    /** One byte by itself: no token, a token that begins no line, or a blank. */
    private void everyByte() {
        for (int b = 0; b < 256; b++) {
            OtherDoor x = new OtherDoor();
            x.feed((long) b << 56);
            x.end(1);
            boolean token = b >= 'a' && b <= 'z' || b >= '0' && b <= '9' || b == ';';
            e.due("palace() of byte " + b, x.palace(), b == 32 ? 0 : -10);
            e.due("fault() of byte " + b, x.fault(), b == 32 ? 0 : token ? 2 : 1);
        }
    }

    private void lines() {
        e.of("Terms", "palace: { line }");
        taken("", 0);
        taken("law 1;rooms 3;", 2);
        faulty("law 1;;", 2, 6);
        e.of("Terms", "line: rooms N ; | law N ; | door N N [ colour ] ; | one N ; | walled N ; colour: red | green | blue");
        taken("walled 0;one 1;door 0 1 blue;door 0 1 green;door 0 1 red;door 1 0;law 2;rooms 2;", 8);
        for (String start : new String[] {"rooms", "law", "door", "door 0", "one", "walled"}) {
            faulty(start + ";", 2, start.length());
            faulty(start + " red;", 2, start.length() + 1);
            faulty(start, 2, start.length());
        }
        for (String start : new String[] {"rooms 4", "law 1", "door 0 1", "door 0 1 red", "one 0", "walled 0"}) {
            faulty(start + " 1;", 2, start.length() + 1);
            faulty(start + " one;", 2, start.length() + 1);
            faulty(start, 2, start.length());
        }
        for (String start : new String[] {"rooms 4", "law 1", "one 0", "walled 0", "door 0 1 green"}) {
            faulty(start + " red;", 2, start.length() + 1);
        }
        e.of("Terms", "door: two ROOMS (0 to 9); COLOUR 0 without colour, red 1, green 2, blue 3.");
        OtherDoor x = Check.of("rooms 10;door 0 9;door 9 0 red;door 8 9 green;door 1 0 blue;");
        e.row("rooms", new int[] {x.door(0, 0), x.door(0, 1), x.door(1, 0), x.door(1, 1)}, 0, 9, 9, 0);
        e.row("colours", new int[] {x.door(0, 2), x.door(1, 2), x.door(2, 2), x.door(3, 2)}, 0, 1, 2, 3);
        e.of("Terms", "one: his ROOM.");
        OtherDoor y = Check.of("one 9;rooms 10;one 0;");
        e.row("his room", new int[] {y.one(0, 0), y.one(1, 0), y.one(0, 1), y.one(0, 2)}, 9, 0, NONE, NONE);
        e.of("Terms", "walled: a DOOR (0 to 13).");
        OtherDoor z = Check.of("walled 13;walled 0;" + DOORS_14);
        e.row("walled", new int[] {z.door(0, 3), z.door(1, 3), z.door(12, 3), z.door(13, 3), z.doors(0)}, 1, 0, 0, 1, 0x1ffe);
    }

    private void faults() {
        e.of("Terms", "1 no TOKEN, a NUMBER that is too long (its first byte).");
        faulty("rooms 5;  =", 1, 10);
        faulty("rooms  100;", 1, 7);
        faulty("rooms 5;000", 1, 8);
        faulty("0123456789", 1, 0);
        e.of("Terms", "2 a TOKEN that can not stand there (a NAME that begins no line, is no colour; or the end: the length).");
        for (String name : new String[] {"room", "roomss", "la", "laws", "doo", "doors", "on", "ones", "wall", "walledd", "red", "a", "z",
            "pooms", "maw", "toor", "ine", "valled"}) {
            faulty(name + " 1;", 2, 0);
        }
        for (String name : new String[] {"re", "redd", "gree", "greens", "blu", "blued", "white", "door", "one", "bed", "hreen", "clue"}) {
            faulty("door 0 1 " + name + ";", 2, 9);
        }
        faulty("7;", 2, 0);
        faulty(";", 2, 0);
        faulty("one 0", 2, 5);
        faulty("one 0   ", 2, 8);
        e.of("Terms", "3 a NUMBER out of its bounds.");
        taken("rooms 2;", 1);
        taken("rooms 10;", 1);
        faulty("rooms 0;", 3, 6);
        faulty("rooms 1;", 3, 6);
        faulty("rooms 11;", 3, 6);
        faulty("rooms 99;", 3, 6);
        taken("law 0;", 1);
        taken("law 3;", 1);
        faulty("law 4;", 3, 4);
        taken("door 0 9;rooms 10;", 2);
        faulty("door 10 0;", 3, 5);
        faulty("door 0 10;", 3, 7);
        taken("one 9;rooms 10;", 2);
        faulty("one 10;", 3, 4);
        taken("walled 13;" + DOORS_14, 15);
        faulty("walled 14;", 3, 7);
        secondTimes();
        tooMany();
    }

    private void secondTimes() {
        e.of("Terms", "4 rooms, law for the second time (its NAME),");
        faulty("rooms 5; rooms 5;", 4, 9);
        faulty("law 0;rooms 5;law 0;", 4, 14);
        taken("rooms 5;law 3;", 2);
        e.of("Terms", "a ROOM and itself (the second one),");
        faulty("door 0  0;", 4, 8);
        faulty("door 9 09;", 4, 7);
        e.of("Terms", "a DOOR that is walled already (it).");
        faulty("door 0 1;walled 0;walled 0;", 4, 25);
        faulty("walled 13;walled 013;", 1, 17);
        faulty("walled 13;walled 1;walled 01;", 4, 26);
    }

    private void tooMany() {
        e.of("Terms", "5 the 15th door, the 6th one (its NAME).");
        taken(DOORS_14, 14);
        faulty(DOORS_14 + " door 0 1;", 5, 127);
        taken(ONES_5, 5);
        faulty(ONES_5 + "  one 0;", 5, 32);
        e.of("Terms", "Behind all (the length): 6 a ROOM, a DOOR that there is not.");
        taken("door 3 0;one 3;", 2);
        faulty("door 4 0;", 6, 9);
        faulty("door 0 4; ", 6, 10);
        faulty("one 4;law 0;", 6, 12);
        faulty("rooms 2;door 0 2;", 6, 17);
        faulty("rooms 9;one 9;", 6, 14);
        taken("one 4;rooms 5;", 2);
        faulty("walled 0;", 6, 9);
        faulty("door 0 1;walled 1;", 6, 18);
        taken("walled 1;door 0 1;door 0 1;", 3);
        faulty("door 0 1;".repeat(13) + "walled 13;", 6, 127);
    }

    private void faultOrder() {
        e.of("Terms", "FAULTS, the first met as it is read (a TOKEN is read when the one before has been taken):");
        faulty("room ?", 2, 0);
        faulty("rooms 1?", 3, 6);
        faulty("rooms 5;rooms?", 4, 8);
        faulty("door 0 0?", 4, 7);
        faulty("door 10 100;", 3, 5);
        faulty("door 0 1 pink?", 2, 9);
        faulty(DOORS_14 + "door?", 5, 126);
        faulty(ONES_5 + "one?", 5, 30);
        faulty("walled 0;walled 0?", 4, 16);
        faulty("law?4", 1, 3);
        faulty("one 9;?", 1, 6);
        faulty("one 9;rooms 11;", 3, 12);
        faulty("one 9;one 9", 2, 11);
    }

    private void textTaken() {
        e.of("Terms", "A text that is taken tells all, in place of what there was (what no line tells is as at first);");
        OtherDoor x = Twins.rich();
        x.end(0);
        e.row("the empty text", new int[] {x.palace(), x.rule(0), x.rule(1), x.rule(2), x.rule(3), x.count(0), x.doors(0)}, 0, 4, 0, 0, 0, 0, 0);
        OtherDoor y = Twins.rich();
        y.end(0);
        e.due("people alone", Check.tell(y, "one 2;"), 1);
        e.row("one of them, NEW", new int[] {y.rule(0), y.rule(1), y.rule(2), y.rule(3), y.one(0, 0), y.one(0, 1), y.one(0, 2)},
            4, 0, 0, 1, 2, NONE, NONE);
        OtherDoor z = Twins.rich();
        z.end(0);
        e.due("doors alone", Check.tell(z, "door 0 1;door 2 1;door 0 3;door 3 1;door 1 3;"), 5);
        e.row("no wall, no colour is left", new int[] {z.count(0), z.door(4, 3), z.door(1, 2), z.doors(1), z.rule(3)}, 5, 0, 0, 27, 0);
        OtherDoor painted = Check.of("door 0 1 red;door 0 1;");
        e.row("no colour is left to law 2", new int[] {Check.tell(painted, "law 2;door 0 1;door 0 1 red;one 0;"), painted.go(0, 1), painted.one(0, 3)}, 4, 1, 1);
        e.of("Terms", "no walk is told then; IMAGES are gone; SHEETS stay.");
        OtherDoor w = Twins.rich();
        e.row("ahead of it", new int[] {w.count(2), w.count(3), w.count(5), w.torn()}, 4, 2, 3, 3);
        e.row("behind it", new int[] {w.palace(), w.count(2), w.count(3), w.back(0), w.back(1), w.count(5), w.torn()},
            2, 0, 0, OtherDoor.STATE, OtherDoor.STATE, 3, 3);
        e.row("a sheet that had nothing has nothing", new int[] {w.lay(3, 0, 0), w.lay(1, 3, 0), w.lay(1, 4, 0), w.lay(2, 0, 0)}, -11, 1, -12, -12);
        w.palace();
        Check.tell(w, "door 0 1;door 1 2;door 2 0;one 0;");
        e.row("its cells stay", new int[] {w.read(0, 0, 0, 0, 3), w.one(0, 0), w.torn()}, 3, 0, 0);
    }
}
