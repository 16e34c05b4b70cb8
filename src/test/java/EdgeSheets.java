/** Boundary cases of promises 35 to 41: images, sheets, counts. */
final class EdgeSheets {
    private static final int BAD = OtherDoor.BAD, STATE = OtherDoor.STATE, NONE = OtherDoor.NONE;
    private static final int MIN = Integer.MIN_VALUE, MAX = Integer.MAX_VALUE;
    private static final int[] NO_SHEET = {-1, 4, MIN, MAX};
    private static final int[] NO_LANE = {-1, 3, MIN, MAX};
    /** Two rooms, two doors of one colour, two people. */
    private static final String PAIR = "rooms 2;door 0 1;door 0 1;one 0;one 1;";

    private final Edges e;

    EdgeSheets(Edges edges) {
        e = edges;
    }

    void run() {
        keep();
        back();
        sheet();
        lay();
        laneBits();
        read();
        readFaults();
        readBad();
        readRefused();
        torn();
        count();
    }

    private void keep() {
        e.of(35, "IMAGE k (0, 1) is DOORS, PEOPLE, the LAW, the told walk: whether there was one (1, 0).");
        OtherDoor x = Check.of(PAIR);
        e.row("the first time, the second time", new int[] {x.keep(0), x.count(3), x.keep(0), x.keep(1), x.keep(1), x.count(3)}, 0, 1, 1, 0, 1, 2);
        OtherDoor y = new OtherDoor();
        e.row("with nothing in it", new int[] {y.keep(1), y.build(0, 1, 0), y.back(1), y.rule(2), y.back(0)}, 0, 0, 0, 0, STATE);
        OtherDoor z = Check.of(PAIR);
        z.keep(0);
        z.law(3);
        z.keep(0);
        z.law(1);
        e.row("the latest one", new int[] {z.back(0), z.rule(1)}, 2, 3);
        e.of(35, "BAD.");
        for (int k : new int[] {-1, 2, 32, MIN, MAX}) {
            e.refused("keep(" + k + ")", w -> w.keep(k), BAD);
        }
        e.refused("keep(2) of a new one", OtherDoor::new, w -> w.keep(2), BAD);
    }

    private void back() {
        e.of(36, "All is as IMAGE k: how many DOORS.");
        OtherDoor x = Twins.richAndFull();
        x.keep(0);
        e.row("eight doors less, then more", new int[] {x.back(1), x.rule(2), x.rule(1), x.count(2), x.back(0), x.rule(2), x.rule(1)}, 7, 7, 2, 4, 14, 14, 0);
        e.row("an image stays, however often", new int[] {x.back(1), x.back(1), x.count(3)}, 7, 7, 2);
        OtherDoor y = Check.of(PAIR);
        y.go(0, 0);
        y.keep(1);
        y.stand(0, 0);
        y.tell(1);
        y.wall(0, true);
        e.row("who, by which door, which walk, which wall", new int[] {y.back(1), y.one(0, 0), y.one(0, 1), y.count(2), y.door(0, 3)}, 2, 1, 0, 0, 0);
        OtherDoor v = Check.of(PAIR);
        v.tell(0);
        v.tell(1);
        v.keep(0);
        e.row("the doors of the walk, not only how many", new int[] {v.forget(), v.tell(1), v.tell(1), v.judge(0), v.back(0), v.judge(0)}, 2, 1, 2, 1, 2, NONE);
        OtherDoor z = Twins.rich();
        e.row("the tape, its fault and the sheets are no part of it", new int[] {z.back(0), z.count(4), z.fault(), z.count(5), z.torn()}, 6, 14, 3, 3, 3);
        e.of(36, "BAD; STATE: there is none.");
        for (int k : new int[] {-1, 2, 32, MIN, MAX}) {
            e.refused("back(" + k + ")", w -> w.back(k), BAD);
            e.refused("back(" + k + ") without images: BAD fits first", OtherDoor::new, w -> w.back(k), BAD);
        }
        for (int k = 0; k < 2; k++) {
            int asked = k;
            e.refused("back(" + k + ") of a new one", OtherDoor::new, w -> w.back(asked), STATE);
            e.refused("back(" + k + ") with the other image alone", () -> {
                OtherDoor w = Check.of(PAIR);
                w.keep(1 - asked);
                w.go(0, 1);
                return w;
            }, w -> w.back(asked), STATE);
        }
    }

    private void sheet() {
        e.of(37, "A SHEET is a new row of CELLS 0: 1.");
        OtherDoor x = Check.of(PAIR);
        e.row("no cell, forty cells", new int[] {x.sheet(0, 0, 0), x.count(5), x.lay(0, 0, 0), x.sheet(0, 2, 40), x.count(5), x.lay(0, 39, 0), x.lay(0, 40, 0)},
            1, 0, -12, 1, 40, 1, -12);
        e.row("each sheet by itself", new int[] {x.sheet(3, 1, 1), x.count(5), x.lay(3, 0, 1), x.lay(3, 1, 1), x.lay(2, 0, 1)}, 1, 40, 1, -12, -11);
        e.row("a new row has none of the old cells", new int[] {x.sheet(3, 1, 1), x.read(3, 1, 0, 0, 1), x.one(0, 1)}, 1, 1, 0);
        Twins.lay(x, 1, 0, 1, 1, 1);
        e.row("nor a longer one", new int[] {x.sheet(1, 0, 0), x.sheet(1, 0, 3), x.stand(0, 0), x.read(1, 0, 0, 2, 1), x.one(0, 1)}, 1, 1, 1, 1, 0);
        e.of(37, "BAD: also n above 40; -14 (SIZE): n below 0.");
        for (int k : NO_SHEET) {
            e.refused("sheet(" + k + ", 0, 1)", z -> z.sheet(k, 0, 1), BAD);
            e.refused("sheet(" + k + ", 0, -1): BAD fits first", z -> z.sheet(k, 0, -1), BAD);
        }
        for (int lane : NO_LANE) {
            e.refused("sheet(0, " + lane + ", 1)", z -> z.sheet(0, lane, 1), BAD);
            e.refused("sheet(0, " + lane + ", -1): BAD fits first", z -> z.sheet(0, lane, -1), BAD);
        }
        for (int n : new int[] {41, MAX}) {
            e.refused("sheet(1, 1, " + n + ")", z -> z.sheet(1, 1, n), BAD);
        }
        for (int n : new int[] {-1, MIN}) {
            e.refused("sheet(1, 2, " + n + ")", z -> z.sheet(1, 2, n), -14);
            e.refused("sheet(3, 0, " + n + ") of nothing", z -> z.sheet(3, 0, n), -14);
        }
    }

    private void lay() {
        e.of(38, "BAD: k; -10 less the FAULT: NULL, INDEX.");
        for (int k : NO_SHEET) {
            e.refused("lay(" + k + ", 0, 1)", z -> z.lay(k, 0, 1), BAD);
            e.refused("lay(" + k + ", -1, 1)", z -> z.lay(k, -1, 1), BAD);
        }
        for (int i : new int[] {-1, 0, 40, MIN, MAX}) {
            e.refused("lay(3, " + i + ", 1) of nothing", z -> z.lay(3, i, 1), -11);
            e.refused("lay(2, " + i + ", 1) of no cell", z -> z.lay(2, i, 1), -12);
        }
        for (int i : new int[] {-1, 3, 4, 39, 40, MIN, MAX}) {
            e.refused("lay(0, " + i + ", 1) of 3 cells", z -> z.lay(0, i, 1), -12);
        }
        OtherDoor x = new OtherDoor();
        x.sheet(1, 0, 40);
        e.row("of forty", new int[] {x.lay(1, 0, 1), x.lay(1, 39, 1), x.lay(1, 40, 1)}, 1, 1, -12);
        e.row("torn() is asked of read() alone", new int[] {x.lay(0, 0, 0), x.torn(), x.sheet(0, 0, -1), x.torn()}, -11, 0, -14, 0);
    }

    /** Which door is read of a cell into which a number was laid; -20 if it is none. */
    private static int doorLaid(int lane, int v) {
        OtherDoor x = Check.of("rooms 2;law 3;" + "door 0 1;".repeat(14) + "one 0;");
        Twins.lay(x, 0, lane, 0, v, 0);
        int made = x.read(0, lane, 0, 1, 1);
        return made == 1 ? x.one(0, 1) : made;
    }

    private void laneBits() {
        e.of(38, "CELL i of a SHEET becomes v (its lowest bits): 1.");
        e.row("bytes", new int[] {doorLaid(0, 13), doorLaid(0, 256), doorLaid(0, 0x10d), doorLaid(0, -256), doorLaid(0, 0x7fffff05), doorLaid(0, MIN)},
            13, 0, 13, 0, 5, 0);
        e.row("bytes that are no door", new int[] {doorLaid(0, 14), doorLaid(0, 127), doorLaid(0, 128), doorLaid(0, 255), doorLaid(0, -1), doorLaid(0, MAX)},
            -20, -20, -20, -20, -20, -20);
        e.row("shorts", new int[] {doorLaid(1, 13), doorLaid(1, 65536), doorLaid(1, 0x1000d), doorLaid(1, -65536), doorLaid(1, 0x7fff0005), doorLaid(1, MIN)},
            13, 0, 13, 0, 5, 0);
        e.row("shorts that are no door", new int[] {doorLaid(1, 256), doorLaid(1, 32768), doorLaid(1, 65535), doorLaid(1, -1), doorLaid(1, MAX)},
            -20, -20, -20, -20, -20);
        e.row("ints", new int[] {doorLaid(2, 13), doorLaid(2, 0), doorLaid(2, 256), doorLaid(2, 65536), doorLaid(2, MIN), doorLaid(2, MAX), doorLaid(2, -1)},
            13, 0, -20, -20, -20, -20, -20);
        OtherDoor x = Check.of(PAIR);
        x.sheet(2, 1, 2);
        e.row("that cell alone", new int[] {x.lay(2, 0, 1), x.lay(2, 1, 5), x.lay(2, 1, 0), x.read(2, 1, 0, 0, 2), x.one(0, 2), x.one(0, 1)}, 1, 1, 1, 2, 1, 0);
    }

    private void read() {
        e.of(39, "n (0 to 12) STEPS of a ONE (DOORS) are read of a SHEET taken as of a lane, from CELL f on, one behind another as by go(): how many he made.");
        OtherDoor x = Check.of(PAIR);
        int[] cells = new int[40];
        for (int i = 0; i < 40; i++) {
            cells[i] = i % 2;
        }
        Twins.lay(x, 3, 1, cells);
        e.row("twelve from the first cell", new int[] {x.read(3, 1, 0, 0, 12), x.one(0, 0), x.one(0, 1), x.one(0, 2), x.torn()}, 12, 0, 1, 0, 0);
        e.row("the last twelve", new int[] {x.read(3, 1, 0, 28, 12), x.one(0, 0), x.torn()}, 12, 0, 0);
        e.row("the last one", new int[] {x.read(3, 1, 1, 39, 1), x.one(1, 0), x.one(1, 1), x.torn()}, 1, 0, 1, 0);
        e.row("none", new int[] {x.read(3, 1, 1, 0, 0), x.one(1, 0), x.one(1, 1), x.torn()}, 0, 0, 1, 0);
        for (int lane = 0; lane < 3; lane++) {
            Twins.lay(x, lane, lane, 0, 1);
            x.stand(0, 1);
            e.row("lane " + lane, new int[] {x.read(lane, lane, 0, 0, 2), x.one(0, 0), x.one(0, 1)}, 2, 1, 1);
        }
    }

    private void readFaults() {
        e.of(39, "What the machine refuses: those ahead are made (its FAULT is asked by torn();");
        OtherDoor x = Check.of(PAIR);
        Twins.lay(x, 0, 0, 0, 1, 0);
        e.row("three of twelve", new int[] {x.read(0, 0, 0, 0, 12), x.torn(), x.one(0, 0), x.one(0, 1), x.one(0, 2)}, 3, 2, 1, 0, 1);
        e.row("one of two", new int[] {x.stand(0, 0), x.read(0, 0, 0, 2, 2), x.torn(), x.one(0, 0), x.one(0, 1)}, 1, 1, 2, 1, 0);
        for (int f : new int[] {-1, 3, 4, 40, MIN, MAX, MAX - 5}) {
            e.row("cell " + f, new int[] {x.read(0, 0, 1, f, 12), x.torn(), x.one(1, 0), x.one(1, 1)}, 0, 2, 1, NONE);
        }
        for (int lane = 1; lane < 3; lane++) {
            e.row("another lane", new int[] {x.read(0, lane, 1, 0, 1), x.torn(), x.read(0, lane, 1, -1, 1), x.torn(), x.one(1, 1)}, 0, 3, 0, 3, NONE);
        }
        for (int lane = 0; lane < 3; lane++) {
            e.row("nothing", new int[] {x.read(1, lane, 1, 0, 1), x.torn(), x.read(1, lane, 1, -1, 12), x.torn(), x.one(1, 1)}, 0, 1, 0, 1, NONE);
        }
        x.sheet(2, 2, 0);
        e.row("no cell", new int[] {x.read(2, 2, 1, 0, 1), x.torn(), x.read(2, 0, 1, 0, 1), x.torn()}, 0, 2, 0, 3);
        e.of(39, "of n 0: 0, no FAULT, whatever the SHEET is).");
        for (int f : new int[] {0, -1, 40, MIN, MAX}) {
            for (int k = 0; k < 4; k++) {
                x.read(1, 0, 1, 0, 1);
                e.row("read(" + k + ", 1, 1, " + f + ", 0)", new int[] {x.torn(), x.read(k, 1, 1, f, 0), x.torn(), x.one(1, 1)}, 1, 0, 0, NONE);
            }
        }
    }

    private void readBad() {
        e.of(39, "BAD: k, lane, n, p;");
        for (int n = 0; n < 2; n++) {
            int steps = n;
            for (int k : NO_SHEET) {
                e.refused("read(" + k + ", 0, 0, 0, " + n + ")", z -> z.read(k, 0, 0, 0, steps), BAD);
            }
            for (int lane : NO_LANE) {
                e.refused("read(0, " + lane + ", 0, 0, " + n + ")", z -> z.read(0, lane, 0, 0, steps), BAD);
                e.refused("read(3, " + lane + ", 0, 0, " + n + ") of nothing", z -> z.read(3, lane, 0, 0, steps), BAD);
            }
            for (int p : new int[] {-1, 3, 5, MIN, MAX}) {
                e.refused("read(0, 0, " + p + ", 0, " + n + ") of 3 people", z -> z.read(0, 0, p, 0, steps), BAD);
            }
        }
        for (int n : new int[] {-1, 13, MIN, MAX}) {
            e.refused("read(0, 0, 0, 0, " + n + ")", z -> z.read(0, 0, 0, 0, n), BAD);
            e.refused("read(3, 0, 0, 0, " + n + ") of nothing", z -> z.read(3, 0, 0, 0, n), BAD);
        }
        e.refused("of nobody", OtherDoor::new, z -> z.read(0, 0, 0, 0, 0), BAD);
    }

    /** One who has gone by door 0 and stands in room 1; twelve cells, of which one is told. */
    private static OtherDoor withCell(int i, int v) {
        OtherDoor x = Check.of("rooms 3;door 0 1;door 0 1;door 1 2;door 0 1;one 0;walled 3;");
        int[] cells = new int[12];
        for (int c = 0; c < 12; c++) {
            cells[c] = 1 - c % 2;
        }
        cells[i] = v;
        Twins.lay(x, 0, 1, cells);
        x.go(0, 0);
        x.read(2, 0, 0, 0, 1);
        x.keep(0);
        return x;
    }

    private void readRefused() {
        e.of(39, "-20 less i (0 on): STEP i is refused by go() (in whichever way): then none is made; the first met.");
        for (int i : new int[] {0, 1, 2, 10, 11}) {
            e.refused("no such door at " + i, () -> withCell(i, 4), z -> z.read(0, 1, 0, 0, 12), -20 - i);
            e.refused("a door below 0 at " + i, () -> withCell(i, -1), z -> z.read(0, 1, 0, 0, 12), -20 - i);
            e.refused("a walled door at " + i, () -> withCell(i, 3), z -> z.read(0, 1, 0, 0, 12), -20 - i);
            e.refused("the door he came in by at " + i, () -> withCell(i, i % 2), z -> z.read(0, 1, 0, 0, 12), -20 - i);
        }
        e.refused("a door of other rooms", () -> withCell(1, 2), z -> z.read(0, 1, 0, 0, 12), -21);
        e.refused("the first of two", () -> withCell(3, 9), z -> {
            z.lay(0, 5, 9);
            int answer = z.read(0, 1, 0, 0, 12);
            z.lay(0, 5, 0);
            return answer;
        }, -23);
        e.refused("ahead of what the machine refuses", () -> withCell(11, 9), z -> z.read(0, 1, 0, 11, 2), -20);
        e.row("behind what the machine refuses nothing is met", new int[] {withCell(0, 9).read(0, 1, 0, -1, 12), withCell(0, 9).read(0, 0, 0, 0, 12)}, 0, 0);
        e.row("ahead of it nothing is met, too", new int[] {withCell(11, 9).read(0, 1, 0, 0, 11), withCell(0, 9).read(0, 1, 0, 0, 0)}, 11, 0);
        e.due("told from CELL f on", withCell(7, 9).read(0, 1, 0, 2, 12), -25);
    }

    private void torn() {
        e.of(40, "The FAULT of the latest read() that answered 0 or more; 0 (one that is refused leaves it).");
        OtherDoor x = Check.of(PAIR);
        Twins.lay(x, 0, 0, 0, 9);
        e.row("at first", new int[] {x.torn(), x.torn()}, 0, 0);
        e.row("each fault", new int[] {x.read(1, 0, 0, 0, 1), x.torn(), x.read(0, 0, 0, 2, 1), x.torn(), x.read(0, 1, 0, 0, 1), x.torn()}, 0, 1, 0, 2, 0, 3);
        e.row("one that is BAD leaves it", new int[] {x.read(4, 0, 0, 0, 0), x.torn(), x.read(0, 0, 2, 0, 0), x.torn(), x.read(0, 0, 0, 0, 13), x.torn()},
            BAD, 3, BAD, 3, BAD, 3);
        e.row("one that go() refuses leaves it", new int[] {x.read(0, 0, 0, 1, 1), x.torn(), x.read(0, 0, 0, 0, 2), x.torn()}, -20, 3, -21, 3);
        e.row("none", new int[] {x.read(0, 0, 0, 0, 1), x.torn()}, 1, 0);
        e.row("one that is refused leaves 0, too", new int[] {x.read(0, 0, 0, 0, 1), x.torn()}, -20, 0);
        e.row("sheet() and lay() are no read()", new int[] {x.sheet(1, 1, -1), x.lay(2, 0, 0), x.lay(0, 2, 0), x.torn()}, -14, -11, -12, 0);
    }

    private void count() {
        e.of(41, "How many: 0 DOORS that are not WALLED UP, 1 PEOPLE who are LOST, 2 DOORS of the told walk, 3 IMAGES, 4 bytes on THE TAPE,"
            + " 5 CELLS of SHEET 0 (NONE: nothing).");
        OtherDoor x = Check.of("rooms 3;" + "door 0 1;".repeat(14) + "one 2;".repeat(5));
        for (int i = 0; i < 40; i++) {
            x.feed(0L);
            x.tell(13);
        }
        x.keep(0);
        x.keep(1);
        x.sheet(0, 0, 40);
        e.row("the most", new int[] {x.count(0), x.count(1), x.count(2), x.count(3), x.count(4), x.count(5)}, 14, 5, 12, 2, 320, 40);
        for (int d = 0; d < 14; d++) {
            x.wall(d, true);
        }
        x.stand(0, 0);
        e.row("all walled up", new int[] {x.count(0), x.count(1), x.wall(5, false), x.count(0), x.count(1)}, 0, 5, 1, 1, 4);
        OtherDoor y = new OtherDoor();
        e.row("the least", new int[] {y.count(0), y.count(1), y.count(2), y.count(3), y.count(4), y.count(5)}, 0, 0, 0, 0, 0, NONE);
        e.row("no cell is not nothing", new int[] {y.sheet(1, 0, 5), y.count(5), y.sheet(0, 0, 0), y.count(5)}, 1, NONE, 1, 0);
        e.of(41, "BAD.");
        for (int what : new int[] {-1, 6, MIN, MAX}) {
            e.refused("count(" + what + ")", z -> z.count(what), BAD);
        }
    }
}
