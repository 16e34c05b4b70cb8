/** Boundary cases of promises 28 to 30: a door more, a door walled up, the fewest by which nobody is lost. */
final class EdgeBuilders {
    private static final int BAD = OtherDoor.BAD, STATE = OtherDoor.STATE, NONE = OtherDoor.NONE;
    private static final int MIN = Integer.MIN_VALUE, MAX = Integer.MAX_VALUE;

    private final Edges e;

    EdgeBuilders(Edges edges) {
        e = edges;
    }

    void run() {
        more();
        worst();
        mend();
    }

    private static int[] mores(String text) {
        OtherDoor x = Check.of(text);
        return new int[] {x.more(0), x.more(1)};
    }

    private static int[] worsts(String text) {
        OtherDoor x = Check.of(text);
        return new int[] {x.worst(0), x.worst(1)};
    }

    private static int[] mends(String text) {
        OtherDoor x = Check.of(text);
        return new int[] {x.mend(0), x.mend(1), x.mend(2)};
    }

    private void more() {
        e.of(28, "The pair of ROOMS a below b between which a DOOR more of COLOUR 0 makes the most pairs() there can be,");
        e.row("a row and a room", mores("rooms 5;door 1 2;door 2 3;"), 1, 12);
        e.row("the last two rooms", mores("rooms 10;law 2;door 0 8 red;door 1 8 red;door 2 8 red;door 3 8 red;door 4 8 red;door 5 8 red;"
            + "door 6 8 red;door 7 8 red;"), 89, 34);
        e.row("colour 0 bars itself", mores("rooms 3;law 2;door 0 1;"), 2, 4);
        e.row("but not red", mores("rooms 3;law 2;door 0 1 red;"), 2, 6);
        e.of(28, "more than now, of several the first: 10 a and b (what 0), how many then (1).");
        e.row("without doors", mores("rooms 10;"), 1, 2);
        e.row("two rooms", mores("rooms 2;"), 1, 2);
        e.row("13 doors", mores("rooms 3;" + "door 0 1;".repeat(13)), 2, 6);
        e.row("only walled doors", mores("rooms 2;door 0 1;walled 0;"), 1, 2);
        for (int what = 0; what < 2; what++) {
            int asked = what;
            int told = Twins.rich().more(what);
            e.refused("more(" + what + ") builds nothing", () -> richWithLaw(2), x -> x.more(asked), richWithLaw(2).more(what));
            e.refused("more(" + what + ") builds nothing by law 0", x -> x.more(asked), told);
        }
        OtherDoor y = Check.of("rooms 2;law 2;door 0 1;one 0;");
        e.row("what was tried leaves no colour", new int[] {y.more(0), y.mend(0), y.build(0, 1, 1), y.go(0, 0), y.one(0, 3)}, NONE, NONE, 1, 1, 2);
        e.of(28, "BAD; STATE: there are 14 DOORS; NONE: none makes more.");
        for (int what : new int[] {-1, 2, 10, MIN, MAX}) {
            e.refused("more(" + what + ")", x -> x.more(what), BAD);
            e.refused("more(" + what + ") of 14 doors: BAD fits first", Twins::richAndFull, x -> x.more(what), BAD);
        }
        e.refused("14 doors", Twins::richAndFull, x -> x.more(0), STATE);
        e.refused("14 doors, how many", Twins::richAndFull, x -> x.more(1), STATE);
        e.row("14 doors, one of them walled up", mores("rooms 3;" + "door 0 1;".repeat(14) + "walled 2;"), STATE, STATE);
        e.row("14 doors, none would make more", mores("rooms 2;" + "door 0 1;".repeat(14)), STATE, STATE);
        e.row("all pairs have a way", mores("rooms 3;door 0 1;door 1 2;"), NONE, NONE);
        OtherDoor z = Check.of("rooms 2;");
        e.row("none any more", new int[] {z.more(0), z.build(0, 1, 0), z.more(0), z.more(1)}, 1, 0, NONE, NONE);
        e.row("13 doors, none makes more", mores("rooms 2;" + "door 0 1;".repeat(13)), NONE, NONE);
    }

    private static OtherDoor richWithLaw(int law) {
        OtherDoor x = Twins.rich();
        x.law(law);
        return x;
    }

    private void worst() {
        e.of(29, "The DOOR that, WALLED UP (it is not), leaves the fewest pairs(), of several the least (what 0), how many then (1).");
        e.row("the last of 14", worsts("rooms 3;" + "door 0 1;".repeat(13) + "door 1 2;"), 13, 2);
        e.row("all alike", worsts("rooms 2;" + "door 0 1;".repeat(14)), 0, 2);
        e.row("a walled door is none of them", worsts("rooms 2;door 0 1;door 0 1;walled 0;"), 1, 0);
        e.row("the only one", worsts("rooms 10;door 8 9;"), 0, 0);
        e.row("a door that changes nothing", worsts("rooms 3;door 0 1;door 1 2;door 2 0;"), 0, 6);
        for (int what = 0; what < 2; what++) {
            int asked = what;
            e.refused("worst(" + what + ") walls nothing up", x -> x.worst(asked), Twins.rich().worst(what));
        }
        e.of(29, "BAD; NONE: there is no such DOOR.");
        for (int what : new int[] {-1, 2, MIN, MAX}) {
            e.refused("worst(" + what + ")", x -> x.worst(what), BAD);
            e.refused("worst(" + what + ") without doors: BAD fits first", OtherDoor::new, x -> x.worst(what), BAD);
        }
        e.refused("worst(0) without doors", OtherDoor::new, x -> x.worst(0), NONE);
        e.refused("worst(1) without doors", OtherDoor::new, x -> x.worst(1), NONE);
        OtherDoor y = Check.of("rooms 2;door 0 1;");
        e.row("none any more", new int[] {y.worst(0), y.worst(1), y.wall(0, true), y.worst(0), y.worst(1)}, 0, 0, 0, NONE, NONE);
        e.row("all are walled up", worsts("rooms 2;door 0 1;door 0 1;walled 0;walled 1;"), NONE, NONE);
    }

    private void mend() {
        e.of(30, "The fewest DOORS more of COLOUR 0 (0 to 2) by which all is SAFE (what 0);");
        e.due("none", new OtherDoor().mend(0), 0);
        e.due("one", Check.of("rooms 2;door 0 1;").mend(0), 1);
        e.due("two", Check.of("rooms 2;law 1;door 0 1;").mend(0), 2);
        e.due("safe with 14 doors", Check.of("rooms 2;" + "door 0 1;".repeat(14)).mend(0), 0);
        e.row("colour 0 bars itself", mends("rooms 2;law 2;door 0 1;"), NONE, NONE, NONE);
        e.row("but not red", mends("rooms 2;law 2;door 0 1 red;"), 1, 1, NONE);
        e.of(30, "1 the first of these, 2 the second one, of several rows the first");
        e.row("two doors", mends("rooms 6;door 0 1;door 2 3;"), 2, 1, 23);
        e.row("the first row of several", mends("rooms 4;law 1;door 0 1;door 0 1;"), 1, 1, NONE);
        e.of(30, "(each 10 a and b, a below b; the second one no less than the first; NONE: not so many).");
        e.row("the last two rooms", mends("rooms 10;door 8 9;"), 1, 89, NONE);
        e.row("the first room alone is lost, no door to itself helps", mends("rooms 3;door 0 1;door 1 2;door 1 2;"), 1, 1, NONE);
        e.row("two among the last rooms", mends("rooms 10;door 5 6;door 7 8;"), 2, 56, 78);
        e.row("round by room 0", mends("rooms 10;law 1;door 9 8;"), 2, 8, 9);
        e.row("the second one is as the first", mends("rooms 2;law 1;door 0 1;"), 2, 1, 1);
        e.row("none is needed", mends("rooms 2;"), 0, NONE, NONE);
        for (int what = 0; what < 3; what++) {
            int asked = what;
            e.refused("mend(" + what + ") builds nothing", x -> x.mend(asked), Twins.rich().mend(what));
        }
        e.of(30, "BAD; NONE: two, or as many as there is room for, are not enough.");
        for (int what : new int[] {-1, 3, MIN, MAX}) {
            e.refused("mend(" + what + ")", x -> x.mend(what), BAD);
            e.refused("mend(" + what + ") of 14 doors", Twins::richAndFull, x -> x.mend(what), BAD);
        }
        e.row("three would be needed", mends("rooms 6;door 0 1;door 2 3;door 4 5;"), NONE, NONE, NONE);
        e.row("no room for one", mends("rooms 4;" + "door 0 1;".repeat(13) + "door 2 3;"), NONE, NONE, NONE);
        e.row("room for one", mends("rooms 4;" + "door 0 1;".repeat(12) + "door 2 3;"), 1, 23, NONE);
        e.row("room for one of two", mends("rooms 6;" + "door 0 1;".repeat(11) + "door 2 3;door 4 5;"), NONE, NONE, NONE);
        e.row("room for two", mends("rooms 6;" + "door 0 1;".repeat(10) + "door 2 3;door 4 5;"), 2, 23, 45);
        e.row("walled doors take room", mends("rooms 2;" + "door 0 1;".repeat(14) + wallAllBut(13)), NONE, NONE, NONE);
        e.refused("by law 2 of 14 doors", () -> {
            OtherDoor x = Check.of("rooms 2;law 2;" + "door 0 1;".repeat(14) + "one 0;");
            x.keep(0);
            return x;
        }, x -> x.mend(0), NONE);
    }

    private static String wallAllBut(int door) {
        String all = "";
        for (int d = 0; d < 14; d++) {
            all += d == door ? "" : "walled " + d + ";";
        }
        return all;
    }
}
