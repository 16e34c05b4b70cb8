/** Boundary cases of the terms that hold for all calls: answers, bounds, steps, ways, two who walk, sheets. */
final class EdgeTerms {
    private static final int BAD = OtherDoor.BAD, STATE = OtherDoor.STATE, FULL = OtherDoor.FULL, NONE = OtherDoor.NONE;
    private static final int MIN = Integer.MIN_VALUE, MAX = Integer.MAX_VALUE;

    private final Edges e;

    EdgeTerms(Edges edges) {
        e = edges;
    }

    void run() {
        answers();
        firstThatFits();
        changesNothing();
        numbers();
        bounds();
        laws();
        ways();
        safety();
        roundsAndTours();
        minutes();
        ajarAndSheets();
        manyCalls();
    }

    private void answers() {
        e.of("Terms", "Answers: BAD -1 (a number is not as told, there is no such ROOM, DOOR, ONE, IMAGE, SHEET),");
        OtherDoor x = Twins.rich();
        e.row("BAD", new int[] {BAD, x.rule(4), x.doors(6), x.door(8, 0), x.one(3, 0), x.back(2), x.lay(4, 0, 0)}, -1, -1, -1, -1, -1, -1, -1);
        e.of("Terms", "STATE -2 (as told), FULL -3, NONE -4 (there is none),");
        OtherDoor y = Twins.richAndFull();
        e.row("STATE, FULL, NONE", new int[] {STATE, y.more(0), FULL, y.build(0, 1, 0), NONE, y.go(0, 4)}, -2, -2, -3, -3, -4, -4);
        e.row("NONE", new int[] {x.one(1, 2), x.far(2, 0), new OtherDoor().worst(0)}, -4, -4, -4);
    }

    private void firstThatFits() {
        e.of("Terms", "the first that fits;");
        OtherDoor x = Twins.richAndFull();
        for (int i = x.count(2); i < 12; i++) {
            x.tell(0);
        }
        x.law(1);
        e.row("BAD ahead of STATE", new int[] {x.tour(6, 0), x.talk(1, 1, 1), x.talk(0, 1, 6), x.cup(2, 2, 0), x.cup(0, 1, 6), x.more(2), x.trap(1, 4)},
            BAD, BAD, BAD, BAD, BAD, BAD, BAD);
        e.row("BAD ahead of FULL", new int[] {x.build(3, 3, 0), x.build(0, 1, 4), x.tell(14), x.tell(-1)}, BAD, BAD, BAD, BAD);
        e.row("BAD ahead of NONE", new int[] {x.way(2, 0, -1), x.go(0, 14), x.ajar(0, 1, 2, 16), x.tour(0, 18), x.worst(2), x.mend(3)},
            BAD, BAD, BAD, BAD, BAD, BAD);
        e.row("STATE ahead of NONE", new int[] {x.tour(0, 17), x.talk(0, 2, 5), x.cup(2, 0, 0), x.more(0)}, STATE, STATE, STATE, STATE);
        e.row("BAD ahead of a FAULT", new int[] {x.sheet(0, 3, -1), x.sheet(4, 0, -1), x.lay(4, -1, 0), x.read(3, 3, 0, -1, 1), x.read(3, 0, 3, -1, 1)},
            BAD, BAD, BAD, BAD, BAD);
    }

    private void changesNothing() {
        e.of("Terms", "what is refused changes nothing (but THE TAPE, as told).");
        e.refused("one refusal behind another", EdgeTerms::askWhatIsRefused, 0);
        e.refused("one refusal behind another, with 14 doors", Twins::richAndFull, EdgeTerms::askWhatIsRefused, 0);
        e.refused("one refusal behind another, of a new one", OtherDoor::new, EdgeTerms::askWhatIsRefused, 0);
        OtherDoor x = Twins.rich();
        Check.put(x, "?");
        e.row("but the tape", new int[] {x.count(4), x.palace(), x.fault(), x.count(4), x.rule(0), x.count(3)}, 15, -24, 1, 0, 6, 2);
    }

    /** How many of the calls that must be refused were not. */
    private static int askWhatIsRefused(OtherDoor x) {
        int wrong = 0;
        int[] answers = {x.end(-1), x.end(321), x.rule(9), x.door(14, 0), x.door(0, 4), x.one(5, 0), x.one(0, 4), x.doors(10), x.law(4), x.law(-1),
            x.build(0, 0, 0), x.build(0, 10, 0), x.build(0, 1, 4), x.wall(14, true), x.wall(-1, false), x.stand(5, 0), x.stand(0, 10), x.go(5, 0),
            x.go(0, 14), x.go(0, -1), x.far(5, 0), x.far(0, 10), x.way(0, 0, -1), x.can(5), x.path(10, 0), x.path(0, 10), x.trap(10, 0), x.trap(0, 14),
            x.round(5, 0), x.round(0, -1), x.round(0, 1023), x.tour(10, 0), x.tour(0, 18), x.talk(0, 0, 1), x.talk(0, 1, 6), x.cup(0, 0, 0),
            x.cup(0, 1, 10), x.more(2), x.worst(2), x.mend(3), x.tell(14), x.judge(10), x.ajar(0, 7, 0, 0), x.ajar(0, 0, 1 << 14, 0), x.ajar(0, 0, 0, 16),
            x.keep(2), x.back(2), x.sheet(4, 0, 1), x.sheet(0, 3, 1), x.sheet(0, 0, 41), x.sheet(0, 0, -1), x.lay(4, 0, 0), x.lay(0, 40, 0), x.lay(0, -1, 0),
            x.read(4, 0, 0, 0, 1), x.read(0, 3, 0, 0, 1), x.read(0, 0, 5, 0, 1), x.read(0, 0, 0, 0, 13), x.count(6)};
        for (int answer : answers) {
            wrong += answer < 0 ? 0 : 1;
        }
        return wrong;
    }

    private void numbers() {
        e.of("Terms", "What is numbered has its numbers from 0 on, as it comes, where nothing else is told.");
        OtherDoor x = Check.of("one 3;door 1 0;one 2;door 3 2 red;");
        e.row("doors and people", new int[] {x.door(0, 0), x.door(1, 0), x.one(0, 0), x.one(1, 0)}, 1, 3, 3, 2);
        e.row("a door more", new int[] {x.build(2, 0, 3), x.door(2, 0), x.door(2, 2), x.door(3, 0)}, 2, 2, 3, BAD);
        e.row("none below 0", new int[] {x.door(-1, 0), x.one(-1, 0), x.doors(-1), x.keep(-1), x.sheet(-1, 0, 0), x.rule(-1), x.count(-1)},
            BAD, BAD, BAD, BAD, BAD, BAD, BAD);
    }

    private void bounds() {
        e.of("Terms", "ROOMS 0 on (2 to 10; 4).");
        for (int rooms = 2; rooms <= 10; rooms++) {
            OtherDoor x = Check.of("rooms " + rooms + ";one 0;");
            e.row(rooms + " rooms", new int[] {x.rule(0), x.doors(rooms - 1), x.doors(rooms), x.stand(0, rooms), x.stand(0, rooms - 1), x.secret()},
                rooms, 0, BAD, BAD, 0, (1 << rooms) - 1);
        }
        e.due("at first", new OtherDoor().rule(0), 4);
        e.due("not told", Check.of("law 1;").rule(0), 4);
        e.of("Terms", "DOORS (14 at most), by order, each between two unlike ROOMS, of a COLOUR (0 to 3), WALLED UP or not.");
        OtherDoor y = new OtherDoor();
        for (int d = 0; d < 14; d++) {
            e.due("build " + d, y.build(d % 3, 3, d % 4), d);
        }
        e.row("the 15th, alike, a colour more", new int[] {y.build(0, 3, 0), y.build(1, 1, 0), y.build(0, 3, 4), y.build(0, 3, -1)}, FULL, BAD, BAD, BAD);
        e.row("by order", new int[] {y.doors(0), y.doors(1), y.doors(2), y.doors(3)}, 0x1249, 0x2492, 0x924, 0x3fff);
        e.row("walled up or not", new int[] {y.door(13, 3), y.wall(13, true), y.door(13, 3), y.doors(1), y.wall(13, false), y.door(13, 3)},
            0, 0, 1, 0x492, 1, 0);
        e.of("Terms", "PEOPLE (5 at most), each a ONE: a ROOM, and the DOOR by which he came in, none at first, and the one ahead of that, none at first.");
        OtherDoor z = Check.of("door 0 1;door 1 2;" + "one 0;".repeat(5));
        for (int p = 0; p < 5; p++) {
            e.row("one " + p, new int[] {z.one(p, 0), z.one(p, 1), z.one(p, 2)}, 0, NONE, NONE);
        }
        e.row("the sixth", new int[] {z.one(5, 0), Check.tell(z, "one 0;".repeat(6)), z.rule(3)}, BAD, -40, 5);
        e.row("each by himself", new int[] {z.go(4, 0), z.go(4, 1), z.one(4, 1), z.one(4, 2), z.one(3, 1), z.one(3, 2)}, 1, 2, 1, 0, NONE, NONE);
        e.of("Terms", "LAW (0 to 3; 0).");
        OtherDoor w = new OtherDoor();
        e.row("law", new int[] {w.rule(1), w.law(3), w.law(4), w.law(-1), w.rule(1), Check.tell(w, "law 3;"), w.rule(1), Check.tell(w, "law 4;"), w.rule(1)},
            0, 0, BAD, BAD, 3, 1, 3, -14, 3);
        e.due("not told", Check.of("rooms 2;").rule(1), 0);
    }

    /** Behind doors 0 and 1, both of colour 0, in the room that he began in; of four doors, the last one red. */
    private static OtherDoor walked(int steps, int law) {
        OtherDoor x = Check.of("rooms 3;law 3;door 0 1;door 0 1;door 0 1;door 0 1 red;door 1 2;one 0;");
        for (int i = 0; i < steps; i++) {
            x.go(0, i);
        }
        x.law(law);
        return x;
    }

    private void laws() {
        e.of("Terms", "A STEP is through a DOOR of one's ROOM that is not WALLED UP and that the LAW lets one through.");
        OtherDoor x = walked(0, 3);
        e.row("another room's door, a walled door", new int[] {x.go(0, 4), x.wall(0, true), x.go(0, 0), x.go(0, 1), x.go(0, 4)}, NONE, 0, NONE, 1, 2);
        e.of("Terms", "LAW 0: not the one he came in by;");
        e.row("law 0", new int[] {walked(0, 0).one(0, 3), walked(1, 0).one(0, 3), walked(2, 0).one(0, 3)}, 15, 30, 13);
        e.of("Terms", "1: not that, nor the one ahead of it;");
        e.row("law 1", new int[] {walked(0, 1).one(0, 3), walked(1, 1).one(0, 3), walked(2, 1).one(0, 3), walked(3, 1).one(0, 3)}, 15, 30, 12, 25);
        e.of("Terms", "2: none of the COLOUR (0, too) of the one he came in by;");
        e.row("law 2", new int[] {walked(0, 2).one(0, 3), walked(1, 2).one(0, 3), walked(2, 2).one(0, 3), walked(4, 2).one(0, 3)}, 15, 8, 8, 7);
        e.of("Terms", "3: any.");
        e.row("law 3", new int[] {walked(0, 3).one(0, 3), walked(1, 3).one(0, 3), walked(2, 3).one(0, 3)}, 15, 31, 15);
        e.of("Terms", "(Who came in by none may take any.)");
        for (int law = 0; law < 4; law++) {
            OtherDoor y = walked(2, law);
            e.row("NEW by law " + law, new int[] {y.stand(0, 0), y.one(0, 3), y.stand(0, 1), y.one(0, 3), y.stand(0, 2), y.one(0, 3)}, 0, 15, 0, 31, 1, 16);
        }
    }

    private void ways() {
        e.of("Terms", "A WAY is a row of STEPS; its length how many.");
        OtherDoor x = Check.of("rooms 4;law 2;door 0 1 red;door 1 2 red;door 1 3;door 3 1 blue;one 0;");
        e.row("by doors, not by rooms", new int[] {x.far(0, 1), x.far(0, 2), x.law(3), x.far(0, 2)}, 1, 4, 2, 2);
        e.of("Terms", "NEW: who came in by none.");
        OtherDoor y = Check.of("rooms 2;door 0 1;one 0;");
        e.row("not any more", new int[] {y.go(0, 0), y.far(0, 0), y.path(1, 0), y.stand(0, 1), y.far(0, 0)}, 1, NONE, 1, 1, 1);
        e.of("Terms", "THE WAY to a ROOM: the least length, of several the first by DOORS.");
        OtherDoor z = Check.of("rooms 5;door 1 4;door 0 2;door 0 1;door 2 4;door 0 3;door 3 4;one 0;");
        e.row("of three the first by its first door", new int[] {z.far(0, 4), z.way(0, 4, 0), z.way(0, 4, 1)}, 2, 1, 3);
        z.build(4, 2, 0);
        e.row("of two doors at its end the first", new int[] {z.way(0, 4, 0), z.way(0, 4, 1)}, 1, 3);
        z.wall(3, true);
        e.row("the second one", new int[] {z.way(0, 4, 0), z.way(0, 4, 1)}, 1, 6);
        z.build(0, 4, 0);
        e.row("the least length comes first", new int[] {z.far(0, 4), z.way(0, 4, 0)}, 1, 7);
        e.of("Terms", "(To one's own ROOM: 0.)");
        e.row("NEW, or come in, or lost", new int[] {z.far(0, 0), z.go(0, 1), z.far(0, 2), z.path(3, 3), Check.of("one 0;").far(0, 0)}, 0, 2, 0, 0, 0);
    }

    private void safety() {
        e.of("Terms", "LOST: who can make no STEP.");
        OtherDoor x = Check.of("rooms 3;door 0 1;one 0;one 2;");
        e.row("without doors, in a dead end", new int[] {x.count(1), x.go(0, 0), x.count(1), x.law(3), x.count(1), x.wall(0, true), x.count(1)}, 1, 1, 2, 0, 1, 0, 2);
        e.of("Terms", "A ROOM is FOR LIFE by a DOOR, if who comes in by it (NEW ahead of that) is LOST there.");
        OtherDoor y = Check.of("rooms 3;law 1;door 0 1;door 0 1;door 1 2;");
        e.row("NEW ahead of that", new int[] {y.trap(0, 0), y.trap(0, 1), y.trap(2, 2), y.life(), y.safe()}, 0, 0, 1, 4, 0);
        e.of("Terms", "SAFE: whoever is NEW in whatever ROOM, by no WAY of one STEP or more he is LOST.");
        e.due("by no step he is lost, but that does not count", Check.of("rooms 2;one 0;").safe(), 1);
        e.due("by one step", Check.of("rooms 2;door 0 1;").safe(), 0);
        e.due("by two steps", Check.of("rooms 2;law 1;door 0 1;door 0 1;").safe(), 0);
        e.due("in the last room", Check.of("rooms 10;door 0 1;door 0 1;door 1 9;").safe(), 0);
        e.due("in the first room", Check.of("rooms 3;door 0 1;door 1 2;door 1 2;").safe(), 0);
        OtherDoor z = Check.of("rooms 2;door 0 1;door 0 1;one 0;");
        z.go(0, 0);
        z.wall(1, true);
        e.row("nobody need be there", new int[] {z.safe(), z.wall(0, true), z.count(1), z.safe()}, 0, 0, 1, 1);
    }

    private void roundsAndTours() {
        e.of("Terms", "A ROUND of a ONE by some ROOMS: the least length of a WAY of his on which he is in each of them (where he is at first counts)"
            + " and back in his ROOM at the end;");
        OtherDoor x = Check.of("rooms 4;door 0 1;door 1 2;door 2 0;door 0 3;door 3 0;one 0;");
        e.row("his own room, a ring, two rings", new int[] {x.round(0, 0), x.round(0, 1), x.round(0, 7), x.round(0, 6), x.round(0, 8), x.round(0, 15)},
            0, 0, 3, 3, 2, 5);
        e.of("Terms", "LAST and so on as they are.");
        OtherDoor y = Check.of("rooms 2;law 1;door 0 1;door 0 1;door 0 1;one 0;");
        e.row("NEW", new int[] {y.round(0, 2), y.wall(2, true), y.round(0, 2), y.go(0, 0), y.round(0, 1)}, 2, 0, 2, 1, NONE);
        OtherDoor w = Check.of("rooms 2;door 0 1;door 0 1;one 0;");
        e.row("come in", new int[] {w.go(0, 0), w.round(0, 1), w.wall(1, true), w.round(0, 1), w.stand(0, 1), w.round(0, 1)}, 1, 2, 0, NONE, 1, NONE);
        OtherDoor v = Check.of("rooms 3;law 1;door 0 1;door 0 1;door 1 2;door 1 2;one 0;");
        e.row("by law 1 the one ahead, too", new int[] {v.go(0, 0), v.go(0, 1), v.round(0, 2), v.round(0, 1), v.law(0), v.round(0, 2)}, 1, 0, NONE, 0, 1, 2);
        e.of("Terms", "A TOUR of a NEW one from a ROOM: a WAY through each DOOR that is not WALLED UP just once (without any such DOOR one, of no STEP).");
        OtherDoor z = Check.of("rooms 3;door 0 1;door 1 2;door 2 0;walled 0;walled 1;walled 2;");
        e.row("all walled up", new int[] {z.tour(0, 0), z.tour(2, 0), z.tour(0, 10)}, 1, 1, NONE);
        e.row("one door", new int[] {z.wall(0, false), z.tour(0, 0), z.tour(1, 0), z.tour(2, 0), z.tour(0, 10), z.tour(0, 11)}, 1, 1, 1, 0, 0, NONE);
        z.wall(1, false);
        e.row("law 2 bars the second one", new int[] {z.tour(0, 0), z.law(2), z.tour(0, 0), z.law(1), z.tour(0, 0), z.law(3), z.tour(1, 0)}, 1, 0, 0, 2, 1, 1, 0);
    }

    private void minutes() {
        e.of("Terms", "MINUTE by MINUTE all must make a STEP (who is LOST stays).");
        OtherDoor x = Check.of("rooms 3;law 3;door 0 1;one 0;one 1;one 2;one 2;");
        e.row("they may not wait", new int[] {x.talk(0, 1, 1), x.talk(2, 3, 5), x.talk(0, 2, 1), x.cup(0, 2, 1), x.cup(0, 1, 2)}, NONE, 4, NONE, 1, NONE);
        e.of("Terms", "A TALK of two ONES for k MINUTES: the fewest MINUTES behind which they have been in one ROOM at k ends of MINUTES one behind another"
            + " (MINUTE 0 counts as the first end).");
        OtherDoor y = Check.of("rooms 3;law 3;door 0 1;door 1 2;one 0;one 2;one 1;one 1;");
        e.row("the first end", new int[] {y.talk(2, 3, 1), y.talk(2, 3, 2), y.talk(2, 3, 5)}, 0, 1, 4);
        e.row("they meet behind a minute", new int[] {y.talk(0, 1, 1), y.talk(0, 1, 2), y.talk(0, 1, 5)}, 1, 2, 5);
        y.law(2);
        e.row("and part for ever", new int[] {y.talk(0, 1, 1), y.talk(2, 3, 3), Check.of("rooms 3;law 2;door 0 1;door 1 2 red;one 0;one 2;").talk(0, 1, 2)}, 1, 2, NONE);
        OtherDoor r = Check.of("rooms 5;door 0 1;door 1 2;door 2 3;door 3 4;one 0;one 4;");
        e.row("apart at first, and behind a minute", new int[] {r.talk(0, 1, 1), r.talk(0, 1, 2), r.law(3), r.talk(0, 1, 1), r.talk(0, 1, 2), r.talk(0, 1, 5)},
            2, NONE, 0, 2, 3, 6);
        OtherDoor s = Check.of("rooms 3;door 0 1;door 1 2;door 2 0;one 1;one 2;");
        e.row("ends that are not one behind another", new int[] {s.go(0, 0), s.go(1, 2), s.talk(0, 1, 1), s.talk(0, 1, 2), s.talk(1, 0, 5)}, 0, 0, 0, NONE, NONE);
        e.of("Terms", "A CUP that a ONE has comes to a ROOM: the fewest MINUTES behind which somebody of two who has it is there;");
        OtherDoor z = Check.of("rooms 4;door 0 1;door 1 2;door 2 3;one 2;one 0;");
        e.row("he himself", new int[] {z.cup(0, 1, 2), z.cup(0, 1, 3), z.cup(0, 1, 0)}, 0, 1, 2);
        e.row("who has it not does not count", new int[] {z.cup(1, 0, 2), z.cup(1, 0, 3)}, 2, 3);
        e.of("Terms", "at the end of a MINUTE (0, too) one may hand it to the other one, if both are in one ROOM.");
        z.go(0, 1);
        e.row("apart he can not", new int[] {z.far(0, 3), z.cup(0, 1, 3)}, NONE, NONE);
        z.go(1, 0);
        e.row("at minute 0", new int[] {z.one(0, 0), z.one(1, 0), z.cup(0, 1, 3), z.cup(0, 1, 2), z.cup(1, 0, 0)}, 1, 1, 2, 1, 1);
        OtherDoor w = Check.of("rooms 4;law 2;door 0 1 red;door 2 1;door 1 3 red;one 0;one 2;");
        e.row("at minute 1", new int[] {w.far(0, 3), w.cup(0, 1, 3), w.stand(1, 3), w.cup(0, 1, 3)}, NONE, 2, 2, NONE);
    }

    private void ajarAndSheets() {
        e.of("Terms", "AJAR: DOORS through which somebody went who was NEW in a ROOM, all of them, no others (bits).");
        OtherDoor x = Check.of("rooms 3;door 0 1;door 1 2;door 2 0;door 0 1;");
        e.row("no door, all doors", new int[] {x.ajar(0, 0, 0, 0), x.ajar(0, 4, 15, 0), x.ajar(0, 3, 15, 0), x.ajar(0, 4, 7, 0), x.ajar(2, 4, 15, 0)}, 1, 6, 0, 2, 0);
        e.of("Terms", "SHEETS 0 to 3 are rows of BYTES (lane 0), SHORTS (1), INTS (2), all with a sign, with 0 to 40 CELLS, or nothing (at first).");
        OtherDoor y = Check.of("door 0 1;one 0;");
        for (int k = 0; k < 4; k++) {
            for (int lane = 0; lane < 3; lane++) {
                e.row("sheet " + k + ", lane " + lane, new int[] {lane == 0 ? y.lay(k, 0, 0) : -11, y.sheet(k, lane, 0), y.lay(k, 0, 0), y.sheet(k, lane, 40),
                    y.lay(k, 39, 0), y.lay(k, 40, 0), y.sheet(k, lane, 41), y.sheet(k, lane, -1)}, -11, 1, -12, 1, 1, -12, BAD, -14);
            }
        }
        e.row("a fifth sheet, a fourth lane", new int[] {y.sheet(4, 0, 1), y.sheet(-1, 0, 1), y.sheet(0, 3, 1), y.sheet(0, -1, 1)}, BAD, BAD, BAD, BAD);
        int[] signs = {0x80, 0x8000, MIN};
        for (int lane = 0; lane < 3; lane++) {
            y.sheet(0, lane, 1);
            y.lay(0, 0, signs[lane]);
            e.row("a sign in lane " + lane, new int[] {y.read(0, lane, 0, 0, 1), y.lay(0, 0, signs[lane] << 1), y.read(0, lane, 0, 0, 1), y.stand(0, 0)}, -20, 1, 1, 1);
        }
        e.of("Terms", "A FAULT is what the machine finds: 1 NULL (nothing), 2 INDEX, 3 CAST (another lane), 4 SIZE (below 0).");
        OtherDoor z = Check.of("door 0 1;one 0;");
        z.sheet(1, 1, 1);
        e.row("NULL", new int[] {z.lay(0, 0, 0), z.read(0, 0, 0, 0, 1), z.torn()}, -11, 0, 1);
        e.row("INDEX", new int[] {z.lay(1, 1, 0), z.lay(1, -1, 0), z.read(1, 1, 0, 1, 1), z.torn(), z.read(1, 1, 0, -1, 1), z.torn()}, -12, -12, 0, 2, 0, 2);
        e.row("CAST", new int[] {z.read(1, 0, 0, 0, 1), z.torn(), z.read(1, 2, 0, 0, 1), z.torn()}, 0, 3, 0, 3);
        e.row("SIZE", new int[] {z.sheet(1, 1, -1), z.sheet(1, 1, MIN), z.sheet(1, 1, MAX), z.lay(1, 0, 0)}, -14, -14, BAD, 1);
    }

    private void manyCalls() {
        e.of("What it is", "An object is used for at most 512 calls after it has been made;");
        OtherDoor x = new OtherDoor();
        for (int call = 1; call <= 512; call++) {
            e.due("call " + call, x.law(call & 3), call - 1 & 3);
        }
        OtherDoor y = new OtherDoor();
        for (int call = 1; call <= 512; call++) {
            boolean feeds = call % 41 != 0;
            e.due("call " + call, feeds ? y.feed(0x2020202020202020L) : y.palace(), feeds ? 8 * (call % 41) : 0);
        }
        e.of("Not promised", "Nothing is promised beyond the answers and state changes described above,");
        e.refused("what is asked changes nothing", EdgeTerms::askAll, askAll(Twins.rich()));
        e.refused("what is asked changes nothing, with 14 doors", Twins::richAndFull, EdgeTerms::askAll, askAll(Twins.richAndFull()));
    }

    /** All that only asks, with good arguments. */
    private static int askAll(OtherDoor x) {
        int sum = x.fault() + x.torn() + x.pairs() + x.life() + x.secret() + x.safe();
        for (int i = 0; i < 3; i++) {
            sum += x.rule(i) + x.door(i, i) + x.one(i, 3) + x.doors(i) + x.far(i, 4) + x.way(i, 4, 0) + x.can(i) + x.path(i, 4) + x.trap(i, i);
            sum += x.round(i, 21) + x.tour(i, 0) + x.tour(i, 10) + x.talk(i, (i + 1) % 3, 2) + x.cup(i, (i + 1) % 3, 4) + x.mend(i) + x.judge(i);
            sum += x.ajar(i, 3, 7, 0) + x.ajar(i, 2, 3, 1) + x.ajar(i, 2, 3, 10) + x.count(i) + x.count(i + 3);
        }
        return sum + x.more(0) + x.more(1) + x.worst(0) + x.worst(1);
    }
}
