/** Edges of DOORS, NOTES, STREETS and SONGS of THE TOWN: promises 6 to 11. */
final class EdgesOfTown {
    private static final int UNKNOWN = -1, OUTSIDE = -2, STATE = -3, NONE = -9;
    private static final int TERMS = Sentences.TERMS;

    private EdgesOfTown() {
    }

    static void run() {
        doorNumbers();
        noteOfDoor();
        noteLet();
        streets();
        roads();
        roadsRefused();
        walkBehindRoad();
        signs();
        signsBehindEnd();
        springs();
    }

    private static void doorNumbers() {
        Sentences.begin(TERMS, "DOORS are 0 to 11");
        TuneToEachHouse x = Check.townOf(Towns.doors(12));
        for (int door = 0; door <= 11; door++) {
            Check.due("note(" + door + ")", x.note(door), door % 7);
            Check.due("street(" + door + ", 11)", x.street(door, 11), 0);
        }
        for (int door : Towns.outside(0, 11)) {
            Check.due("note(" + door + ")", x.note(door), UNKNOWN);
        }
    }

    private static void noteOfDoor() {
        Sentences.begin(6, "The NOTE of a DOOR.");
        TuneToEachHouse x = Check.townOf("Dgfedcba");
        for (int door = 0; door < 7; door++) {
            Check.due("note(" + door + ")", x.note(door), 6 - door);
        }
        x.let(6, 7);
        Check.due("note(6), still", x.note(6), 7);

        Sentences.begin(6, "UNKNOWN.");
        for (int doors = 1; doors <= 12; doors++) {
            TuneToEachHouse y = Check.townOf(Towns.doors(doors));
            Check.due("note of the last of doors " + doors, y.note(doors - 1), (doors - 1) % 7);
            for (int door : Towns.outside(0, doors - 1)) {
                Check.due("note(" + door + ") of doors " + doors, y.note(door), UNKNOWN);
            }
        }
        TuneToEachHouse z = Check.townOf(Towns.doors(12));
        Check.write(z, "Dab");
        Check.due("town() of fewer", z.town(), 2);
        Check.due("note(1)", z.note(1), 1);
        Check.due("note(2), a door that was", z.note(2), UNKNOWN);
        Check.due("note(11), a door that was", z.note(11), UNKNOWN);
    }

    private static void noteLet() {
        Sentences.begin(7, "A DOOR has another NOTE (7: STILL): what it had.");
        TuneToEachHouse x = Check.townOf("Dgc");
        int had = 6;
        for (int note = 0; note <= 7; note++) {
            Check.due("let(0, " + note + ")", x.let(0, note), had);
            Check.due("note(0)", x.note(0), note);
            Check.due("note(1), the other one", x.note(1), 2);
            had = note;
        }
        Check.due("let(0, 7), as it is", x.let(0, 7), 7);

        Sentences.begin(TERMS, "a DOOR that is STILL has 7.");
        Check.due("note(0)", x.note(0), 7);
        Check.due("still doors", x.count(6), 1);
        Check.due("let(1, 6)", x.let(1, 6), 2);
        Check.due("still doors, 6 is none", x.count(6), 1);

        Sentences.begin(7, "UNKNOWN");
        for (int doors : new int[] {1, 2, 11, 12}) {
            TuneToEachHouse y = Check.townOf(Towns.doors(doors));
            Check.due("let of the last of doors " + doors, y.let(doors - 1, 7), (doors - 1) % 7);
            for (int door : Towns.outside(0, doors - 1)) {
                Check.due("let(" + door + ", 7) of doors " + doors, y.let(door, 7), UNKNOWN);
            }
            Check.due("still doors", y.count(6), 1);
        }

        Sentences.begin(7, "OUTSIDE");
        for (int note : Towns.outside(0, 7)) {
            TuneToEachHouse y = Check.townOf("Dgc");
            Check.due("let(1, " + note + ")", y.let(1, note), OUTSIDE);
            Check.due("note(1) then", y.note(1), 2);
        }
    }

    private static void streets() {
        Sentences.begin(8, "Whether there is a STREET between two DOORS: 1, 0.");
        TuneToEachHouse x = Check.townOf(Towns.doors(12) + "W0bW12");
        for (int one = 0; one < 12; one++) {
            for (int other = 0; other < 12; other++) {
                boolean is = one + other == 11 && one * other == 0 || one + other == 3 && one * other == 2;
                Check.due("street(" + one + ", " + other + ")", x.street(one, other), is ? 1 : 0);
            }
        }

        Sentences.begin(8, "UNKNOWN.");
        for (int doors : new int[] {1, 2, 12}) {
            TuneToEachHouse y = Check.townOf(Towns.doors(doors));
            Check.due("street of doors " + doors, y.street(doors - 1, 0), 0);
            for (int door : Towns.outside(0, doors - 1)) {
                Check.due("street(" + door + ", 0) of doors " + doors, y.street(door, 0), UNKNOWN);
                Check.due("street(0, " + door + ") of doors " + doors, y.street(0, door), UNKNOWN);
                Check.due("street(" + door + ", the same) of doors " + doors, y.street(door, door), UNKNOWN);
            }
        }
    }

    private static void roads() {
        Sentences.begin(9, "There is a STREET, or none: whether there was, 1, 0.");
        TuneToEachHouse x = Check.townOf("Dabc");
        roadIs(x, 0, 1, false, 0);
        roadIs(x, 0, 1, true, 0);
        roadIs(x, 1, 0, true, 1);
        roadIs(x, 0, 1, true, 1);
        roadIs(x, 1, 0, false, 1);
        roadIs(x, 0, 1, false, 0);
        Check.due("streets", x.count(2), 0);
        TuneToEachHouse y = Check.townOf(Towns.doors(12));
        for (int one = 0; one < 12; one++) {
            for (int other = one + 1; other < 12; other++) {
                roadIs(y, other, one, true, 0);
            }
        }
        Check.due("streets, all pairs", y.count(2), 66);
        roadIs(y, 11, 10, false, 1);
        Check.due("streets, one less", y.count(2), 65);
    }

    private static void roadIs(TuneToEachHouse x, int one, int other, boolean is, int was) {
        String call = "road(" + one + ", " + other + ", " + is + ")";
        Check.due(call, x.road(one, other, is), was);
        Check.due("street behind " + call, x.street(one, other), is ? 1 : 0);
        Check.due("street behind " + call + ", turned", x.street(other, one), is ? 1 : 0);
    }

    private static void roadsRefused() {
        Sentences.begin(9, "UNKNOWN");
        for (int doors : new int[] {1, 2, 12}) {
            TuneToEachHouse x = Check.townOf(Towns.doors(doors));
            for (int door : Towns.outside(0, doors - 1)) {
                Check.due("road(" + door + ", 0) of doors " + doors, x.road(door, 0, true), UNKNOWN);
                Check.due("road(0, " + door + ") of doors " + doors, x.road(0, door, true), UNKNOWN);
                Check.due("road(0, " + door + "), none, of doors " + doors, x.road(0, door, false), UNKNOWN);
            }
            Check.due("streets", x.count(2), 0);
        }

        Sentences.begin(9, "STATE: both are one.");
        TuneToEachHouse x = Check.townOf(Towns.doors(12) + "W01");
        for (int door = 0; door < 12; door++) {
            Check.due("road(" + door + ", the same, true)", x.road(door, door, true), STATE);
            Check.due("road(" + door + ", the same, false)", x.road(door, door, false), STATE);
            Check.due("street(" + door + ", the same)", x.street(door, door), 0);
        }
        Check.due("streets", x.count(2), 1);
        Check.due("road(10, 11, true), beside it", x.road(10, 11, true), 0);
    }

    private static void walkBehindRoad() {
        Sentences.begin(9, "(THE WALK is empty then.)");
        boolean[] both = {true, false};
        for (boolean is : both) {
            // a street of THE WALK, one beside it, and one that changes nothing
            int[][] pairs = {{0, 1}, {2, 3}, {0, 2}};
            for (int[] pair : pairs) {
                TuneToEachHouse x = Check.townOf("DabcdW01W12Sab");
                Check.walk(x, 0, 1, 2);
                Check.hear(x, 0, 1);
                x.road(pair[0], pair[1], is);
                Check.due("THE WALK", x.count(4), 0);
                Check.due("at(0)", x.at(0), NONE);
                Check.due("heard(0, 0)", x.heard(0, 0), NONE);
                Check.due("go(3), the first door may be any", x.go(3), 1);
                Check.due("THE EAR heard what it heard", x.count(5), 2);
            }
        }
        TuneToEachHouse x = Check.townOf("DabcdW01W12");
        Check.walk(x, 0, 1, 2);
        Check.due("road(0, 4)", x.road(0, 4, true), UNKNOWN);
        Check.due("road(1, 1)", x.road(1, 1, true), STATE);
        Check.due("refused: THE WALK", x.count(4), 3);
    }

    private static void signs() {
        Sentences.begin(10, "Sign i of a SONG: 0 to 6, 8 a point");
        TuneToEachHouse x = Check.townOf("DaSabcdefSg.a.gaS.Sg");
        int[][] signs = {{0, 1, 2, 3, 4, 5}, {6, 8, 0, 8, 6, 0}, {8}, {6}};
        for (int song = 0; song < signs.length; song++) {
            for (int i = 0; i < signs[song].length; i++) {
                Check.due("song(" + song + ", " + i + ")", x.song(song, i), signs[song][i]);
            }
        }
        x.let(0, 7);
        x.spring();
        Check.due("song(0, 0), whatever the notes are", x.song(0, 0), 0);

        Sentences.begin(10, "UNKNOWN.");
        for (int songs = 0; songs <= 4; songs++) {
            TuneToEachHouse y = Check.townOf("Da" + "Sa".repeat(songs));
            for (int song = 0; song < songs; song++) {
                Check.due("song(" + song + ", 0) of songs " + songs, y.song(song, 0), 0);
            }
            for (int song : Towns.outside(0, songs - 1)) {
                Check.due("song(" + song + ", 0) of songs " + songs, y.song(song, 0), UNKNOWN);
                Check.due("song(" + song + ", 9) of songs " + songs, y.song(song, 9), UNKNOWN);
            }
        }
    }

    private static void signsBehindEnd() {
        Sentences.begin(10, "NONE: it has not so many.");
        for (int length = 1; length <= 6; length++) {
            TuneToEachHouse x = Check.townOf("DaSgggggg");
            // of the longer song that was, no sign is left
            Check.write(x, "DaS" + "a".repeat(length) + "Sb");
            x.town();
            Check.due("the last sign of " + length, x.song(0, length - 1), 0);
            for (int i : Towns.outside(0, length - 1)) {
                Check.due("song(0, " + i + ") of signs " + length, x.song(0, i), NONE);
            }
            Check.due("song(1, 0)", x.song(1, 0), 1);
            Check.due("song(1, 1)", x.song(1, 1), NONE);
        }
    }

    private static void springs() {
        Sentences.begin(TERMS, "SPRING: the NOTE of each DOOR goes to the next one (of the last one to the first).");
        for (int doors : new int[] {1, 2, 3, 11, 12}) {
            TuneToEachHouse x = Check.townOf(Towns.doors(doors) + Towns.row(doors) + "Sa");
            x.spring();
            for (int door = 0; door < doors; door++) {
                Check.due("note(" + door + ") of doors " + doors, x.note(door), (door + doors - 1) % doors % 7);
            }
            Check.due("streets", x.count(2), doors - 1);
            for (int i = 1; i < doors; i++) {
                x.spring();
            }
            for (int door = 0; door < doors; door++) {
                Check.due("note(" + door + ") when all went round", x.note(door), door % 7);
            }
        }

        Sentences.begin(11, "SPRING: the NOTE that DOOR 0 gets.");
        TuneToEachHouse x = Check.townOf("Dabg");
        x.let(1, 7);
        int[] gets = {6, 7, 0, 6, 7, 0};
        for (int note : gets) {
            Check.due("spring()", x.spring(), note);
            Check.due("note(0)", x.note(0), note);
            Check.due("still doors", x.count(6), 1);
        }
        TuneToEachHouse y = new TuneToEachHouse();
        Check.due("spring() of one door", y.spring(), 0);
        y.let(0, 7);
        Check.due("spring() of one still door", y.spring(), 7);
        Check.due("spring() of twelve", Check.townOf(Towns.doors(12)).spring(), 11 % 7);
    }
}
