/** Edges of ways that sound a SONG, go ROUND it, or sound BOTH: promises 16 to 22. */
final class EdgesOfSongs {
    private static final int UNKNOWN = -1, OUTSIDE = -2, NONE = -9;
    private static final int TERMS = Sentences.TERMS;

    private EdgesOfSongs() {
    }

    static void run() {
        waysAre();
        songSung();
        waysCounted();
        waysRefused();
        theFirst();
        firstDoors();
        begun();
        roundSongs();
        roundSteps();
        roundRefused();
        roundDoors();
        safeWays();
        safeSteps();
        safeRefused();
        bothSongs();
        bothFar();
        bothRefused();
    }

    private static void waysAre() {
        Sentences.begin(TERMS, "A WAY is a row of DOORS, one or more, each with a STREET to the one behind it");
        TuneToEachHouse x = Check.townOf("DaaaW01SaSaaSaaa");
        Check.due("one door", x.ways(0, 2, 2), 1);
        Check.due("one door alone, two signs", x.ways(1, 2, NONE), 0);
        Check.due("one does not stand at a door", x.ways(1, 0, 0), 0);
        Check.due("a street, either way", x.ways(1, NONE, NONE), 2);
        Check.due("to and fro", x.ways(2, 0, 0), 1);
        Check.due("no street to door 2", x.ways(2, NONE, 2), 0);
        x.road(1, 2, true);
        Check.due("a street to door 2", x.ways(2, 0, 2), 1);

        Sentences.begin(TERMS, "it SOUNDS their NOTES one by one");
        TuneToEachHouse y = Check.townOf("DabcW01W12SabcScbaSacSabcb");
        Check.due("abc", y.ways(0, NONE, NONE), 1);
        Check.due("cba", y.ways(1, NONE, NONE), 1);
        Check.due("ac: none is left out", y.ways(2, NONE, NONE), 0);
        Check.due("abcb: a door again sounds again", y.ways(3, NONE, NONE), 1);

        Sentences.begin(TERMS, "(STEPS: DOORS less 1).");
        TuneToEachHouse z = Check.townOf(Towns.doorsOf(12, 'a') + Towns.row(12) + "Sg");
        for (int to = 0; to < 12; to++) {
            Check.due("doors 0 to " + to, z.round(0, 0, to), to);
            Check.due("the last of them", z.roundAt(0, 0, to, to), to);
            Check.due("safe in so many steps", z.safe(0, 0, to, to), 1);
        }
    }

    private static void songSung() {
        Sentences.begin(TERMS, "To SING a SONG: a WAY of just as many DOORS as it has signs that it FITS.");
        TuneToEachHouse x = Check.townOf("DaaW01SaSaaSaaaSaaaaaa");
        int[] signs = {1, 2, 3, 6};
        for (int song = 0; song < signs.length; song++) {
            Check.due("signs " + signs[song] + ", any", x.ways(song, NONE, NONE), 2);
            Check.due("signs " + signs[song] + ", to the like side", x.ways(song, 0, 0), signs[song] % 2);
            Check.due("signs " + signs[song] + ", to the other", x.ways(song, 0, 1), 1 - signs[song] % 2);
            Check.due("its last door", x.first(song, signs[song] - 1), (signs[song] - 1) % 2);
            Check.due("no door behind it", x.first(song, signs[song]), NONE);
        }
        x.let(1, 7);
        Check.due("it does not FIT any more", x.ways(1, NONE, NONE), 0);
        Check.due("one sign FITS door 0", x.ways(0, NONE, NONE), 1);
    }

    private static void waysCounted() {
        Sentences.begin(16, "In how many WAYS a SONG can be sung from a DOOR to another one");
        TuneToEachHouse x = Check.townOf("DabacW01W12W23W30SabaSaSg");
        Check.due("aba from 0 to 2", x.ways(0, 0, 2), 1);
        Check.due("aba from 0 to 0", x.ways(0, 0, 0), 1);
        Check.due("aba from 0 to 1", x.ways(0, 0, 1), 0);
        Check.due("a from 0 to 0", x.ways(1, 0, 0), 1);
        Check.due("a from 0 to 2", x.ways(1, 0, 2), 0);
        Check.due("a from 1 to 1", x.ways(1, 1, 1), 0);
        Check.due("g", x.ways(2, 0, 0), 0);

        Sentences.begin(16, "(NONE: from any, to any)");
        Check.due("aba from any to any", x.ways(0, NONE, NONE), 4);
        Check.due("aba from 0 to any", x.ways(0, 0, NONE), 2);
        Check.due("aba from any to 0", x.ways(0, NONE, 0), 2);
        Check.due("aba from 3 to any", x.ways(0, 3, NONE), 0);
        Check.due("aba from any to 3", x.ways(0, NONE, 3), 0);
        Check.due("a from any to any", x.ways(1, NONE, NONE), 2);
        Check.due("g from any to any", x.ways(2, NONE, NONE), 0);
        TuneToEachHouse y = Towns.joined(Towns.doorsOf(12, 'a') + "S......Saaaaaa");
        Check.due("the most ways", y.ways(0, NONE, NONE), 12L * 11 * 11 * 11 * 11 * 11);
        Check.due("the most ways, from 11", y.ways(1, 11, NONE), 11L * 11 * 11 * 11 * 11);
        // of the ways of k steps, (11^k - (-1)^k) / 12 go to one other door
        Check.due("the most ways, from 11 to 0", y.ways(1, 11, 0), (11L * 11 * 11 * 11 * 11 + 1) / 12);
        Check.due("the most ways, from 11 to 11", y.ways(1, 11, 11), (11L * 11 * 11 * 11 * 11 + 1) / 12 - 1);
    }

    private static void waysRefused() {
        Sentences.begin(16, "UNKNOWN (also a DOOR that is neither NONE).");
        for (int doors : new int[] {1, 2, 12}) {
            TuneToEachHouse x = Check.townOf(Towns.doorsOf(doors, 'a') + "SaSb");
            Check.due("the last door and song", x.ways(1, doors - 1, doors - 1), 0);
            for (int door : Towns.outsideButNone(0, doors - 1)) {
                Check.due("from " + door, x.ways(0, door, NONE), UNKNOWN);
                Check.due("to " + door, x.ways(0, NONE, door), UNKNOWN);
                Check.due("to " + door + " from 0", x.ways(0, 0, door), UNKNOWN);
            }
            for (int song : Towns.outside(0, 1)) {
                Check.due("song " + song, x.ways(song, 0, 0), UNKNOWN);
                Check.due("song " + song + " from any", x.ways(song, NONE, NONE), UNKNOWN);
            }
        }
    }

    private static void theFirst() {
        Sentences.begin(TERMS, "THE FIRST: by its first DOOR, then its second .. (the least).");
        TuneToEachHouse x = Check.townOf("DaabbW02W03W12W13SabSbaSaba");
        firstIs(x, 0, 0, 2);
        firstIs(x, 1, 2, 0);
        firstIs(x, 2, 0, 2, 0);
        x.let(0, 7);
        firstIs(x, 0, 1, 2);
        x.let(2, 7);
        firstIs(x, 0, 1, 3);
        // a first door that is less goes ahead of a second one that is less
        TuneToEachHouse y = Check.townOf("DacbbW03W12Sab");
        y.let(1, 0);
        firstIs(y, 0, 0, 3);
        // the least door from which the song can not go on is passed over
        TuneToEachHouse z = Check.townOf("DaabbcW02W13W34Sabc");
        firstIs(z, 0, 1, 3, 4);
    }

    private static void firstIs(TuneToEachHouse x, int song, int... way) {
        for (int i = 0; i < way.length; i++) {
            Check.due("first(" + song + ", " + i + ")", x.first(song, i), way[i]);
        }
        Check.due("first(" + song + ", its end)", x.first(song, way.length), NONE);
    }

    private static void firstDoors() {
        Sentences.begin(17, "The i-th DOOR of THE FIRST");
        TuneToEachHouse x = Check.townOf("DabW01SababaS.Sba.abSaa");
        firstIs(x, 0, 0, 1, 0, 1, 0);
        firstIs(x, 1, 0);
        firstIs(x, 2, 1, 0, 1, 0, 1);
        TuneToEachHouse y = Check.townOf("DabW01Sababab");
        firstIs(y, 0, 0, 1, 0, 1, 0, 1);

        Sentences.begin(17, "NONE: it can not be sung, or has not so many.");
        for (int i = 0; i < 7; i++) {
            Check.due("first(3, " + i + "), it can not be sung", x.first(3, i), NONE);
        }
        int[] lengths = {5, 1};
        for (int song = 0; song < lengths.length; song++) {
            for (int i : Towns.outside(0, lengths[song] - 1)) {
                Check.due("first(" + song + ", " + i + ")", x.first(song, i), NONE);
            }
        }

        Sentences.begin(17, "UNKNOWN.");
        Check.due("first(3, 0), the last song", x.first(3, 0), NONE);
        for (int song : Towns.outside(0, 3)) {
            Check.due("first(" + song + ", 0)", x.first(song, 0), UNKNOWN);
        }
        Check.due("with no song", new TuneToEachHouse().first(0, 0), UNKNOWN);
    }

    private static void begun() {
        Sentences.begin(TERMS, "BEGUN: the most signs from its first on that can be sung so.");
        TuneToEachHouse x = Check.townOf("DabW01ScaSacaSabcabSababab");
        Check.due("ca: not its first sign, though its second", x.begun(0), 0);
        Check.due("aca: its first alone", x.begun(1), 1);
        Check.due("abcab: two, though its last two too", x.begun(2), 2);
        Check.due("ababab: all six", x.begun(3), 6);
        TuneToEachHouse y = Check.townOf("DaSaaS......SbS.b");
        Check.due("aa at one door", y.begun(0), 1);
        Check.due("six points at one door", y.begun(1), 1);
        Check.due("b at one door", y.begun(2), 0);
        Check.due(".b at one door", y.begun(3), 1);
        // which door begins is chosen so that most is sung
        TuneToEachHouse z = Check.townOf("DaabbcW02W13W34SabcbSabd");
        Check.due("abcb", z.begun(0), 4);
        Check.due("abd", z.begun(1), 2);

        Sentences.begin(18, "BEGUN.");
        Check.due("all", x.begun(3), 6);
        x.let(1, 7);
        Check.due("less by a still door", x.begun(3), 1);
        x.let(0, 7);
        Check.due("none by two", x.begun(3), 0);

        Sentences.begin(18, "UNKNOWN.");
        for (int song : Towns.outside(0, 3)) {
            Check.due("begun(" + song + ")", x.begun(song), UNKNOWN);
        }
        Check.due("with no song", new TuneToEachHouse().begun(0), UNKNOWN);
    }

    private static void roundSongs() {
        Sentences.begin(TERMS, "ROUND a SONG from a DOOR to another one: a WAY that it FITS nowhere");
        TuneToEachHouse x = Check.townOf("DabaaW01W12W03W32SbSabaSabaaSa");
        Check.due("b in the middle is gone round", x.round(0, 0, 2), 2);
        Check.due("by door 3", x.roundAt(0, 0, 2, 1), 3);
        Check.due("b where it begins", x.round(0, 1, 0), NONE);
        Check.due("b where it ends", x.round(0, 0, 1), NONE);
        Check.due("aba as a whole", x.roundAt(1, 0, 2, 1), 3);
        Check.due("abaa is longer than the way", x.roundAt(2, 0, 2, 1), 1);
        Check.due("abaa by its last door", x.round(2, 0, 3), 1);
        x.road(0, 3, false);
        Check.due("no way round b", x.round(0, 0, 2), NONE);
        Check.due("no way round aba", x.round(1, 0, 2), NONE);
        Check.due("abaa from 0 to 2", x.round(2, 0, 2), 2);
        Check.due("abaa from 0 to 3: all ways end in it", x.round(2, 0, 3), NONE);
        Check.due("abaa from 1 to 3: it begins behind its a", x.round(2, 1, 3), 2);

        Sentences.begin(TERMS, "the shortest: its STEPS");
        // only by a door that is passed twice: 0 1 3 1 2 sounds abdbc
        TuneToEachHouse y = Check.townOf("DabcdW01W12W13SabcSg");
        Check.due("round abc", y.round(0, 0, 2), 4);
        Check.due("round g", y.round(1, 0, 2), 2);
        Check.due("round abc back", y.round(0, 2, 0), 2);
        // a crowd of six doors that are all joined, and a row of six more behind it
        TuneToEachHouse z = Check.townOf("DaaaaaabbbbbbW56W67W78W89W9aWabSgSaabSaaaaaa");
        for (int one = 0; one < 6; one++) {
            for (int other = 0; other < one; other++) {
                z.road(one, other, true);
            }
        }
        Check.due("round g out of a crowd", z.round(0, 0, 11), 7);
        Check.due("round aab out of a crowd", z.round(1, 0, 11), NONE);
        Check.due("round aab from its edge", z.round(1, 5, 11), 6);
        Check.due("round aaaaaa out of a crowd", z.round(2, 0, 11), 7);
    }

    private static void roundSteps() {
        Sentences.begin(TERMS, "(0: both are one, and it does not FIT that alone)");
        TuneToEachHouse x = Check.townOf("DabW01SaSbSabS.");
        Check.due("a, 0 to 0: it FITS that alone", x.round(0, 0, 0), NONE);
        Check.due("a, 1 to 1", x.round(0, 1, 1), 0);
        Check.due("b, 0 to 0", x.round(1, 0, 0), 0);
        Check.due("b, 1 to 1", x.round(1, 1, 1), NONE);
        Check.due("ab, 0 to 0", x.round(2, 0, 0), 0);
        Check.due("ab, 1 to 1", x.round(2, 1, 1), 0);
        Check.due("a point, 0 to 0", x.round(3, 0, 0), NONE);
        Check.due("ab, 1 to 0", x.round(2, 1, 0), 1);
        Check.due("ab, 0 to 1", x.round(2, 0, 1), NONE);

        Sentences.begin(19, "ROUND a SONG: STEPS; NONE.");
        TuneToEachHouse y = Check.townOf(Towns.doors(12) + Towns.row(11) + "SgSfgS......");
        Check.due("round g from 0 to 5", y.round(0, 0, 5), 5);
        Check.due("round g from 0 to 6", y.round(0, 0, 6), NONE);
        Check.due("round g from 7 to 10", y.round(0, 7, 10), 3);
        Check.due("round fg from 0 to 6", y.round(1, 0, 6), NONE);
        Check.due("round fg from 10 to 6", y.round(1, 10, 6), 4);
        Check.due("round fg from 10 to 0", y.round(1, 10, 0), 10);
        Check.due("round six points from 0 to 4", y.round(2, 0, 4), 4);
        Check.due("round six points from 0 to 5", y.round(2, 0, 5), NONE);
        Check.due("no street to 11", y.round(1, 0, 11), NONE);
        Check.due("11 to 11", y.round(1, 11, 11), 0);
    }

    private static void roundRefused() {
        for (int doors : new int[] {1, 2, 12}) {
            TuneToEachHouse x = Check.townOf(Towns.doorsOf(doors, 'a') + "SaSb");
            Sentences.begin(19, "UNKNOWN.");
            Check.due("the last door and song", x.round(1, doors - 1, doors - 1), 0);
            for (int door : Towns.outside(0, doors - 1)) {
                Check.due("from " + door, x.round(1, door, 0), UNKNOWN);
                Check.due("to " + door, x.round(1, 0, door), UNKNOWN);
                Check.due("from and to " + door, x.round(1, door, door), UNKNOWN);
            }
            for (int song : Towns.outside(0, 1)) {
                Check.due("song " + song, x.round(song, 0, 0), UNKNOWN);
            }

            Sentences.begin(20, "UNKNOWN.");
            Check.due("the last door and song", x.roundAt(1, doors - 1, doors - 1, 0), doors - 1);
            for (int door : Towns.outside(0, doors - 1)) {
                Check.due("from " + door, x.roundAt(1, door, 0, 0), UNKNOWN);
                Check.due("to " + door, x.roundAt(1, 0, door, 0), UNKNOWN);
            }
            for (int song : Towns.outside(0, 1)) {
                Check.due("song " + song, x.roundAt(song, 0, 0, 0), UNKNOWN);
            }
        }
    }

    private static void roundIs(TuneToEachHouse x, int song, int from, int to, int... way) {
        String call = "roundAt(" + song + ", " + from + ", " + to + ", ";
        for (int i = 0; i < way.length; i++) {
            Check.due(call + i + ")", x.roundAt(song, from, to, i), way[i]);
        }
        for (int i : Towns.outside(0, way.length - 1)) {
            Check.due(call + i + ")", x.roundAt(song, from, to, i), NONE);
        }
    }

    private static void roundDoors() {
        Sentences.begin(TERMS, "THE FIRST shortest.");
        TuneToEachHouse x = Check.townOf("DaaaaaaW01W02W13W23W14W24W35W45SgSaab");
        roundIs(x, 0, 0, 3, 0, 1, 3);
        roundIs(x, 0, 0, 5, 0, 1, 3, 5);
        roundIs(x, 0, 5, 0, 5, 3, 1, 0);
        x.let(1, 1);
        roundIs(x, 1, 5, 0, 5, 3, 2, 0);
        roundIs(x, 1, 0, 5, 0, 1, 3, 5);
        x.road(0, 5, true);
        roundIs(x, 0, 0, 5, 0, 5);

        Sentences.begin(20, "The i-th DOOR of THE FIRST shortest such; NONE.");
        TuneToEachHouse y = Check.townOf("DabcdW01W12W13SabcSgSaSd");
        roundIs(y, 0, 0, 2, 0, 1, 3, 1, 2);
        roundIs(y, 1, 0, 0, 0);
        roundIs(y, 1, 3, 3, 3);
        roundIs(y, 1, 3, 0, 3, 1, 0);
        // there is none: it FITS that alone, it FITS its end, there is no street
        roundIs(y, 2, 0, 0);
        roundIs(y, 2, 1, 0);
        roundIs(y, 3, 0, 3);
        y.road(1, 3, false);
        roundIs(y, 1, 0, 3);
        TuneToEachHouse z = Check.townOf(Towns.doorsOf(12, 'a') + Towns.row(12) + "Sg");
        roundIs(z, 0, 0, 11, 0, 1, 2, 3, 4, 5, 6, 7, 8, 9, 10, 11);
        roundIs(z, 0, 11, 0, 11, 10, 9, 8, 7, 6, 5, 4, 3, 2, 1, 0);
    }

    private static void safeWays() {
        Sentences.begin(21, "How many WAYS of n STEPS from a DOOR to another one a SONG FITS nowhere in.");
        TuneToEachHouse x = Check.townOf("DabW01SgSaSabSbaba");
        Check.due("no step, to itself", x.safe(0, 0, 0, 0), 1);
        Check.due("no step, to another one", x.safe(0, 0, 1, 0), 0);
        Check.due("no step, it FITS that alone", x.safe(1, 0, 0, 0), 0);
        Check.due("no step, it does not FIT that alone", x.safe(1, 1, 1, 0), 1);
        Check.due("one step, it FITS the end", x.safe(1, 1, 0, 1), 0);
        Check.due("one step, it FITS both", x.safe(2, 0, 1, 1), 0);
        Check.due("one step, turned", x.safe(2, 1, 0, 1), 1);
        Check.due("one step, to itself", x.safe(2, 0, 0, 1), 0);
        Check.due("two steps, it FITS their end", x.safe(2, 1, 1, 2), 0);
        Check.due("two steps of baba", x.safe(3, 1, 1, 2), 1);
        Check.due("three steps of baba", x.safe(3, 1, 0, 3), 0);
        Check.due("three steps of baba, turned", x.safe(3, 0, 1, 3), 1);
        Check.due("four steps of baba, from its second sign", x.safe(3, 0, 0, 4), 0);
        TuneToEachHouse y = Check.townOf("DaaW01SaaaaaaSaaaaa");
        Check.due("five doors of six signs", y.safe(0, 0, 0, 4), 1);
        Check.due("six doors of six signs", y.safe(0, 0, 1, 5), 0);
        Check.due("four doors of five signs", y.safe(1, 0, 1, 3), 1);
        Check.due("five doors of five signs", y.safe(1, 0, 0, 4), 0);
        // a row 10 11 0: five of the six signs sound at each door in turn, then a b ends them
        TuneToEachHouse z = Check.townOf("DbaaaaaaaaaaaWabWb0Saaaaaa");
        Check.due("five signs, then another", z.safe(0, 11, 0, 5), 4);
        Check.due("six signs, then another", z.safe(0, 10, 0, 6), 3);
        Check.due("six signs, to door 10", z.safe(0, 11, 10, 5), 3);
    }

    private static void safeSteps() {
        Sentences.begin(21, "OUTSIDE: n (0 to 12).");
        TuneToEachHouse x = Check.townOf("DabW01SgSababab");
        for (int n = 0; n <= 12; n++) {
            Check.due("n " + n + ", to itself", x.safe(0, 0, 0, n), 1 - n % 2);
            Check.due("n " + n + ", to the other one", x.safe(0, 0, 1, n), n % 2);
            Check.due("n " + n + " of ababab", x.safe(1, 0, n % 2, n), n < 5 ? 1 : 0);
        }
        for (int n : Towns.outside(0, 12)) {
            Check.due("n " + n, x.safe(0, 0, 0, n), OUTSIDE);
        }
        TuneToEachHouse y = Towns.joined(Towns.doorsOf(12, 'a') + "SgSa");
        long all = 1;
        for (int n = 0; n <= 12; n++) {
            // of 11^n ways a twelfth goes to each door; what is over goes by the last step's side
            long home = (all + (n % 2 == 0 ? 11 : -11)) / 12;
            Check.due("all joined, n " + n, y.safe(0, 3, 3, n), home);
            Check.due("all joined, to another one, n " + n, y.safe(0, 3, 11, n), (all - home) / 11);
            Check.due("all joined, a, n " + n, y.safe(1, 3, 3, n), 0);
            all *= 11;
        }
    }

    private static void safeRefused() {
        Sentences.begin(21, "UNKNOWN");
        for (int doors : new int[] {1, 2, 12}) {
            TuneToEachHouse x = Check.townOf(Towns.doorsOf(doors, 'a') + "SaSb");
            Check.due("the last door and song", x.safe(1, doors - 1, doors - 1, 0), 1);
            for (int door : Towns.outside(0, doors - 1)) {
                Check.due("from " + door, x.safe(1, door, 0, 0), UNKNOWN);
                Check.due("to " + door, x.safe(1, 0, door, 0), UNKNOWN);
            }
            for (int song : Towns.outside(0, 1)) {
                Check.due("song " + song, x.safe(song, 0, 0, 0), UNKNOWN);
            }
        }
    }

    private static void bothIs(TuneToEachHouse x, int song, int other, int doors) {
        Check.due("both(" + song + ", " + other + ")", x.both(song, other), doors);
        Check.due("both(" + other + ", " + song + ")", x.both(other, song), doors);
    }

    private static void bothSongs() {
        Sentences.begin(TERMS, "BOTH two SONGS: the WAY with fewest DOORS that each of them FITS somewhere.");
        TuneToEachHouse one = Check.townOf("DaSaS.SbS..");
        bothIs(one, 0, 1, 1);
        bothIs(one, 0, 2, NONE);
        bothIs(one, 0, 3, NONE);
        TuneToEachHouse x = Check.townOf("DabcdW01W12W23SabSbcScdSabcd");
        bothIs(x, 0, 1, 3);
        bothIs(x, 1, 2, 3);
        bothIs(x, 0, 2, 4);
        bothIs(x, 0, 3, 4);
        bothIs(x, 2, 3, 4);
        TuneToEachHouse y = Check.townOf("DabcdW01W12W23SaSdSbaSdc");
        bothIs(y, 0, 1, 4);
        bothIs(y, 0, 2, 2);
        bothIs(y, 1, 2, 4);
        // ba, then dc: b a b c d c; or dc, then ba: d c b a
        bothIs(y, 2, 3, 4);

        Sentences.begin(22, "BOTH: how many DOORS; NONE.");
        for (int song = 0; song < 4; song++) {
            Check.due("both(" + song + ", the same)", x.both(song, song), x.song(song, 3) == NONE ? 2 : 4);
        }
        x.let(3, 7);
        bothIs(x, 0, 1, 3);
        bothIs(x, 0, 2, NONE);
        bothIs(x, 2, 2, NONE);
        bothIs(x, 2, 3, NONE);
        // each can be sung, but no way goes from the one to the other
        y.road(1, 2, false);
        bothIs(y, 0, 1, NONE);
        bothIs(y, 0, 2, 2);
        bothIs(y, 2, 3, NONE);
    }

    private static void bothFar() {
        Sentences.begin(22, "BOTH: how many DOORS; NONE.");
        TuneToEachHouse x = Check.townOf("Dabccccccccde" + Towns.row(12) + "SaSeSababaSedede");
        bothIs(x, 0, 1, 12);
        bothIs(x, 0, 3, 16);
        bothIs(x, 2, 1, 16);
        bothIs(x, 2, 3, 20);
        x.road(5, 6, false);
        bothIs(x, 2, 3, NONE);
        // ababab ends nearer to the e than it begins, so it comes first
        TuneToEachHouse w = Check.townOf("Dabccccccccde" + Towns.row(12) + "SabababSeSbababa");
        bothIs(w, 0, 1, 16);
        bothIs(w, 2, 1, 16);
        // six signs each: they share all doors but two, or all
        TuneToEachHouse y = Check.townOf("DabW01SabababSbababaS......");
        bothIs(y, 0, 1, 7);
        bothIs(y, 0, 2, 6);
        TuneToEachHouse z = Check.townOf("DabcdeW01W12W23W34SababaSedede");
        bothIs(z, 0, 1, 13);
    }

    private static void bothRefused() {
        Sentences.begin(22, "UNKNOWN.");
        for (int songs = 0; songs <= 4; songs++) {
            TuneToEachHouse x = Check.townOf("Da" + "Sa".repeat(songs));
            if (songs > 0) {
                bothIs(x, songs - 1, 0, 1);
            }
            for (int song : Towns.outside(0, songs - 1)) {
                bothIs(x, song, 0, UNKNOWN);
                bothIs(x, song, song, UNKNOWN);
            }
        }
        // also where the other one can not be sung
        bothIs(Check.townOf("DaSb"), 0, 1, UNKNOWN);
    }
}
