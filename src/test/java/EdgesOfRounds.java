/** Edges of THE BEST ROUND and of HUSH: promises 28 to 30. */
final class EdgesOfRounds {
    private static final int UNKNOWN = -1, NONE = -9;
    private static final int TERMS = Sentences.TERMS;
    private static final String RING = "DabacW01W12W23W30";

    private EdgesOfRounds() {
    }

    static void run() {
        eachDoorOnce();
        worth();
        theBest();
        bestNone();
        bestDoors();
        bestRefused();
        fewestDoors();
        leastNumber();
        pointsAlone();
        hushBits();
        hushRefused();
    }

    /** The doors of THE BEST ROUND, and NONE at every other place. */
    private static void bestIs(TuneToEachHouse x, int song, int from, int... way) {
        String call = "bestAt(" + song + ", " + from + ", ";
        for (int i = 0; i < way.length; i++) {
            Check.due(call + i + ")", x.bestAt(song, from, i), way[i]);
        }
        for (int i : Towns.outside(0, way.length - 1)) {
            Check.due(call + i + ")", x.bestAt(song, from, i), NONE);
        }
    }

    private static void eachDoorOnce() {
        Sentences.begin(TERMS, "A ROUND for a SONG from a DOOR: a WAY through each DOOR just once");
        TuneToEachHouse one = Check.townOf("DaSaSb");
        Check.due("one door", one.best(0, 0), 1);
        TuneToEachHouse row = Check.townOf("DabcW01W12Sabc");
        Check.due("a row from its end", row.best(0, 0), 3);
        Check.due("a row from its other end", row.best(0, 2), 1);
        Check.due("a row from its middle: a door would come twice", row.best(0, 1), NONE);
        TuneToEachHouse ring = Check.townOf(RING + "Sa");
        for (int from = 0; from < 4; from++) {
            Check.due("a ring from " + from + ": it need not close", ring.best(0, from), 2);
        }
        ring.road(3, 0, false);
        Check.due("a ring that is cut, from its end", ring.best(0, 0), 2);
        Check.due("a ring that is cut, from within", ring.best(0, 1), NONE);
        TuneToEachHouse star = Check.townOf("DabcdW01W02W03Sa");
        for (int from = 0; from < 4; from++) {
            Check.due("a star from " + from, star.best(0, from), NONE);
        }
    }

    private static void worth() {
        Sentences.begin(TERMS, "its WORTH: at how many of its DOORS the NOTE is as the sign there, the SONG again and again.");
        TuneToEachHouse x = Check.townOf("Dabcdefa" + Towns.row(7) + "SabcdefSabSaSabcdea");
        Check.due("six signs, seven doors: the first comes again", x.best(0, 0), 7);
        Check.due("two signs, seven doors", x.best(1, 0), 3);
        Check.due("one sign", x.best(2, 0), 2);
        Check.due("six signs, the last is not as its door", x.best(3, 0), 6);
        x.let(6, 6);
        Check.due("the door where the first comes again is another", x.best(0, 0), 6);
        x.let(6, 7);
        Check.due("a still door", x.best(0, 0), 6);
        TuneToEachHouse y = Check.townOf("DabW01SabcdefSbSbaS.");
        Check.due("more signs than doors", y.best(0, 0), 2);
        Check.due("more signs than doors, from 1", y.best(0, 1), 0);
        Check.due("b", y.best(1, 0), 1);
        Check.due("ba from 1", y.best(2, 1), 2);
        Check.due("a point", y.best(3, 1), 2);
        TuneToEachHouse z = Check.townOf("Dabcdefabcdef" + Towns.row(12) + "SabcdefSfedcbaSgS......");
        Check.due("twelve doors", z.best(0, 0), 12);
        Check.due("twelve doors, back", z.best(1, 11), 12);
        Check.due("twelve doors, none is as its sign", z.best(1, 0), 0);
        Check.due("twelve doors, a note of none", z.best(2, 0), 0);
        Check.due("twelve doors, points", z.best(3, 0), 12);
    }

    private static void theBest() {
        Sentences.begin(TERMS, "THE BEST ROUND: of greatest WORTH");
        TuneToEachHouse x = Check.townOf("DabcW01W02W12SacbSabcScab");
        Check.due("acb: the later way is worth more", x.best(0, 0), 3);
        bestIs(x, 0, 0, 0, 2, 1);
        Check.due("abc", x.best(1, 0), 3);
        bestIs(x, 1, 0, 0, 1, 2);
        // bca is worth none against cab, bac is worth one at its second door
        Check.due("cab from 1", x.best(2, 1), 1);
        bestIs(x, 2, 1, 1, 0, 2);

        Sentences.begin(TERMS, "of like ones the first.");
        TuneToEachHouse y = Towns.joined(Towns.doorsOf(12, 'a') + "SaSgSg.....");
        bestIs(y, 0, 0, 0, 1, 2, 3, 4, 5, 6, 7, 8, 9, 10, 11);
        bestIs(y, 1, 11, 11, 0, 1, 2, 3, 4, 5, 6, 7, 8, 9, 10);
        bestIs(y, 2, 5, 5, 0, 1, 2, 3, 4, 6, 7, 8, 9, 10, 11);
        TuneToEachHouse z = Check.townOf(RING + "SgSabSbS.c.b");
        bestIs(z, 0, 0, 0, 1, 2, 3);
        bestIs(z, 0, 2, 2, 1, 0, 3);
        bestIs(z, 1, 0, 0, 1, 2, 3);
        // like ones are worth as much, though at other doors
        bestIs(z, 2, 0, 0, 1, 2, 3);
        bestIs(z, 3, 0, 0, 3, 2, 1);
    }

    private static void bestNone() {
        Sentences.begin(28, "WORTH of THE BEST ROUND");
        TuneToEachHouse x = Check.townOf(RING + "SgSabScS.");
        Check.due("worth none is not NONE", x.best(0, 0), 0);
        Check.due("ab", x.best(1, 0), 3);
        Check.due("ab from 1", x.best(1, 1), 0);
        Check.due("c from 3", x.best(2, 3), 1);
        Check.due("all doors", x.best(3, 2), 4);

        Sentences.begin(28, "NONE: there is no ROUND.");
        TuneToEachHouse y = Check.townOf("DabSaSg");
        Check.due("no street", y.best(0, 0), NONE);
        Check.due("no street, from 1", y.best(1, 1), NONE);
        y.road(0, 1, true);
        Check.due("a street", y.best(0, 0), 1);
        Check.due("a street, worth none", y.best(1, 1), 0);
        TuneToEachHouse z = Check.townOf(Towns.doors(12) + Towns.row(12) + "S.");
        for (int from = 0; from < 12; from++) {
            Check.due("a row of twelve from " + from, z.best(0, from), from % 11 == 0 ? 12 : NONE);
        }
        z.road(10, 11, false);
        Check.due("eleven of twelve", z.best(0, 0), NONE);
    }

    private static void bestDoors() {
        Sentences.begin(29, "The i-th DOOR of it; NONE.");
        bestIs(Check.townOf("DaSb"), 0, 0, 0);
        TuneToEachHouse x = Check.townOf(Towns.doors(12) + Towns.row(12) + "S.");
        bestIs(x, 0, 0, 0, 1, 2, 3, 4, 5, 6, 7, 8, 9, 10, 11);
        bestIs(x, 0, 11, 11, 10, 9, 8, 7, 6, 5, 4, 3, 2, 1, 0);
        // there is no ROUND: no door of it, not even the first
        bestIs(x, 0, 5);
        bestIs(Check.townOf("DabSa"), 0, 0);
        TuneToEachHouse y = Check.townOf("DabcdW01W12W02W23Sa");
        bestIs(y, 0, 0, 0, 1, 2, 3);
        bestIs(y, 0, 1, 1, 0, 2, 3);
        bestIs(y, 0, 2);
        bestIs(y, 0, 3, 3, 2, 0, 1);
    }

    private static void bestRefused() {
        for (int doors : new int[] {1, 2, 12}) {
            TuneToEachHouse x = Check.townOf(Towns.doorsOf(doors, 'a') + Towns.row(doors) + "SaSb");
            Sentences.begin(28, "UNKNOWN.");
            Check.due("the last door and song", x.best(1, doors - 1), 0);
            for (int door : Towns.outside(0, doors - 1)) {
                Check.due("from " + door, x.best(0, door), UNKNOWN);
            }
            for (int song : Towns.outside(0, 1)) {
                Check.due("song " + song, x.best(song, 0), UNKNOWN);
            }

            Sentences.begin(29, "UNKNOWN.");
            Check.due("the last door and song", x.bestAt(1, doors - 1, 0), doors - 1);
            for (int door : Towns.outside(0, doors - 1)) {
                Check.due("from " + door, x.bestAt(0, door, 0), UNKNOWN);
            }
            for (int song : Towns.outside(0, 1)) {
                Check.due("song " + song, x.bestAt(song, 0, 0), UNKNOWN);
            }
        }
    }

    private static void fewestDoors() {
        Sentences.begin(TERMS, "HUSH a SONG: the fewest DOORS that are to be STILL so that it can not be sung (from any DOOR, from one)");
        // one door is fewer than two, though its number is greater
        TuneToEachHouse x = Check.townOf("DaabW02W12SabSbS.bSg");
        Check.due("ab: door 2", x.hush(0, NONE), 0b100);
        Check.due("ab from 0: door 0", x.hush(0, 0), 0b001);
        Check.due("ab from 1: door 1", x.hush(0, 1), 0b010);
        Check.due("ab from 2: it can not be sung from there", x.hush(0, 2), 0);
        Check.due("b", x.hush(1, NONE), 0b100);
        Check.due(".b", x.hush(2, NONE), 0b100);
        Check.due("g: none", x.hush(3, NONE), 0);
        // a door that is still already is not to be made so
        x.let(2, 7);
        Check.due("ab, door 2 is still", x.hush(0, NONE), 0);
        TuneToEachHouse y = Towns.joined(Towns.doorsOf(12, 'a') + "SaSaaS.....aSaaaaaa");
        Check.due("a: all", y.hush(0, NONE), 4095);
        Check.due("aa: all but one", y.hush(1, NONE), 2047);
        Check.due("five points and a: all", y.hush(2, NONE), 4095);
        Check.due("six times a: all but one", y.hush(3, NONE), 2047);
        Check.due("a from 11", y.hush(0, 11), 1 << 11);
        Check.due("aa from 0", y.hush(1, 0), 1);
        y.let(0, 7);
        Check.due("a, door 0 is still", y.hush(0, NONE), 4094);
        Check.due("a from 0, which is still", y.hush(0, 0), 0);
    }

    private static void leastNumber() {
        Sentences.begin(TERMS, "as bits, of as few the least number");
        TuneToEachHouse x = Check.townOf("DabcdW01W23SabSbaScdS.c");
        Check.due("ab", x.hush(0, NONE), 0b0001);
        Check.due("ba", x.hush(1, NONE), 0b0001);
        Check.due("cd", x.hush(2, NONE), 0b0100);
        Check.due(".c", x.hush(3, NONE), 0b0100);
        TuneToEachHouse y = Check.townOf("DababW01W23SabSba");
        Check.due("ab by 0 or 1 and by 2 or 3", y.hush(0, NONE), 0b0101);
        y.road(0, 3, true);
        // 0 1, 2 3, 0 3: by 0 and 2, or by 0 and 3, or by 1 and 3
        Check.due("ab, three streets", y.hush(0, NONE), 0b0101);
        y.road(1, 2, true);
        Check.due("ab, a ring", y.hush(0, NONE), 0b0101);
        y.let(0, 7);
        Check.due("ab, door 0 is still", y.hush(0, NONE), 0b0100);
        TuneToEachHouse z = Check.townOf("DaaaW01W12SaaaSaa");
        Check.due("aaa: 0 1 2, 0 1 0 .. all by door 1", z.hush(0, NONE), 0b010);
        Check.due("aa from 0", z.hush(1, 0), 0b001);
    }

    private static void pointsAlone() {
        Sentences.begin(TERMS, "NONE: it can be sung by points alone.");
        TuneToEachHouse x = Check.townOf("DabcW01S.S..S......S.a");
        Check.due("one point", x.hush(0, NONE), NONE);
        Check.due("one point from 2", x.hush(0, 2), NONE);
        Check.due("two points", x.hush(1, NONE), NONE);
        Check.due("two points from 0", x.hush(1, 0), NONE);
        Check.due("two points from 2: it can not be sung", x.hush(1, 2), 0);
        Check.due("six points", x.hush(2, NONE), NONE);
        Check.due("six points from 2", x.hush(2, 2), 0);
        Check.due("a letter among points", x.hush(3, NONE), 0b001);
        for (int door = 0; door < 3; door++) {
            x.let(door, 7);
        }
        Check.due("two points, all still", x.hush(1, NONE), NONE);
        Check.due("a letter among points, all still", x.hush(3, NONE), 0);
        x.road(0, 1, false);
        Check.due("two points with no street", x.hush(1, NONE), 0);
        Check.due("one point with no street", x.hush(0, NONE), NONE);
    }

    private static void hushBits() {
        Sentences.begin(30, "HUSH, as bits; NONE.");
        TuneToEachHouse x = Check.townOf(Towns.doorsOf(12, 'b') + "SaSbS.");
        for (int door = 0; door < 12; door++) {
            x.let(door, 0);
            Check.due("door " + door + " alone sounds a", x.hush(0, NONE), 1 << door);
            x.let(door, 1);
        }
        Check.due("none sounds a", x.hush(0, NONE), 0);
        Check.due("all sound b", x.hush(1, NONE), 4095);
        Check.due("a point", x.hush(2, NONE), NONE);
        Check.due("no door is still by it", x.count(6), 0);

        Sentences.begin(30, "(from: NONE: from any).");
        Check.due("b from any", x.hush(1, NONE), 4095);
        for (int door = 0; door < 12; door++) {
            Check.due("b from " + door, x.hush(1, door), 1 << door);
            Check.due("a from " + door, x.hush(0, door), 0);
            Check.due("a point from " + door, x.hush(2, door), NONE);
        }
    }

    private static void hushRefused() {
        Sentences.begin(30, "UNKNOWN");
        for (int doors : new int[] {1, 2, 12}) {
            TuneToEachHouse x = Check.townOf(Towns.doorsOf(doors, 'a') + "SaSb");
            Check.due("the last door and song", x.hush(1, doors - 1), 0);
            for (int door : Towns.outsideButNone(0, doors - 1)) {
                Check.due("from " + door, x.hush(0, door), UNKNOWN);
            }
            for (int song : Towns.outside(0, 1)) {
                Check.due("song " + song, x.hush(song, 0), UNKNOWN);
                Check.due("song " + song + " from any", x.hush(song, NONE), UNKNOWN);
            }
        }
    }
}
