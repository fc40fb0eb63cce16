/** Edges of THE WALK, and of where a SONG is in it: promises 12 to 15. */
final class EdgesOfWalk {
    private static final int UNKNOWN = -1, OUTSIDE = -2, STATE = -3, FULL = -4, NONE = -9;
    private static final int TERMS = Sentences.TERMS;

    private EdgesOfWalk() {
    }

    static void run() {
        emptyWalks();
        mostDoors();
        going();
        goingRefused();
        goneHome();
        places();
        firstPlaces();
        fullWalk();
        heardRefused();
        fits();
        pointsTakeAll();
    }

    /** A walk to and fro between doors 0 and 1. */
    private static void walkToAndFro(TuneToEachHouse x, int doors) {
        int[] way = new int[doors];
        for (int i = 0; i < doors; i++) {
            way[i] = i % 2;
        }
        Check.walk(x, way);
    }

    private static void emptyWalks() {
        Sentences.begin(TERMS, "empty at first, and when THE TOWN is made anew).");
        TuneToEachHouse x = new TuneToEachHouse();
        Check.due("at first", x.count(4), 0);
        Check.due("at(0) at first", x.at(0), NONE);
        Check.write(x, "DabcW01");
        x.town();
        Check.due("in a new town", x.count(4), 0);
        Check.walk(x, 1, 0);
        x.town();
        Check.due("in the same town, made anew", x.count(4), 0);
        Check.due("at(0)", x.at(0), NONE);
        Check.due("go(2): no street to it is asked for", x.go(2), 1);
        Check.write(x, "DabcX");
        x.town();
        Check.due("the town is not made anew", x.count(4), 1);
    }

    private static void mostDoors() {
        Sentences.begin(TERMS, "THE WALK is a WAY that is told (24 DOORS at most");
        TuneToEachHouse x = Check.townOf("DabW01");
        for (int i = 0; i < 24; i++) {
            Check.due("go, time " + (i + 1), x.go(i % 2), i + 1);
        }
        Check.due("go, time 25", x.go(0), FULL);
        Check.due("count(4)", x.count(4), 24);
        Check.due("at(23)", x.at(23), 1);
        Check.due("at(24)", x.at(24), NONE);
    }

    private static void going() {
        Sentences.begin(12, "A DOOR comes behind THE WALK: how many it has.");
        TuneToEachHouse x = Check.townOf(Towns.doors(12) + Towns.row(12));
        for (int door = 0; door < 12; door++) {
            Check.due("go(" + door + ")", x.go(door), door + 1);
            Check.due("at its end", x.at(door), door);
        }
        Check.due("go(10), back again", x.go(10), 13);
        for (int door = 0; door < 12; door++) {
            x.home();
            Check.due("go(" + door + ") as the first", x.go(door), 1);
        }

        Sentences.begin(12, "FULL: 24.");
        TuneToEachHouse y = Check.townOf("DabW01");
        walkToAndFro(y, 23);
        Check.due("go of 23", y.go(1), 24);
        Check.due("go of 24", y.go(0), FULL);
        Check.due("go of 24 again", y.go(0), FULL);
        Check.due("count(4)", y.count(4), 24);
        y.home();
        Check.due("go from home", y.go(0), 1);
    }

    private static void goingRefused() {
        Sentences.begin(12, "UNKNOWN");
        for (int doors : new int[] {1, 2, 12}) {
            TuneToEachHouse x = Check.townOf(Towns.doors(doors));
            for (int door : Towns.outside(0, doors - 1)) {
                Check.due("go(" + door + ") of doors " + doors, x.go(door), UNKNOWN);
            }
            Check.due("THE WALK", x.count(4), 0);
            Check.due("go of the last of doors " + doors, x.go(doors - 1), 1);
            for (int door : Towns.outside(0, doors - 1)) {
                Check.due("go(" + door + ") behind it", x.go(door), UNKNOWN);
            }
            Check.due("THE WALK then", x.count(4), 1);
        }

        Sentences.begin(12, "STATE: there is no STREET to it");
        TuneToEachHouse x = Check.townOf("DabcdW01W12");
        Check.due("go(3), none is asked for", x.go(3), 1);
        for (int door = 0; door < 4; door++) {
            Check.due("go(" + door + ") from 3", x.go(door), STATE);
        }
        Check.walk(x, 0, 1);
        Check.due("go(1), where one is", x.go(1), STATE);
        Check.due("go(3) from 1", x.go(3), STATE);
        Check.due("THE WALK", x.count(4), 2);
        Check.due("go(0) from 1, against the street's telling", x.go(0), 3);
        // a street to a door that was passed is not enough
        Check.due("go(2) from 0", x.go(2), STATE);
    }

    private static void goneHome() {
        Sentences.begin(13, "THE WALK is empty: how many DOORS it had.");
        TuneToEachHouse x = Check.townOf("DabcW01");
        Check.due("home() at first", x.home(), 0);
        for (int doors : new int[] {1, 2, 23, 24}) {
            walkToAndFro(x, doors);
            Check.due("home() of " + doors, x.home(), doors);
            Check.due("count(4)", x.count(4), 0);
            Check.due("at(0)", x.at(0), NONE);
            Check.due("home() again", x.home(), 0);
        }
        Check.due("go(2), no street is asked for", x.go(2), 1);
    }

    private static void places() {
        Sentences.begin(14, "The DOOR of THE WALK at a place (from 0)");
        TuneToEachHouse x = Check.townOf("DabcW01W12");
        Check.walk(x, 2, 1, 0, 1, 2);
        int[] way = {2, 1, 0, 1, 2};
        for (int place = 0; place < way.length; place++) {
            Check.due("at(" + place + ")", x.at(place), way[place]);
        }

        Sentences.begin(14, "NONE: it has not so many.");
        for (int doors : new int[] {0, 1, 2, 23, 24}) {
            walkToAndFro(x, doors);
            if (doors > 0) {
                Check.due("at the last of " + doors, x.at(doors - 1), (doors - 1) % 2);
            }
            for (int place : Towns.outside(0, doors - 1)) {
                Check.due("at(" + place + ") of " + doors, x.at(place), NONE);
            }
        }
        walkToAndFro(x, 24);
        walkToAndFro(x, 1);
        Check.due("at(1), of the longer walk that was", x.at(1), NONE);
        Check.due("at(23), of the longer walk that was", x.at(23), NONE);
    }

    private static void firstPlaces() {
        Sentences.begin(15, "The first place of THE WALK from one on");
        TuneToEachHouse x = Check.townOf("DabcW01W12SabSbSbcbSc");
        Check.walk(x, 0, 1, 2, 1, 0, 1);
        int[][] want = {{0, 4, 4, 4, 4, NONE}, {1, 1, 3, 3, 5, 5}, {1, 1, NONE, NONE, NONE, NONE},
            {2, 2, 2, NONE, NONE, NONE}};
        for (int song = 0; song < want.length; song++) {
            for (int from = 0; from < 6; from++) {
                Check.due("heard(" + song + ", " + from + ")", x.heard(song, from), want[song][from]);
            }
        }

        Sentences.begin(15, "from which a SONG FITS; NONE.");
        Check.due("from behind the end", x.heard(1, 6), NONE);
        Check.due("from far behind the end", x.heard(1, 23), NONE);
        x.home();
        Check.due("of an empty walk", x.heard(1, 0), NONE);
        Check.walk(x, 1);
        Check.due("of one door", x.heard(1, 0), 0);
        Check.due("of one door, from 1", x.heard(1, 1), NONE);
        Check.due("of one door, another song", x.heard(3, 0), NONE);
    }

    private static void fullWalk() {
        Sentences.begin(15, "(0 to 23)");
        TuneToEachHouse x = Check.townOf("DabW01SbSababab");
        walkToAndFro(x, 24);
        Check.due("one sign, from 0", x.heard(0, 0), 1);
        Check.due("one sign, from 22", x.heard(0, 22), 23);
        Check.due("one sign, from 23", x.heard(0, 23), 23);
        Check.due("one sign, from 24", x.heard(0, 24), OUTSIDE);
        Check.due("six signs, from 17", x.heard(1, 17), 18);
        Check.due("six signs, from 18, the last place", x.heard(1, 18), 18);
        Check.due("six signs, from 19", x.heard(1, 19), NONE);
        Check.due("six signs, from 23", x.heard(1, 23), NONE);
        x.home();
        Check.due("an empty walk, from 23", x.heard(0, 23), NONE);
    }

    private static void heardRefused() {
        Sentences.begin(15, "OUTSIDE.");
        TuneToEachHouse x = Check.townOf("DabW01SaSb");
        Check.walk(x, 0, 1);
        for (int from : Towns.outside(0, 23)) {
            Check.due("heard(0, " + from + ")", x.heard(0, from), OUTSIDE);
        }

        Sentences.begin(15, "UNKNOWN");
        Check.due("heard(1, 0), the last song", x.heard(1, 0), 1);
        for (int song : Towns.outside(0, 1)) {
            Check.due("heard(" + song + ", 0)", x.heard(song, 0), UNKNOWN);
        }
        Check.due("with no song", new TuneToEachHouse().heard(0, 0), UNKNOWN);
    }

    private static void fits() {
        Sentences.begin(TERMS, "A SONG FITS as many DOORS of it as it has signs, one behind the other, if each NOTE is as its sign.");
        TuneToEachHouse x = Check.townOf("DababW01W12W23SababSabaS.bSbb");
        Check.walk(x, 0, 1, 2);
        Check.due("one sign more than THE WALK", x.heard(0, 0), NONE);
        Check.due("as many signs as THE WALK", x.heard(1, 0), 0);
        Check.due("fewer signs", x.heard(2, 0), 0);
        Check.due("doors that are not behind one another", x.heard(3, 0), NONE);
        x.go(3);
        Check.due("as many signs now", x.heard(0, 0), 0);
        for (int door = 0; door < 4; door++) {
            int had = x.let(door, 2);
            Check.due("but for the note of door " + door, x.heard(0, 0), NONE);
            x.let(door, had);
        }
    }

    private static void pointsTakeAll() {
        Sentences.begin(TERMS, "(any NOTE, and a STILL one)");
        TuneToEachHouse x = Check.townOf("DaS.SaSgSf");
        Check.walk(x, 0);
        for (int note = 0; note <= 7; note++) {
            x.let(0, note);
            Check.due("a point, note " + note + ", heard", x.heard(0, 0), 0);
            Check.due("a point, note " + note + ", ways", x.ways(0, NONE, NONE), 1);
            Check.due("a point, note " + note + ", first", x.first(0, 0), 0);
            Check.due("a point, note " + note + ", begun", x.begun(0), 1);
            Check.due("a point, note " + note + ", round", x.round(0, 0, 0), NONE);
            Check.due("a point, note " + note + ", safe", x.safe(0, 0, 0, 0), 0);
            Check.due("a point, note " + note + ", both", x.both(0, 0), 1);
            Check.due("a point, note " + note + ", best", x.best(0, 0), 1);
            Check.due("a point, note " + note + ", hush", x.hush(0, NONE), NONE);
            boolean[] is = {note == 0, note == 6, note == 5};
            for (int song = 1; song <= 3; song++) {
                Check.due("letter " + song + ", note " + note + ", heard", x.heard(song, 0), is[song - 1] ? 0 : NONE);
                Check.due("letter " + song + ", note " + note + ", ways", x.ways(song, 0, 0), is[song - 1] ? 1 : 0);
                Check.due("letter " + song + ", note " + note + ", round", x.round(song, 0, 0), is[song - 1] ? NONE : 0);
                Check.due("letter " + song + ", note " + note + ", best", x.best(song, 0), is[song - 1] ? 1 : 0);
                Check.due("letter " + song + ", note " + note + ", hush", x.hush(song, 0), is[song - 1] ? 1 : 0);
            }
        }
    }
}
