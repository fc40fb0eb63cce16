/** Edges of SLOTS and of what is counted: promises 31 to 33; and of how long an object is used. */
final class EdgesOfSlots {
    private static final int UNKNOWN = -1, OUTSIDE = -2, STATE = -3, FULL = -4, NONE = -9;
    private static final int TERMS = Sentences.TERMS;

    private EdgesOfSlots() {
    }

    static void run() {
        slotNumbers();
        allIsKept();
        kept();
        notKept();
        keptApart();
        leastCounts();
        mostCounts();
        countsOutside();
        lastCalls();
    }

    private static void slotNumbers() {
        Sentences.begin(31, "They are kept: how many DOORS.");
        for (int doors = 1; doors <= 12; doors++) {
            TuneToEachHouse x = Check.townOf(Towns.doors(doors));
            Check.due("keep(0) of doors " + doors, x.keep(0), doors);
            Check.due("keep(1) of doors " + doors, x.keep(1), doors);
        }

        Sentences.begin(31, "UNKNOWN.");
        TuneToEachHouse x = new TuneToEachHouse();
        for (int slot : Towns.outside(0, 1)) {
            Check.due("keep(" + slot + ")", x.keep(slot), UNKNOWN);
        }
        Check.due("none is kept in 0", x.again(0), STATE);
        Check.due("none is kept in 1", x.again(1), STATE);

        Sentences.begin(32, "UNKNOWN");
        x.keep(0);
        x.keep(1);
        for (int slot : Towns.outside(0, 1)) {
            Check.due("again(" + slot + ")", x.again(slot), UNKNOWN);
        }
        Check.due("again(0)", x.again(0), 1);
        Check.due("again(1)", x.again(1), 1);
    }

    /** A town with all that it can hold. */
    private static TuneToEachHouse fullTown() {
        TuneToEachHouse x = Towns.joined(Towns.doors(12) + "SabcdefSg.a.gaS......Sb");
        x.let(11, 7);
        for (int i = 0; i < 24; i++) {
            x.go((i * 5 + 1) % 12);
        }
        for (int i = 0; i < 12; i++) {
            x.hear(i % 9);
        }
        return x;
    }

    private static void allIsKept() {
        Sentences.begin(TERMS, "SLOTS 0 to 1 keep THE TOWN, THE WALK, what THE EAR heard.");
        for (int slot = 0; slot <= 1; slot++) {
            TuneToEachHouse x = fullTown();
            Check.due("keep", x.keep(slot), 12);
            Check.write(x, "DgfW01Sc");
            Check.due("town()", x.town(), 2);
            fillOtherwise(x);
            Check.due("again", x.again(slot), 12);
            isFull(x);
            Check.due("go(0), on from a full walk", x.go(0), FULL);
            Check.due("hear(0), on from a full ear", x.hear(0), FULL);
            Check.due("THE TEXT is not kept", x.count(0), 8);
            Check.due("THE TEXT is as it was", x.town(), 2);
        }
    }

    /** Each place of THE WALK and of THE EAR gets another door and note than in the full town. */
    private static void fillOtherwise(TuneToEachHouse x) {
        for (int i = 0; i < 24; i++) {
            Check.due("go", x.go(i % 2), i + 1);
        }
        for (int i = 0; i < 12; i++) {
            Check.due("hear", x.hear((i + 4) % 9), i + 1);
        }
    }

    private static void isFull(TuneToEachHouse x) {
        for (int door = 0; door < 12; door++) {
            Check.due("kept: note(" + door + ")", x.note(door), door == 11 ? 7 : door % 7);
        }
        Check.due("kept: streets", x.count(2), 66);
        Check.due("kept: songs", x.count(3), 4);
        int[] lastSigns = {5, 0, 8, NONE};
        for (int song = 0; song < 4; song++) {
            Check.due("kept: song(" + song + ", 5)", x.song(song, 5), lastSigns[song]);
        }
        Check.due("kept: song(3, 0)", x.song(3, 0), 1);
        Check.due("kept: THE WALK", x.count(4), 24);
        for (int place = 0; place < 24; place++) {
            Check.due("kept: at(" + place + ")", x.at(place), (place * 5 + 1) % 12);
        }
        Check.due("kept: heard", x.count(5), 12);
        // doors with note k: k, and k + 7 if it is not still; one that was missed is not where one just was
        int[] bits = {0x081, 0x102, 0x204, 0x408, 0x010, 0x020, 0x040, 0x800, 0x7ff};
        for (int i = 0; i < 12; i++) {
            Check.due("kept: mayBe(" + i + ")", x.mayBe(i), bits[i % 9]);
        }
    }

    private static void kept() {
        Sentences.begin(32, "They are as they were kept: how many DOORS.");
        TuneToEachHouse x = Check.townOf("DabcW01Sab");
        Check.walk(x, 0, 1);
        Check.hear(x, 0, 8);
        Check.due("keep(0)", x.keep(0), 3);
        // nothing of what is done now reaches the slot, neither ahead of again nor behind it
        for (int time = 0; time < 2; time++) {
            x.let(0, 7);
            x.road(1, 2, true);
            x.road(0, 1, false);
            x.spring();
            x.deaf();
            x.go(2);
            Check.due("again(0)", x.again(0), 3);
            for (int door = 0; door < 3; door++) {
                Check.due("note(" + door + ")", x.note(door), door);
            }
            Check.due("street(0, 1)", x.street(0, 1), 1);
            Check.due("street(1, 2)", x.street(1, 2), 0);
            Check.due("streets", x.count(2), 1);
            Check.due("THE WALK", x.count(4), 2);
            Check.due("at(1)", x.at(1), 1);
            Check.due("heard", x.count(5), 2);
            Check.due("go(0), on from there", x.go(0), 3);
            Check.due("hear(0), on from there", x.hear(0), 3);
        }
        Check.write(x, "Dg");
        x.town();
        Check.due("again(0) behind another town", x.again(0), 3);
        Check.due("song(0, 1)", x.song(0, 1), 1);
        x.home();
        x.deaf();
        Check.due("keep(0), an empty walk, nothing heard", x.keep(0), 3);
        Check.walk(x, 1);
        Check.hear(x, 1);
        Check.due("again(0)", x.again(0), 3);
        Check.due("THE WALK is empty", x.count(4), 0);
        Check.due("nothing is heard", x.count(5), 0);
    }

    private static void notKept() {
        Sentences.begin(32, "STATE: none were kept.");
        TuneToEachHouse x = new TuneToEachHouse();
        Check.due("again(0) at first", x.again(0), STATE);
        Check.due("again(1) at first", x.again(1), STATE);
        Check.due("keep(1)", x.keep(1), 1);
        Check.due("again(0), only 1 was kept", x.again(0), STATE);
        Check.due("again(1)", x.again(1), 1);
        TuneToEachHouse y = Check.townOf("DabW01");
        Check.due("keep(0)", y.keep(0), 2);
        Check.due("again(1), only 0 was kept", y.again(1), STATE);
        Check.due("again(0)", y.again(0), 2);
        Check.due("again(0), it is still kept", y.again(0), 2);
    }

    private static void keptApart() {
        Sentences.begin(32, "They are as they were kept: how many DOORS.");
        TuneToEachHouse x = new TuneToEachHouse();
        Check.due("keep(0), as it was at first", x.keep(0), 1);
        Check.write(x, "Dgfe");
        x.town();
        Check.due("keep(1)", x.keep(1), 3);
        Check.due("again(0)", x.again(0), 1);
        Check.due("note(0) of 0", x.note(0), 0);
        Check.due("note(1) of 0", x.note(1), UNKNOWN);
        Check.due("again(1)", x.again(1), 3);
        Check.due("note(0) of 1", x.note(0), 6);
        x.let(0, 3);
        Check.due("keep(0), over what was kept", x.keep(0), 3);
        Check.due("again(1)", x.again(1), 3);
        Check.due("note(0) of 1", x.note(0), 6);
        Check.due("again(0)", x.again(0), 3);
        Check.due("note(0) of 0, the later one", x.note(0), 3);
    }

    private static void countsAre(TuneToEachHouse x, int... want) {
        for (int what = 0; what < want.length; what++) {
            Check.due("count(" + what + ")", x.count(what), want[what]);
        }
    }

    private static void leastCounts() {
        Sentences.begin(33, "0 bytes of THE TEXT, 1 DOORS, 2 STREETS, 3 SONGS, 4 DOORS of THE WALK, 5 NOTES that are heard, 6 DOORS that are STILL.");
        TuneToEachHouse x = new TuneToEachHouse();
        countsAre(x, 0, 1, 0, 0, 0, 0, 0);
        x.write(1, 'D');
        countsAre(x, 1, 1, 0, 0, 0, 0, 0);
        x.write(2, 'b' << 8 | 'c');
        x.town();
        countsAre(x, 3, 2, 0, 0, 0, 0, 0);
        x.road(0, 1, true);
        countsAre(x, 3, 2, 1, 0, 0, 0, 0);
        x.write(2, 'S' << 8 | '.');
        x.town();
        countsAre(x, 5, 2, 0, 1, 0, 0, 0);
        x.go(0);
        countsAre(x, 5, 2, 0, 1, 1, 0, 0);
        x.hear(7);
        countsAre(x, 5, 2, 0, 1, 1, 1, 0);
        x.let(1, 7);
        countsAre(x, 5, 2, 0, 1, 1, 1, 1);
    }

    private static void mostCounts() {
        Sentences.begin(33, "0 bytes of THE TEXT, 1 DOORS, 2 STREETS, 3 SONGS, 4 DOORS of THE WALK, 5 NOTES that are heard, 6 DOORS that are STILL.");
        TuneToEachHouse x = fullTown();
        for (int door = 0; door < 12; door++) {
            x.let(door, 7);
        }
        Check.write(x, "x".repeat(96));
        countsAre(x, 96, 12, 66, 4, 24, 12, 12);
        x.let(3, 0);
        x.spring();
        countsAre(x, 96, 12, 66, 4, 24, 12, 11);
    }

    private static void countsOutside() {
        Sentences.begin(33, "OUTSIDE.");
        TuneToEachHouse x = fullTown();
        for (int what : Towns.outside(0, 6)) {
            Check.due("count(" + what + ")", x.count(what), OUTSIDE);
        }
        Check.due("count(6)", x.count(6), 1);
        Check.due("count(0)", x.count(0), Towns.doors(12).length() + 23);
    }

    private static void lastCalls() {
        Sentences.begin(Sentences.ELSEWHERE, "An object is used for at most 512 calls after it has been made");
        TuneToEachHouse x = new TuneToEachHouse();
        Check.due("call 1: write", x.write(8, 0x446162573031L << 16 | 'S' << 8 | 'a'), 8);
        Check.due("call 2: write", x.write(1, 'b'), 9);
        int calls = 2;
        for (; calls + 15 <= 512; calls += 15) {
            Check.due("town()", x.town(), 2);
            Check.due("go(0)", x.go(0), 1);
            Check.due("hear(8)", x.hear(8), 1);
            Check.due("keep", x.keep(calls % 2), 2);
            Check.due("let(0, 7)", x.let(0, 7), 0);
            Check.due("road(0, 1, false)", x.road(0, 1, false), 1);
            Check.due("best(0, 0)", x.best(0, 0), NONE);
            Check.due("again", x.again(calls % 2), 2);
            Check.due("ways(0, NONE, NONE)", x.ways(0, NONE, NONE), 1);
            Check.due("round(0, 1, 0)", x.round(0, 1, 0), 1);
            Check.due("safe(0, 1, 0, 1)", x.safe(0, 1, 0, 1), 1);
            Check.due("best(0, 0)", x.best(0, 0), 2);
            Check.due("hush(0, NONE)", x.hush(0, NONE), 1);
            Check.due("mayBe(0)", x.mayBe(0), 0b11);
            Check.due("count(4)", x.count(4), 1);
        }
        Check.due("calls", calls, 512);
    }
}
