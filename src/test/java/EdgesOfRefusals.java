import java.util.ArrayList;
import java.util.List;
import java.util.function.Supplier;

/** Refusals of all calls: which goes ahead, and that what is refused changes nothing. */
final class EdgesOfRefusals {
    private static final int UNKNOWN = -1, OUTSIDE = -2, STATE = -3, FULL = -4, NONE = -9;
    private static final int TERMS = Sentences.TERMS;

    private EdgesOfRefusals() {
    }

    /** A call of the face. */
    private interface Call {
        long on(TuneToEachHouse x);
    }

    static void run() {
        theFirstNamed();
        refusalsAheadOfNone();
        codes();
        unknownChangesNothing();
        unknownSongChangesNothing();
        outsideChangesNothing();
        stateChangesNothing();
        fullChangesNothing();
        askingChangesNothing();
    }

    /** Four doors in a ring, three songs, a walk, an ear; slot 0 is kept; a text that is no town yet. */
    private static TuneToEachHouse busy() {
        TuneToEachHouse x = Check.townOf("DfgW01SfgSgS.f");
        x.go(1);
        x.hear(6);
        x.keep(0);
        Check.write(x, "DabcaW01W12W23W30SabcS.aSgg");
        x.town();
        x.let(3, 7);
        Check.walk(x, 0, 1, 2);
        Check.hear(x, 0, 8, 2);
        Check.write(x, "DedcW12SedS.c");
        return x;
    }

    /** THE TEXT, THE WALK and THE EAR hold all that they can; both slots are kept. */
    private static TuneToEachHouse full() {
        TuneToEachHouse x = busy();
        x.keep(1);
        for (int i = x.count(4); i < 24; i++) {
            x.go(i % 4);
        }
        for (int i = x.count(5); i < 12; i++) {
            x.hear(i % 2 == 0 ? 8 : 7);
        }
        Check.write(x, Towns.ofBytes(96));
        return x;
    }

    private static TuneToEachHouse faulty() {
        TuneToEachHouse x = busy();
        Check.write(x, "DedcW12Seh");
        return x;
    }

    /** All that can be asked of an object, then the same of its slots and of the town of its text. */
    private static List<Long> allOf(TuneToEachHouse x) {
        List<Long> all = new ArrayList<>();
        addSeen(all, x);
        all.add((long) x.fault());
        all.add((long) x.again(0));
        addSeen(all, x);
        all.add((long) x.again(1));
        addSeen(all, x);
        all.add((long) x.town());
        addSeen(all, x);
        return all;
    }

    private static void addSeen(List<Long> all, TuneToEachHouse x) {
        for (int what = 0; what <= 6; what++) {
            all.add((long) x.count(what));
        }
        int doors = Math.min(5, x.count(1));
        for (int one = 0; one < doors; one++) {
            all.add((long) x.note(one));
            for (int other = 0; other < one; other++) {
                all.add((long) x.street(one, other));
            }
        }
        for (int song = 0; song < x.count(3); song++) {
            for (int i = 0; i < 4; i++) {
                all.add((long) x.song(song, i));
            }
        }
        for (int place = 0; place < x.count(4); place++) {
            all.add((long) x.at(place));
        }
        for (int i = 0; i < x.count(5); i++) {
            all.add((long) x.mayBe(i));
        }
        all.add(x.fitting());
        all.add((long) x.parted(false));
    }

    private static void changesNothing(Supplier<TuneToEachHouse> made, String call, int want, Call refused) {
        TuneToEachHouse x = made.get();
        Check.due(call, refused.on(x), want);
        Check.isTrue(call + " changes nothing", allOf(x).equals(allOf(made.get())));
    }

    private static void refused(String call, int want, Call refused) {
        changesNothing(EdgesOfRefusals::busy, call, want, refused);
    }

    private static void theFirstNamed() {
        Sentences.begin(TERMS, "REFUSALS, of several the first that a call names");
        TuneToEachHouse x = full();
        for (int n : Towns.outside(1, 8)) {
            Check.due("write(" + n + ") of 96: OUTSIDE, FULL", x.write(n, 0), OUTSIDE);
        }
        for (int door : Towns.outside(0, 3)) {
            Check.due("let(" + door + ", 8): UNKNOWN, OUTSIDE", x.let(door, 8), UNKNOWN);
            Check.due("road(" + door + ", the same): UNKNOWN, STATE", x.road(door, door, true), UNKNOWN);
            Check.due("go(" + door + ") of 24: UNKNOWN, STATE, FULL", x.go(door), UNKNOWN);
            Check.due("safe from " + door + ", 13: UNKNOWN, OUTSIDE", x.safe(0, door, 0, 13), UNKNOWN);
            Check.due("safe to " + door + ", -1: UNKNOWN, OUTSIDE", x.safe(0, 0, door, -1), UNKNOWN);
        }
        for (int song : Towns.outside(0, 2)) {
            Check.due("heard(" + song + ", 24): UNKNOWN, OUTSIDE", x.heard(song, 24), UNKNOWN);
            Check.due("heard(" + song + ", -1): UNKNOWN, OUTSIDE", x.heard(song, -1), UNKNOWN);
            Check.due("safe of song " + song + ", 13: UNKNOWN, OUTSIDE", x.safe(song, 0, 0, 13), UNKNOWN);
        }
        Check.due("go(3) of 24, one is there: STATE, FULL", x.go(3), STATE);
        Check.due("go(1) of 24, no street: STATE, FULL", x.go(1), STATE);
        Check.due("go(2) of 24: FULL", x.go(2), FULL);
        for (int note : Towns.outside(0, 8)) {
            Check.due("hear(" + note + ") of 12: OUTSIDE, FULL", x.hear(note), OUTSIDE);
        }
        for (int slot : Towns.outside(0, 1)) {
            Check.due("again(" + slot + "), none kept: UNKNOWN, STATE", new TuneToEachHouse().again(slot), UNKNOWN);
        }
    }

    private static void refusalsAheadOfNone() {
        Sentences.begin(TERMS, "UNKNOWN (there is no such DOOR, SONG, SLOT)");
        // where the answer would be NONE, there being no such song or door goes ahead
        TuneToEachHouse x = Check.townOf("DabSggS.");
        Check.due("song(2, 9)", x.song(2, 9), UNKNOWN);
        Check.due("first(2, 9)", x.first(2, 9), UNKNOWN);
        Check.due("round(0, 0, 2)", x.round(0, 0, 2), UNKNOWN);
        Check.due("round(2, 0, 1)", x.round(2, 0, 1), UNKNOWN);
        Check.due("roundAt(0, 2, 0, 9)", x.roundAt(0, 2, 0, 9), UNKNOWN);
        Check.due("both(0, 2)", x.both(0, 2), UNKNOWN);
        Check.due("both(2, 0)", x.both(2, 0), UNKNOWN);
        Check.due("best(0, 2)", x.best(0, 2), UNKNOWN);
        Check.due("bestAt(0, 2, 9)", x.bestAt(0, 2, 9), UNKNOWN);
        Check.due("bestAt(2, 0, -1)", x.bestAt(2, 0, -1), UNKNOWN);
        Check.due("hush(1, 2)", x.hush(1, 2), UNKNOWN);
        Check.due("hush(2, NONE)", x.hush(2, NONE), UNKNOWN);
        Check.due("heard(2, 0)", x.heard(2, 0), UNKNOWN);
        Check.due("keep(2)", x.keep(2), UNKNOWN);
    }

    private static void codes() {
        Sentences.begin(TERMS, "NONE is -9.");
        Check.due("NONE", TuneToEachHouse.NONE, -9);
        Check.due("at(0)", new TuneToEachHouse().at(0), -9);

        Sentences.begin(Sentences.ELSEWHERE, "UNKNOWN = -1, OUTSIDE = -2, STATE = -3, FULL = -4, NONE = -9;");
        Check.due("UNKNOWN", TuneToEachHouse.UNKNOWN, -1);
        Check.due("OUTSIDE", TuneToEachHouse.OUTSIDE, -2);
        Check.due("STATE", TuneToEachHouse.STATE, -3);
        Check.due("FULL", TuneToEachHouse.FULL, -4);
    }

    private static void unknownChangesNothing() {
        Sentences.begin(TERMS, "What is refused changes nothing.");
        for (int door : Towns.outside(0, 3)) {
            refused("note(" + door + ")", UNKNOWN, x -> x.note(door));
            refused("let(" + door + ", 3)", UNKNOWN, x -> x.let(door, 3));
            refused("street(" + door + ", 0)", UNKNOWN, x -> x.street(door, 0));
            refused("road(" + door + ", 0, true)", UNKNOWN, x -> x.road(door, 0, true));
            refused("road(0, " + door + ", false)", UNKNOWN, x -> x.road(0, door, false));
            refused("go(" + door + ")", UNKNOWN, x -> x.go(door));
            refused("round from " + door, UNKNOWN, x -> x.round(0, door, 0));
            refused("roundAt to " + door, UNKNOWN, x -> x.roundAt(0, 0, door, 0));
            refused("safe to " + door, UNKNOWN, x -> x.safe(0, 0, door, 0));
            refused("best from " + door, UNKNOWN, x -> x.best(0, door));
            refused("bestAt from " + door, UNKNOWN, x -> x.bestAt(0, door, 0));
        }
        for (int door : Towns.outsideButNone(0, 3)) {
            refused("ways from " + door, UNKNOWN, x -> x.ways(0, door, NONE));
            refused("hush from " + door, UNKNOWN, x -> x.hush(0, door));
        }
        for (int slot : Towns.outside(0, 1)) {
            refused("keep(" + slot + ")", UNKNOWN, x -> x.keep(slot));
            refused("again(" + slot + ")", UNKNOWN, x -> x.again(slot));
        }
    }

    private static void unknownSongChangesNothing() {
        for (int song : Towns.outside(0, 2)) {
            refused("song(" + song + ", 0)", UNKNOWN, x -> x.song(song, 0));
            refused("heard(" + song + ", 0)", UNKNOWN, x -> x.heard(song, 0));
            refused("ways of song " + song, UNKNOWN, x -> x.ways(song, 0, 0));
            refused("first(" + song + ", 0)", UNKNOWN, x -> x.first(song, 0));
            refused("begun(" + song + ")", UNKNOWN, x -> x.begun(song));
            refused("round of song " + song, UNKNOWN, x -> x.round(song, 0, 1));
            refused("roundAt of song " + song, UNKNOWN, x -> x.roundAt(song, 0, 1, 0));
            refused("safe of song " + song, UNKNOWN, x -> x.safe(song, 0, 1, 1));
            refused("both(" + song + ", 0)", UNKNOWN, x -> x.both(song, 0));
            refused("both(0, " + song + ")", UNKNOWN, x -> x.both(0, song));
            refused("best of song " + song, UNKNOWN, x -> x.best(song, 0));
            refused("bestAt of song " + song, UNKNOWN, x -> x.bestAt(song, 0, 0));
            refused("hush of song " + song, UNKNOWN, x -> x.hush(song, NONE));
        }
    }

    private static void outsideChangesNothing() {
        Sentences.begin(TERMS, "OUTSIDE (another number is not as told)");
        for (int n : Towns.outside(1, 8)) {
            refused("write(" + n + ")", OUTSIDE, x -> x.write(n, 'S' << 8 | 'a'));
        }
        for (int note : Towns.outside(0, 7)) {
            refused("let(3, " + note + ")", OUTSIDE, x -> x.let(3, note));
        }
        for (int from : Towns.outside(0, 23)) {
            refused("heard(0, " + from + ")", OUTSIDE, x -> x.heard(0, from));
        }
        for (int n : Towns.outside(0, 12)) {
            refused("safe in steps " + n, OUTSIDE, x -> x.safe(0, 0, 1, n));
        }
        for (int note : Towns.outside(0, 8)) {
            refused("hear(" + note + ")", OUTSIDE, x -> x.hear(note));
        }
        for (int i : Towns.outside(0, 2)) {
            refused("mayBe(" + i + ")", OUTSIDE, x -> x.mayBe(i));
        }
        for (int what : Towns.outside(0, 6)) {
            refused("count(" + what + ")", OUTSIDE, x -> x.count(what));
        }
    }

    private static void stateChangesNothing() {
        Sentences.begin(TERMS, "STATE (as told)");
        changesNothing(EdgesOfRefusals::faulty, "town() with a FAULT", STATE, TuneToEachHouse::town);
        changesNothing(TuneToEachHouse::new, "town() of nothing", STATE, TuneToEachHouse::town);
        for (int door = 0; door < 4; door++) {
            int same = door;
            refused("road(" + door + ", the same, true)", STATE, x -> x.road(same, same, true));
            refused("road(" + door + ", the same, false)", STATE, x -> x.road(same, same, false));
        }
        refused("go(0), no street from 2", STATE, x -> x.go(0));
        refused("go(2), where one is", STATE, x -> x.go(2));
        changesNothing(EdgesOfRefusals::full, "go(1) of 24, no street from 3", STATE, x -> x.go(1));
        refused("again(1), none kept", STATE, x -> x.again(1));
        changesNothing(TuneToEachHouse::new, "again(0), none kept", STATE, x -> x.again(0));
    }

    private static void fullChangesNothing() {
        Sentences.begin(TERMS, "FULL.");
        for (int n = 1; n <= 8; n++) {
            int bytes = n;
            changesNothing(EdgesOfRefusals::full, "write(" + n + ") of 96", FULL, x -> x.write(bytes, 'b'));
        }
        changesNothing(EdgesOfRefusals::full, "go(0) of 24", FULL, x -> x.go(0));
        changesNothing(EdgesOfRefusals::full, "go(2) of 24", FULL, x -> x.go(2));
        for (int note = 0; note <= 8; note++) {
            int more = note;
            changesNothing(EdgesOfRefusals::full, "hear(" + note + ") of 12", FULL, x -> x.hear(more));
        }
    }

    private static void asked(String call, Call asking) {
        for (Supplier<TuneToEachHouse> made : List.<Supplier<TuneToEachHouse>>of(
            EdgesOfRefusals::busy, EdgesOfRefusals::full, EdgesOfRefusals::faulty)) {
            TuneToEachHouse x = made.get();
            long answer = asking.on(x);
            Check.due(call + ", asked again", asking.on(x), answer);
            Check.isTrue(call + " changes nothing", allOf(x).equals(allOf(made.get())));
        }
    }

    private static void askingChangesNothing() {
        Sentences.begin(Sentences.ELSEWHERE, "Nothing is promised beyond the answers and state changes described above");
        asked("fault()", TuneToEachHouse::fault);
        asked("note(3)", x -> x.note(3));
        asked("street(0, 3)", x -> x.street(0, 3));
        asked("song(0, 9)", x -> x.song(0, 9));
        asked("at(2)", x -> x.at(2));
        asked("heard(0, 0)", x -> x.heard(0, 0));
        for (int each = 0; each < 3; each++) {
            int song = each;
            asked("ways of song " + song, x -> x.ways(song, NONE, NONE));
            asked("first of song " + song, x -> x.first(song, 1));
            asked("begun of song " + song, x -> x.begun(song));
            asked("round of song " + song, x -> x.round(song, 0, 2));
            asked("roundAt of song " + song, x -> x.roundAt(song, 0, 2, 1));
            asked("safe of song " + song, x -> x.safe(song, 0, 2, 12));
            asked("both of song " + song, x -> x.both(song, 1));
            asked("best of song " + song, x -> x.best(song, 0));
            asked("bestAt of song " + song, x -> x.bestAt(song, 0, 3));
            asked("hush of song " + song, x -> x.hush(song, NONE));
        }
        asked("mayBe(1)", x -> x.mayBe(1));
        asked("fitting()", TuneToEachHouse::fitting);
        asked("parted(false)", x -> x.parted(false));
        asked("parted(true)", x -> x.parted(true));
        asked("count(2)", x -> x.count(2));
    }
}
