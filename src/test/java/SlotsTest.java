/** Promises 31 to 33: SLOTS, and counts. */
public final class SlotsTest {
    private static final int UNKNOWN = -1, OUTSIDE = -2, STATE = -3, NONE = -9;

    public static void main(String[] args) {
        keptAndAgain();
        twoSlots();
        counts();
        Check.end("SlotsTest");
    }

    private static void keptAndAgain() {
        TuneToEachHouse x = Check.townOf("DabcW01W12SabSc.");
        for (int slot : new int[] {-1, 2, NONE, Integer.MAX_VALUE}) {
            Check.due("keep(" + slot + ")", x.keep(slot), UNKNOWN);
            Check.due("again(" + slot + ")", x.again(slot), UNKNOWN);
        }
        Check.due("again(1), none kept", x.again(1), STATE);
        x.let(2, 7);
        Check.walk(x, 1, 0);
        Check.hear(x, 0, 8, 7);
        Check.due("keep(0)", x.keep(0), 3);
        Check.due("again(1), none kept there", x.again(1), STATE);
        x.spring();
        x.road(0, 1, false);
        x.road(0, 2, true);
        x.deaf();
        x.hear(6);
        Check.write(x, "DgSgSfSe");
        Check.due("town()", x.town(), 1);
        Check.due("again(0)", x.again(0), 3);
        checkKept(x);
        Check.due("THE TEXT is not kept", x.count(0), 8);
        x.let(0, 5);
        x.go(1);
        x.hear(1);
        x.road(1, 2, false);
        Check.due("again(0), a second time", x.again(0), 3);
        checkKept(x);
    }

    private static void checkKept(TuneToEachHouse x) {
        int[] notes = {0, 1, 7};
        for (int door = 0; door < notes.length; door++) {
            Check.due("kept: note(" + door + ")", x.note(door), notes[door]);
        }
        Check.due("kept: street(0, 1)", x.street(0, 1), 1);
        Check.due("kept: street(1, 2)", x.street(1, 2), 1);
        Check.due("kept: street(0, 2)", x.street(0, 2), 0);
        Check.due("kept: songs", x.count(3), 2);
        Check.due("kept: song(0, 1)", x.song(0, 1), 1);
        Check.due("kept: song(0, 2)", x.song(0, 2), NONE);
        Check.due("kept: song(1, 1)", x.song(1, 1), 8);
        Check.due("kept: walk", x.count(4), 2);
        Check.due("kept: at(0)", x.at(0), 1);
        Check.due("kept: at(1)", x.at(1), 0);
        Check.due("kept: heard", x.count(5), 3);
        Check.due("kept: mayBe(2)", x.mayBe(2), 0b100);
        Check.due("kept: mayBe(0)", x.mayBe(0), 0b001);
    }

    private static void twoSlots() {
        TuneToEachHouse x = new TuneToEachHouse();
        Check.due("keep(0) of a new one", x.keep(0), 1);
        Check.write(x, "Dfg");
        Check.due("town()", x.town(), 2);
        Check.due("keep(1)", x.keep(1), 2);
        Check.due("again(0)", x.again(0), 1);
        Check.due("note(0) of slot 0", x.note(0), 0);
        Check.due("note(1) of slot 0", x.note(1), UNKNOWN);
        Check.due("again(1)", x.again(1), 2);
        Check.due("note(0) of slot 1", x.note(0), 5);
        Check.due("keep(0), over what was kept", x.keep(0), 2);
        x.let(0, 1);
        Check.due("again(0) anew", x.again(0), 2);
        Check.due("note(0) of slot 0 anew", x.note(0), 5);
    }

    private static void counts() {
        TuneToEachHouse x = Check.townOf("DabcdW01W12W23SabSc.Sd");
        x.let(1, 7);
        x.let(3, 7);
        Check.walk(x, 0, 1);
        Check.hear(x, 0, 8, 7, 7, 7);
        long[] want = {22, 4, 3, 3, 2, 5, 2};
        for (int what = 0; what < want.length; what++) {
            Check.due("count(" + what + ")", x.count(what), want[what]);
        }
        for (int what : new int[] {-1, 7, NONE, Integer.MAX_VALUE, Integer.MIN_VALUE}) {
            Check.due("count(" + what + ")", x.count(what), OUTSIDE);
        }
    }
}
