/** Promises 23 to 27: what THE EAR hears, of one and of TWO. */
public final class EarTest {
    private static final int OUTSIDE = -2, FULL = -4, NONE = -9;

    public static void main(String[] args) {
        hearing();
        whereOneWas();
        manyWays();
        parting();
        partingMany();
        Check.end("EarTest");
    }

    private static void hearing() {
        TuneToEachHouse x = new TuneToEachHouse();
        for (int note : new int[] {-1, 9, NONE, Integer.MAX_VALUE, Integer.MIN_VALUE}) {
            Check.due("hear(" + note + ")", x.hear(note), OUTSIDE);
        }
        Check.due("count(5) behind refusals", x.count(5), 0);
        for (int i = 0; i < 12; i++) {
            Check.due("hear, time " + i, x.hear(i % 9), i + 1);
        }
        Check.due("hear(9) of 12: OUTSIDE comes first", x.hear(9), OUTSIDE);
        Check.due("hear(0) of 12", x.hear(0), FULL);
        Check.due("count(5)", x.count(5), 12);
        Check.due("mayBe(12)", x.mayBe(12), OUTSIDE);
        Check.due("deaf()", x.deaf(), 12);
        Check.due("deaf() again", x.deaf(), 0);
        Check.due("mayBe(0) of nothing", x.mayBe(0), OUTSIDE);
        Check.due("fitting() of nothing", x.fitting(), 1);
        Check.due("parted(false) of nothing", x.parted(false), 1);
        Check.due("parted(true) of nothing", x.parted(true), 0);
    }

    private static void whereOneWas() {
        TuneToEachHouse x = Check.townOf("DabacW01W12W23");
        Check.hear(x, 0, 1);
        Check.due("mayBe(0) of ab", x.mayBe(0), 0b0101);
        Check.due("mayBe(1) of ab", x.mayBe(1), 0b0010);
        Check.due("fitting() of ab", x.fitting(), 2);
        Check.hear(x, 0, 8, 0, 2);
        // what comes later tells where one was before
        Check.due("mayBe(0) of a.ac", x.mayBe(0), 0b0101);
        Check.due("mayBe(1) of a.ac", x.mayBe(1), 0b1010);
        Check.due("mayBe(2) of a.ac", x.mayBe(2), 0b0100);
        Check.due("mayBe(3) of a.ac", x.mayBe(3), 0b1000);
        Check.due("fitting() of a.ac", x.fitting(), 3);
        Check.due("mayBe(4)", x.mayBe(4), OUTSIDE);
        Check.due("mayBe(-1)", x.mayBe(-1), OUTSIDE);
        Check.due("mayBe(max)", x.mayBe(Integer.MAX_VALUE), OUTSIDE);
        Check.hear(x, 2, 8, 8);
        Check.due("mayBe(1) of c..", x.mayBe(1), 0b0100);
        Check.due("mayBe(2) of c..", x.mayBe(2), 0b1010);
        Check.hear(x, 0, 2, 2);
        Check.due("mayBe(0) of what no one sounds", x.mayBe(0), 0);
        Check.due("fitting() of what no one sounds", x.fitting(), 0);
        x.let(1, 7);
        Check.hear(x, 7);
        Check.due("a still door is heard as 7", x.mayBe(0), 0b0010);
        Check.hear(x, 0, 8, 0);
        Check.due("a missed note may be of a still door", x.mayBe(1), 0b1010);
        Check.hear(x, 0, 1);
        Check.due("no door sounds b now", x.fitting(), 0);
    }

    private static void manyWays() {
        TuneToEachHouse x = Check.townOf("Daaaaaaaaaaaa");
        SongsTest.joinAll(x);
        Check.hear(x, 8, 8, 8, 8, 8, 8, 8, 8, 8, 8, 8, 0);
        long want = 12;
        for (int i = 0; i < 11; i++) {
            want *= 11;
        }
        Check.due("fitting() of twelve", x.fitting(), want);
        Check.due("mayBe(6) of twelve", x.mayBe(6), 4095);
    }

    private static void parting() {
        TuneToEachHouse x = new TuneToEachHouse();
        Check.hear(x, 0);
        Check.due("one note, one door", x.parted(false), 2);
        Check.due("one note, one door: least", x.parted(true), 0);
        Check.hear(x, 0, 0);
        Check.due("two notes, one door", x.parted(false), 2);
        Check.due("two notes, one door: least", x.parted(true), 1);
        Check.hear(x, 0, 0, 0);
        Check.due("three notes, one door", x.parted(false), 0);
        Check.due("three notes, one door: least", x.parted(true), NONE);
        TuneToEachHouse y = Check.townOf("DabcdW01W23");
        Check.hear(y, 0, 2, 1, 3);
        // only ab and cd can be gone, whoever goes them
        Check.due("acbd", y.parted(false), 2);
        Check.due("acbd: least", y.parted(true), 0b0101);
        Check.hear(y, 0, 2, 1, 3, 0);
        Check.due("acbda", y.parted(false), 2);
        Check.due("acbda: least", y.parted(true), 0b01010);
        Check.hear(y, 0, 1, 0, 1);
        // none, 0, 3, 01, 03 and what is left by each of these
        Check.due("abab", y.parted(false), 10);
        Check.due("abab: least", y.parted(true), 0);
        Check.hear(y, 0, 4);
        Check.due("a note of no door", y.parted(false), 0);
        Check.due("a note of no door: least", y.parted(true), NONE);
    }

    private static void partingMany() {
        TuneToEachHouse x = Check.townOf("DabW01");
        Check.hear(x, 8, 8, 8, 8, 8, 8, 8, 8, 8, 8, 8, 8);
        Check.due("twelve missed", x.parted(false), 4096);
        Check.due("twelve missed: least", x.parted(true), 0);
        TuneToEachHouse y = Check.townOf("DabcdW01W23");
        Check.hear(y, 0, 2, 1, 3, 0, 2, 1, 3, 0, 2, 1, 3);
        Check.due("twelve of two", y.parted(false), 2);
        Check.due("twelve of two: least", y.parted(true), 0b010101010101);
    }
}
