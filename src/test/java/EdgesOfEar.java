/** Edges of what THE EAR hears, of one and of TWO: promises 23 to 27. */
final class EdgesOfEar {
    private static final int OUTSIDE = -2, FULL = -4, NONE = -9;
    private static final int TERMS = Sentences.TERMS;

    private EdgesOfEar() {
    }

    static void run() {
        mostNotes();
        notesHeard();
        hearing();
        deafened();
        mayBe();
        mayBeOutside();
        fitting();
        two();
        parted();
        leastBits();
        partedMany();
    }

    private static void hearMissed(TuneToEachHouse x, int n) {
        int[] notes = new int[n];
        java.util.Arrays.fill(notes, 8);
        Check.hear(x, notes);
    }

    private static void mostNotes() {
        Sentences.begin(TERMS, "THE EAR hears NOTES one behind the other (12 at most");
        TuneToEachHouse x = Check.townOf("DabW01");
        for (int i = 0; i < 12; i++) {
            Check.due("hear, time " + (i + 1), x.hear(i % 2), i + 1);
        }
        Check.due("hear, time 13", x.hear(0), FULL);
        Check.due("count(5)", x.count(5), 12);
        for (int i = 0; i < 12; i++) {
            Check.due("mayBe(" + i + ")", x.mayBe(i), 1 << i % 2);
        }
    }

    private static void notesHeard() {
        Sentences.begin(TERMS, "0 to 7, or 8: missed, any)");
        TuneToEachHouse x = Check.townOf("Dabcdefga");
        x.let(7, 7);
        for (int note = 0; note <= 7; note++) {
            Check.hear(x, note);
            Check.due("note " + note, x.mayBe(0), 1 << note);
            Check.due("note " + note + ", fitting()", x.fitting(), 1);
        }
        Check.hear(x, 8);
        Check.due("missed", x.mayBe(0), 0b11111111);
        Check.due("missed, fitting()", x.fitting(), 8);
        for (int note : Towns.outside(0, 8)) {
            Check.due("hear(" + note + ")", x.hear(note), OUTSIDE);
        }
        Check.due("count(5)", x.count(5), 1);

        Sentences.begin(TERMS, "of one who goes a WAY, DOOR by DOOR.");
        TuneToEachHouse y = Check.townOf("DaabW01W12");
        Check.hear(y, 0, 0);
        Check.due("aa: one does not stand", y.fitting(), 2);
        Check.hear(y, 0, 2);
        Check.due("no note c", y.fitting(), 0);
        Check.hear(y, 0, 1);
        Check.due("ab: only from door 1", y.mayBe(0), 0b010);
        Check.hear(y, 1, 1);
        Check.due("bb", y.fitting(), 0);
    }

    private static void hearing() {
        Sentences.begin(23, "A NOTE is heard: how many are.");
        TuneToEachHouse x = new TuneToEachHouse();
        for (int note = 0; note <= 8; note++) {
            Check.due("hear(" + note + ")", x.hear(note), note + 1);
        }

        Sentences.begin(23, "OUTSIDE: 0 to 8");
        TuneToEachHouse y = new TuneToEachHouse();
        for (int note : Towns.outside(0, 8)) {
            Check.due("hear(" + note + ")", y.hear(note), OUTSIDE);
            Check.due("count(5)", y.count(5), 0);
        }

        Sentences.begin(23, "FULL: 12.");
        hearMissed(y, 11);
        Check.due("hear of 11", y.hear(8), 12);
        for (int note = 0; note <= 8; note++) {
            Check.due("hear(" + note + ") of 12", y.hear(note), FULL);
        }
        Check.due("count(5)", y.count(5), 12);
        y.deaf();
        Check.due("hear of none", y.hear(8), 1);
    }

    private static void deafened() {
        Sentences.begin(24, "Nothing is heard: how much was.");
        TuneToEachHouse x = Check.townOf("DabW01");
        Check.due("deaf() at first", x.deaf(), 0);
        for (int n : new int[] {1, 2, 11, 12}) {
            hearMissed(x, n);
            Check.due("deaf() of " + n, x.deaf(), n);
            Check.due("count(5)", x.count(5), 0);
            Check.due("mayBe(0)", x.mayBe(0), OUTSIDE);
            Check.due("fitting()", x.fitting(), 1);
            Check.due("deaf() again", x.deaf(), 0);
        }
        Check.due("hear(1)", x.hear(1), 1);
        Check.due("mayBe(0), of the new note alone", x.mayBe(0), 0b10);
    }

    private static void mayBe() {
        Sentences.begin(TERMS, "MAY BE: DOORS at which one may have been at some NOTE, all that is heard taken.");
        TuneToEachHouse x = Check.townOf("DabacdW01W12W23W34");
        Check.hear(x, 0);
        Check.due("a", x.mayBe(0), 0b00101);
        Check.hear(x, 0, 2);
        Check.due("ac: what comes behind is taken", x.mayBe(0), 0b00100);
        Check.hear(x, 8, 8, 2);
        Check.due("..c: at its first", x.mayBe(0), 0b01010);
        Check.due("..c: at its second", x.mayBe(1), 0b10100);
        Check.hear(x, 3, 8, 8, 8);
        Check.due("d...: what came ahead is taken", x.mayBe(1), 0b01000);
        Check.due("d...: at its third", x.mayBe(2), 0b10100);
        Check.due("d...: at its last", x.mayBe(3), 0b01010);
        Check.hear(x, 3, 8, 8, 8, 0);
        Check.due("d...a: at its third, by both ends", x.mayBe(2), 0b10100);
        Check.due("d...a: at its last", x.mayBe(4), 0b00101);
        Check.hear(x, 0, 1, 3);
        for (int i = 0; i < 3; i++) {
            Check.due("abd, no one can: " + i, x.mayBe(i), 0);
        }

        Sentences.begin(25, "MAY BE at a NOTE (from 0), as bits of DOORS.");
        Check.hear(x, 0, 1, 0);
        int[] bits = {0b00101, 0b00010, 0b00101};
        for (int i = 0; i < 3; i++) {
            Check.due("mayBe(" + i + ")", x.mayBe(i), bits[i]);
        }
        TuneToEachHouse y = Towns.joined(Towns.doorsOf(12, 'a'));
        hearMissed(y, 12);
        for (int i = 0; i < 12; i++) {
            Check.due("all doors, mayBe(" + i + ")", y.mayBe(i), 4095);
        }
        y.let(11, 1);
        Check.hear(y, 1);
        Check.due("the last door", y.mayBe(0), 1 << 11);
    }

    private static void mayBeOutside() {
        Sentences.begin(25, "OUTSIDE: there are not so many NOTES.");
        TuneToEachHouse x = Check.townOf("DabW01");
        for (int n = 0; n <= 12; n++) {
            hearMissed(x, n);
            if (n > 0) {
                Check.due("the last of " + n, x.mayBe(n - 1), 0b11);
            }
            for (int i : Towns.outside(0, n - 1)) {
                Check.due("mayBe(" + i + ") of " + n, x.mayBe(i), OUTSIDE);
            }
            x = Check.townOf("DabW01");
        }
        hearMissed(x, 12);
        hearMissed(x, 1);
        Check.due("mayBe(1), of what was heard once", x.mayBe(1), OUTSIDE);
    }

    private static void fitting() {
        Sentences.begin(TERMS, "FITTING: how many WAYS.");
        TuneToEachHouse x = Check.townOf("DabW01");
        for (int n = 1; n <= 12; n++) {
            hearMissed(x, n);
            Check.due("missed " + n, x.fitting(), 2);
        }
        Check.hear(x, 0, 8, 0);
        Check.due("a.a", x.fitting(), 1);
        Check.hear(x, 0, 8, 1);
        Check.due("a.b", x.fitting(), 0);
        TuneToEachHouse y = Towns.joined(Towns.doorsOf(12, 'a'));
        long want = 12;
        for (int n = 1; n <= 12; n++) {
            hearMissed(y, n);
            Check.due("all joined, missed " + n, y.fitting(), want);
            want *= 11;
        }

        Sentences.begin(26, "FITTING (1, if nothing is heard).");
        Check.due("of a new one", new TuneToEachHouse().fitting(), 1);
        x.deaf();
        Check.due("of two doors", x.fitting(), 1);
        y.deaf();
        Check.due("of twelve doors", y.fitting(), 1);
        Check.hear(y, 0);
        Check.due("of twelve doors, one note", y.fitting(), 12);
        Check.hear(y, 6);
        Check.due("of twelve doors, a note of none", y.fitting(), 0);
    }

    private static void partedIs(TuneToEachHouse x, String told, int ways, int least) {
        Check.due(told + ", ways", x.parted(false), ways);
        Check.due(told + ", least", x.parted(true), least);
    }

    private static void two() {
        Sentences.begin(TERMS, "TWO: of those NOTES each is of one or the other of two, each of whom goes a WAY of their own (or none).");
        TuneToEachHouse x = new TuneToEachHouse();
        partedIs(x, "nothing: both go none", 1, 0);
        Check.hear(x, 0);
        partedIs(x, "a: one of both goes none", 2, 0);
        Check.hear(x, 0, 0);
        partedIs(x, "aa at one door: each has one, both are at one door", 2, 0b01);
        Check.hear(x, 0, 0, 0);
        partedIs(x, "aaa at one door", 0, NONE);
        TuneToEachHouse y = Check.townOf("DabcdW01W23");
        Check.hear(y, 0, 2);
        partedIs(y, "ac: no way goes from a to c", 2, 0b01);
        Check.hear(y, 0, 1);
        partedIs(y, "ab: one alone, or each has one", 4, 0);
        // the notes of the other one that lie between do not part a way
        Check.hear(y, 0, 2, 1);
        partedIs(y, "acb", 2, 0b010);
    }

    private static void parted() {
        Sentences.begin(TERMS, "PARTED: how many ways to give each NOTE to one of both (as bits: set, it is of the other one) so that both can be");
        TuneToEachHouse x = Check.townOf("DabcdW01W23");
        Check.hear(x, 0, 2, 1, 3);
        Check.due("acbd: ab to one and cd to the other, either way", x.parted(false), 2);
        Check.due("acbd, least: a and b are of the other one", x.parted(true), 0b0101);
        Check.hear(x, 2, 0, 1, 0);
        Check.due("caba: c alone", x.parted(false), 2);
        Check.due("caba, least: c is of the other one", x.parted(true), 0b0001);
        Check.hear(x, 0, 1, 0, 2);
        Check.due("abac: c alone", x.parted(false), 2);
        Check.due("abac, least: aba is of the other one", x.parted(true), 0b0111);
        Check.hear(x, 0, 4);
        Check.due("ae: no door sounds e", x.parted(false), 0);

        Sentences.begin(27, "PARTED: how many ways (least = false; 0: none), the least bits (NONE: none).");
        partedIs(x, "ae", 0, NONE);
        x.deaf();
        partedIs(x, "nothing", 1, 0);
        Check.hear(x, 0, 2, 0);
        partedIs(x, "aca: three that can not be", 0, NONE);
        Check.hear(x, 4);
        partedIs(x, "e", 0, NONE);
        Check.hear(x, 7);
        partedIs(x, "still, of none", 0, NONE);
        x.let(3, 7);
        partedIs(x, "still, of door 3", 2, 0);
        Check.hear(x, 8, 8);
        partedIs(x, "two missed", 4, 0);
    }

    private static void leastBits() {
        Sentences.begin(TERMS, "the least such bits.");
        TuneToEachHouse x = Check.townOf("DabcdW01W23");
        // the last note is never set where it can be given to either
        Check.hear(x, 0, 1, 0, 1, 0, 1, 0, 1, 0, 1, 0, 2);
        partedIs(x, "eleven to the other one", 2, 0b011111111111);
        Check.hear(x, 2, 0, 1, 0, 1, 0, 1, 0, 1, 0, 1, 0);
        partedIs(x, "the first to the other one", 2, 1);
        Check.hear(x, 0, 2, 1, 3, 0, 2, 1, 3, 0, 2, 1, 3);
        partedIs(x, "by turns", 2, 0b010101010101);
        Check.hear(x, 0, 1, 1, 0);
        // abba: b and b are of two, then each a goes where it may: 0b0010 is less than 0b0100
        Check.due("abba, least", x.parted(true), 0b0010);
        Check.hear(x, 0, 0, 1);
        Check.due("aab, least", x.parted(true), 0b001);
    }

    private static void partedMany() {
        Sentences.begin(27, "PARTED: how many ways (least = false; 0: none), the least bits (NONE: none).");
        TuneToEachHouse x = Check.townOf("DabW01");
        for (int n = 0; n <= 12; n++) {
            hearMissed(x, n);
            partedIs(x, "missed " + n, 1 << n, 0);
        }
        TuneToEachHouse y = Check.townOf("Dab");
        Check.hear(y, 8);
        partedIs(y, "no street, missed 1", 2, 0);
        Check.hear(y, 8, 8);
        partedIs(y, "no street, missed 2", 2, 1);
        Check.hear(y, 8, 8, 8);
        partedIs(y, "no street, missed 3", 0, NONE);
    }
}
