/** Promises 1 to 11: a new object, THE TEXT and its FAULT, THE TOWN. */
public final class TownTest {
    private static final int UNKNOWN = -1, OUTSIDE = -2, STATE = -3, FULL = -4, NONE = -9;

    public static void main(String[] args) {
        newObject();
        writing();
        faults();
        townMade();
        notes();
        roads();
        songs();
        springs();
        Check.end("TownTest");
    }

    private static void newObject() {
        TuneToEachHouse x = new TuneToEachHouse();
        long[] counts = {0, 1, 0, 0, 0, 0, 0};
        for (int what = 0; what < counts.length; what++) {
            Check.due("new: count(" + what + ")", x.count(what), counts[what]);
        }
        Check.due("new: note(0)", x.note(0), 0);
        Check.due("new: note(1)", x.note(1), UNKNOWN);
        Check.due("new: song(0, 0)", x.song(0, 0), UNKNOWN);
        Check.due("new: again(0)", x.again(0), STATE);
        Check.due("new: again(1)", x.again(1), STATE);
        Check.due("new: fault()", x.fault(), 0);
        Check.due("new: town()", x.town(), STATE);
        Check.due("new: fitting()", x.fitting(), 1);
    }

    private static void writing() {
        TuneToEachHouse x = new TuneToEachHouse();
        for (int n : new int[] {0, 9, -1, Integer.MIN_VALUE, Integer.MAX_VALUE}) {
            Check.due("write(" + n + ", 0)", x.write(n, 0), OUTSIDE);
        }
        Check.due("count(0) behind refusals", x.count(0), 0);
        // only the lowest two bytes come, the highest of these first
        Check.due("write(2, ..Da)", x.write(2, 0x5858585858580000L | 'D' << 8 | 'a'), 2);
        Check.due("fault of Da", x.fault(), NONE);
        Check.due("wipe()", x.wipe(), 2);
        Check.due("write(8, -1)", x.write(8, -1L), 8);
        Check.due("fault of bytes 255", x.fault(), 0);
        x.wipe();
        for (int i = 1; i <= 11; i++) {
            Check.due("write, time " + i, x.write(8, 0x4461616161616161L), 8 * i);
        }
        Check.due("write(7)", x.write(7, 0), 95);
        Check.due("write(2) over 96", x.write(2, 0), FULL);
        Check.due("write(8) over 96", x.write(8, 0), FULL);
        Check.due("write(9) is OUTSIDE ahead of FULL", x.write(9, 0), OUTSIDE);
        Check.due("count(0) is as it was", x.count(0), 95);
        Check.due("write(1) to 96", x.write(1, 0), 96);
        Check.due("write(1) over 96", x.write(1, 0), FULL);
        Check.due("wipe() of 96", x.wipe(), 96);
        Check.due("wipe() of none", x.wipe(), 0);
    }

    private static void faults() {
        fault("", 0);
        fault("X", 0);
        fault("d", 0);
        fault("D", 1);
        fault("Dh", 1);
        fault("DA", 1);
        fault("D.", 1);
        fault("DW01", 1);
        fault("Da", NONE);
        fault("Dg", NONE);
        fault("Da ", 2);
        fault("DaD", 2);
        fault("Da.", 2);
        fault("Dabcdefgabcde", NONE);
        fault("Dabcdefgabcdef", 13);
        fault("Dabcdefgabcde.", 13);
        streetFaults();
        songFaults();
    }

    private static void streetFaults() {
        fault("DaW", 2);
        fault("DabW", 4);
        fault("DabW0", 5);
        fault("DabW01", NONE);
        fault("DabW10", NONE);
        fault("DabW00", 5);
        fault("DabW2", 4);
        fault("DabW02", 5);
        fault("DabWW", 4);
        fault("DabW0W", 5);
        fault("DabW01W", 6);
        fault("DabcW01W10", 9);
        fault("DabcW01W01", 9);
        fault("DabcW01W02W0", 11);
        fault("DabcW01W02W10", 12);
        fault("DabcW01W02W12", NONE);
        fault("DabcW01W02W12W", 13);
        fault("DabcW01W02W12Sa", NONE);
        fault("DabcW01a", 7);
        fault("DabcdefgabcdW0a", NONE);
        fault("DabcdefgabcdW0b", 14);
        fault("DabcdefgabcdeW0b", NONE);
        fault("DabcdefgabcdeWba", NONE);
        fault("DabcdefgabcdeWbb", 15);
        fault("DabcdefgabcdeWc", 14);
        fault("DabcdefgabcdeWA", 14);
        fault("DabcdefgabcdeW:", 14);
        fault("DabcdefgabcdeW0;", 15);
        fault("DabcdefgabcdeW/", 14);
        fault("DabcdefgabcWa", 12);
        fault("DabcdefgabW9", 11);
    }

    private static void songFaults() {
        fault("DaS", 3);
        fault("DaSS", 3);
        fault("DaSW", 3);
        fault("DaSh", 3);
        fault("DaSa", NONE);
        fault("DaS.", NONE);
        fault("DaSabcdef", NONE);
        fault("DaSabcdefg", 9);
        fault("DaS.......", 9);
        fault("DaSaSbScSd", NONE);
        fault("DaSaSbScSdS", 10);
        fault("DabSaW01SbW01", 10);
        fault("DabSaSbScSdW01", NONE);
        // a text of 96 bytes that is only not at its end, and one that is whole
        StringBuilder text = new StringBuilder("Daaaaaaaaaaaa");
        for (int pair = 1; text.length() < 94; pair++) {
            int one = (pair - 1) / 11;
            int other = one + 1 + (pair - 1) % 11;
            if (other < 12) {
                text.append('W').append(Character.forDigit(one, 12)).append(Character.forDigit(other, 12));
            }
        }
        fault(text.toString(), NONE);
        fault(text + "Sa", NONE);
        fault(text + "W5", 96);
        fault(text + "W0", 95);
    }

    private static void fault(String text, int want) {
        TuneToEachHouse x = new TuneToEachHouse();
        Check.write(x, text);
        Check.due("fault of " + text, x.fault(), want);
        int doors = 0;
        while (doors + 1 < text.length() && "abcdefg".indexOf(text.charAt(doors + 1)) >= 0) {
            doors++;
        }
        Check.due("town of " + text, x.town(), want == NONE ? doors : STATE);
        Check.due("bytes of " + text, x.count(0), text.length());
    }

    private static void townMade() {
        TuneToEachHouse x = Check.townOf("DabgW01W12SabS.g");
        Check.due("doors", x.count(1), 3);
        Check.due("streets", x.count(2), 2);
        Check.due("songs", x.count(3), 2);
        Check.walk(x, 0, 1, 2);
        Check.hear(x, 0, 8);
        x.let(0, 7);
        Check.write(x, "DabX");
        Check.due("town() with a FAULT", x.town(), STATE);
        Check.due("the doors are as they were", x.count(1), 3);
        Check.due("the walk is as it was", x.count(4), 3);
        Check.due("what is heard is as it was", x.count(5), 2);
        Check.due("the note is as it was", x.note(0), 7);
        Check.write(x, "DdeSa");
        x.fault();
        Check.due("fault() makes no town", x.count(1), 3);
        Check.due("town()", x.town(), 2);
        Check.due("the walk is gone", x.count(4), 0);
        Check.due("what was heard is gone", x.count(5), 0);
        Check.due("the streets are gone", x.count(2), 0);
        Check.due("one song", x.count(3), 1);
        Check.due("THE TEXT is still there", x.count(0), 5);
        Check.due("note(1)", x.note(1), 4);
    }

    private static void notes() {
        TuneToEachHouse x = Check.townOf("Dag");
        for (int door : new int[] {-1, 2, 12, NONE, Integer.MAX_VALUE, Integer.MIN_VALUE}) {
            Check.due("note(" + door + ")", x.note(door), UNKNOWN);
            Check.due("let(" + door + ", 9)", x.let(door, 9), UNKNOWN);
        }
        Check.due("note(1)", x.note(1), 6);
        Check.due("let(1, 7)", x.let(1, 7), 6);
        Check.due("count(6)", x.count(6), 1);
        Check.due("let(1, 8)", x.let(1, 8), OUTSIDE);
        Check.due("let(1, -1)", x.let(1, -1), OUTSIDE);
        Check.due("note(1) still", x.note(1), 7);
        Check.due("let(1, 0)", x.let(1, 0), 7);
        Check.due("note(1) new", x.note(1), 0);
        Check.due("note(0)", x.note(0), 0);
    }

    private static void roads() {
        TuneToEachHouse x = Check.townOf("DabcW01");
        Check.due("street(0, 1)", x.street(0, 1), 1);
        Check.due("street(1, 0)", x.street(1, 0), 1);
        Check.due("street(1, 2)", x.street(1, 2), 0);
        Check.due("street(1, 1)", x.street(1, 1), 0);
        Check.due("street(3, 0)", x.street(3, 0), UNKNOWN);
        Check.due("street(0, 3)", x.street(0, 3), UNKNOWN);
        Check.due("street(-1, 0)", x.street(-1, 0), UNKNOWN);
        Check.walk(x, 0, 1);
        Check.due("road(0, 3)", x.road(0, 3, true), UNKNOWN);
        Check.due("road(3, 3)", x.road(3, 3, true), UNKNOWN);
        Check.due("road(-9, 0)", x.road(NONE, 0, false), UNKNOWN);
        Check.due("road(2, 2)", x.road(2, 2, true), STATE);
        Check.due("refused, the walk stands", x.count(4), 2);
        Check.due("road(2, 1, true)", x.road(2, 1, true), 0);
        Check.due("the walk is empty", x.count(4), 0);
        Check.due("street(1, 2) new", x.street(1, 2), 1);
        Check.due("count(2)", x.count(2), 2);
        Check.walk(x, 0, 1);
        Check.due("road(1, 2, true) again", x.road(1, 2, true), 1);
        Check.due("the walk is empty again", x.count(4), 0);
        Check.due("road(1, 2, false)", x.road(1, 2, false), 1);
        Check.due("street(2, 1) gone", x.street(2, 1), 0);
        Check.due("road(2, 1, false)", x.road(2, 1, false), 0);
        Check.due("count(2) less", x.count(2), 1);
    }

    private static void songs() {
        TuneToEachHouse x = Check.townOf("DaSag.SbSabcdef");
        int[][] signs = {{0, 6, 8}, {1}, {0, 1, 2, 3, 4, 5}};
        for (int song = 0; song < signs.length; song++) {
            for (int i = 0; i < 7; i++) {
                int want = i < signs[song].length ? signs[song][i] : NONE;
                Check.due("song(" + song + ", " + i + ")", x.song(song, i), want);
            }
            Check.due("song(" + song + ", -1)", x.song(song, -1), NONE);
            Check.due("song(" + song + ", max)", x.song(song, Integer.MAX_VALUE), NONE);
        }
        Check.due("song(3, 0)", x.song(3, 0), UNKNOWN);
        Check.due("song(-1, 0)", x.song(-1, 0), UNKNOWN);
    }

    private static void springs() {
        TuneToEachHouse x = Check.townOf("DabcW01");
        x.let(2, 7);
        Check.walk(x, 0, 1);
        Check.hear(x, 0);
        Check.due("spring()", x.spring(), 7);
        Check.due("note(0)", x.note(0), 7);
        Check.due("note(1)", x.note(1), 0);
        Check.due("note(2)", x.note(2), 1);
        Check.due("the walk stands", x.count(4), 2);
        Check.due("what is heard stands", x.count(5), 1);
        Check.due("spring() again", x.spring(), 1);
        Check.due("note(1) still", x.note(1), 7);
        Check.due("spring() of one door", new TuneToEachHouse().spring(), 0);
    }
}
