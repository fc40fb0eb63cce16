/** Promises 28 to 30: THE BEST ROUND, and HUSH. */
public final class RoundsTest {
    private static final int UNKNOWN = -1, NONE = -9;

    public static void main(String[] args) {
        bestRounds();
        bestOfTwelve();
        hushed();
        hushedMany();
        unknown();
        Check.end("RoundsTest");
    }

    private static void bestAre(TuneToEachHouse x, int song, int from, int... way) {
        String call = "bestAt(" + song + ", " + from + ", ";
        for (int i = 0; i < way.length; i++) {
            Check.due(call + i + ")", x.bestAt(song, from, i), way[i]);
        }
        Check.due(call + "its end)", x.bestAt(song, from, way.length), NONE);
        Check.due(call + "-1)", x.bestAt(song, from, -1), NONE);
        Check.due(call + "max)", x.bestAt(song, from, Integer.MAX_VALUE), NONE);
    }

    private static void bestRounds() {
        TuneToEachHouse x = Check.townOf("DabacW01W12W23W30SabSacSgS.");
        // again and again: abab against the notes of 0123, and of 0321
        Check.due("best ab from 0", x.best(0, 0), 3);
        bestAre(x, 0, 0, 0, 1, 2, 3);
        Check.due("best ac from 0", x.best(1, 0), 3);
        bestAre(x, 1, 0, 0, 1, 2, 3);
        Check.due("best ac from 1", x.best(1, 1), 0);
        bestAre(x, 1, 1, 1, 0, 3, 2);
        Check.due("best g from 2: none is worth more", x.best(2, 2), 0);
        bestAre(x, 2, 2, 2, 1, 0, 3);
        Check.due("best of points", x.best(3, 3), 4);
        x.let(1, 7);
        Check.due("a point takes a still door", x.best(3, 3), 4);
        Check.due("a letter does not", x.best(0, 0), 2);
        x.road(1, 2, false);
        Check.due("a row, from its end", x.best(3, 1), 4);
        Check.due("a row, from its middle", x.best(3, 0), NONE);
        bestAre(x, 3, 0);
        // the greater worth goes ahead of the first way
        TuneToEachHouse y = Check.townOf("DabcW01W02W12SacbSa");
        Check.due("best acb", y.best(0, 0), 3);
        bestAre(y, 0, 0, 0, 2, 1);
        bestAre(y, 1, 0, 0, 1, 2);
        TuneToEachHouse w = Check.townOf("DabcW01W12Scba");
        Check.due("best cba, door 0 is the last", w.best(0, 2), 3);
        bestAre(w, 0, 2, 2, 1, 0);
        w.road(0, 1, false);
        Check.due("best cba, no street to door 0", w.best(0, 2), NONE);
        TuneToEachHouse z = Check.townOf("DaSaSb");
        Check.due("best of one door", z.best(0, 0), 1);
        Check.due("best of one door, worth none", z.best(1, 0), 0);
        bestAre(z, 1, 0, 0);
    }

    private static void bestOfTwelve() {
        TuneToEachHouse x = Check.townOf("DababababababSabSbaSaSg");
        SongsTest.joinAll(x);
        Check.due("best ab", x.best(0, 0), 12);
        bestAre(x, 0, 0, 0, 1, 2, 3, 4, 5, 6, 7, 8, 9, 10, 11);
        Check.due("best ba", x.best(1, 1), 12);
        bestAre(x, 1, 1, 1, 0, 3, 2, 5, 4, 7, 6, 9, 8, 11, 10);
        // from an a, the first sign of ba is lost: one b too many is left for the a-places
        Check.due("best ba from 0", x.best(1, 0), 10);
        Check.due("best a", x.best(2, 5), 6);
        bestAre(x, 2, 5, 5, 0, 1, 2, 3, 4, 6, 7, 8, 9, 10, 11);
        Check.due("best g", x.best(3, 11), 0);
        bestAre(x, 3, 11, 11, 0, 1, 2, 3, 4, 5, 6, 7, 8, 9, 10);
    }

    private static void hushed() {
        TuneToEachHouse x = Check.townOf("DabacW01W12W23SabaSbS..Sgg");
        Check.due("hush aba", x.hush(0, NONE), 0b0010);
        Check.due("hush aba from 0: itself is least", x.hush(0, 0), 0b0001);
        Check.due("hush aba from 1: not sung from there", x.hush(0, 1), 0);
        Check.due("hush b", x.hush(1, NONE), 0b0010);
        Check.due("hush points", x.hush(2, NONE), NONE);
        Check.due("hush points from 3", x.hush(2, 3), NONE);
        Check.due("hush gg", x.hush(3, NONE), 0);
        x.road(2, 3, false);
        Check.due("hush points from a door with no street", x.hush(2, 3), 0);
        x.let(1, 7);
        Check.due("hush aba, still already", x.hush(0, NONE), 0);
        TuneToEachHouse y = Check.townOf("DaabbW02W03W12W13SabS.bSa.");
        Check.due("hush ab: two and the least", y.hush(0, NONE), 0b0011);
        Check.due("hush ab from 1", y.hush(0, 1), 0b0010);
        Check.due("hush .b", y.hush(1, NONE), 0b1100);
        Check.due("hush .b from 0", y.hush(1, 0), 0b1100);
        Check.due("hush .b from 2", y.hush(1, 2), 0);
        Check.due("hush a.", y.hush(2, NONE), 0b0011);
        Check.due("the notes are as they were", y.count(6), 0);
    }

    private static void hushedMany() {
        TuneToEachHouse x = Check.townOf("DaaaaaaaaaaaaSaaS.aaaaaSaS......");
        SongsTest.joinAll(x);
        Check.due("hush aa, all joined", x.hush(0, NONE), 0b011111111111);
        Check.due("hush aa from 11", x.hush(0, 11), 0b100000000000);
        Check.due("hush .aaaaa", x.hush(1, NONE), 0b011111111111);
        Check.due("hush a", x.hush(2, NONE), 0b111111111111);
        Check.due("hush six points", x.hush(3, NONE), NONE);
    }

    private static void unknown() {
        TuneToEachHouse x = Check.townOf("DabW01Sa");
        for (int wrong : new int[] {-1, 2, 12, -8, Integer.MAX_VALUE}) {
            Check.due("best from " + wrong, x.best(0, wrong), UNKNOWN);
            Check.due("best song " + wrong, x.best(wrong, 0), UNKNOWN);
            Check.due("bestAt from " + wrong, x.bestAt(0, wrong, 0), UNKNOWN);
            Check.due("bestAt song " + wrong, x.bestAt(wrong, 0, -1), UNKNOWN);
            Check.due("hush from " + wrong, x.hush(0, wrong), UNKNOWN);
            Check.due("hush song " + wrong, x.hush(wrong, NONE), UNKNOWN);
        }
        Check.due("best from NONE", x.best(0, NONE), UNKNOWN);
        Check.due("bestAt from NONE", x.bestAt(0, NONE, 0), UNKNOWN);
    }
}
