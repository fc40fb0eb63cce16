/** Promises 16 to 22: ways that sound a SONG, ways ROUND it, ways that sound BOTH. */
public final class SongsTest {
    private static final int UNKNOWN = -1, OUTSIDE = -2, NONE = -9;
    /** A ring of four doors. */
    private static final String RING = "DabacW01W12W23W30";
    private static final String TWELVE = "Daaaaaaaaaaaa";

    public static void main(String[] args) {
        waysSung();
        firstSung();
        begun();
        rounds();
        firstRound();
        farRound();
        safeWays();
        manyWays();
        bothSongs();
        unknown();
        Check.end("SongsTest");
    }

    private static void waysSung() {
        TuneToEachHouse x = Check.townOf(RING + "SabaSaSg.S....");
        Check.due("ways of aba, any", x.ways(0, NONE, NONE), 4);
        Check.due("ways of aba from 0", x.ways(0, 0, NONE), 2);
        Check.due("ways of aba to 2", x.ways(0, NONE, 2), 2);
        Check.due("ways of aba from 0 to 0", x.ways(0, 0, 0), 1);
        Check.due("ways of aba from 1", x.ways(0, 1, NONE), 0);
        Check.due("ways of a", x.ways(1, NONE, NONE), 2);
        Check.due("ways of a from 2 to 2", x.ways(1, 2, 2), 1);
        Check.due("ways of a from 0 to 2", x.ways(1, 0, 2), 0);
        Check.due("ways of g.", x.ways(2, NONE, NONE), 0);
        Check.due("ways of four points", x.ways(3, NONE, NONE), 32);
        x.let(1, 7);
        Check.due("a point takes a still door", x.ways(3, NONE, NONE), 32);
        Check.due("a letter does not", x.ways(0, NONE, NONE), 0);
        for (int door : new int[] {-1, 4, -8, -10, 12, Integer.MIN_VALUE}) {
            Check.due("ways from " + door, x.ways(0, door, NONE), UNKNOWN);
            Check.due("ways to " + door, x.ways(0, 0, door), UNKNOWN);
        }
        Check.due("ways of song 4", x.ways(4, 0, 0), UNKNOWN);
    }

    private static void firstSung() {
        // from door 0 one comes to a b, but not on to a c: the first way begins at door 1
        TuneToEachHouse x = Check.townOf("DaabbcW02W13W34SabcSgS.");
        int[] way = {1, 3, 4, NONE, NONE};
        for (int i = 0; i < way.length; i++) {
            Check.due("first(0, " + i + ")", x.first(0, i), way[i]);
        }
        Check.due("first(0, -1)", x.first(0, -1), NONE);
        Check.due("first(0, min)", x.first(0, Integer.MIN_VALUE), NONE);
        Check.due("first of what can not be sung", x.first(1, 0), NONE);
        Check.due("first of a point", x.first(2, 0), 0);
        Check.due("first of a point, its end", x.first(2, 1), NONE);
        Check.due("first(3, 0)", x.first(3, 0), UNKNOWN);
        // the least second door is not next to the least third one
        TuneToEachHouse y = Check.townOf("DabbcW01W02W23SabcS..");
        Check.due("first(0, 1)", y.first(0, 1), 2);
        Check.due("first(1, 1)", y.first(1, 1), 1);
    }

    private static void begun() {
        TuneToEachHouse x = Check.townOf("DabcW01W12SabcabSabcbaSgS.bd");
        Check.due("begun of abcab", x.begun(0), 3);
        Check.due("begun of abcba", x.begun(1), 5);
        Check.due("begun of g", x.begun(2), 0);
        Check.due("begun of .bd", x.begun(3), 2);
        Check.due("begun(4)", x.begun(4), UNKNOWN);
        Check.due("begun(-1)", x.begun(-1), UNKNOWN);
    }

    private static void rounds() {
        TuneToEachHouse x = Check.townOf(RING + "SabaSaS..Sg");
        Check.due("round aba from 0 to 2", x.round(0, 0, 2), 2);
        Check.due("round aba, the other side", x.roundAt(0, 0, 2, 1), 3);
        Check.due("round aba from 0 to 0", x.round(0, 0, 0), 0);
        Check.due("round a from 0 to 0", x.round(1, 0, 0), NONE);
        Check.due("round a from 1 to 1", x.round(1, 1, 1), 0);
        Check.due("round a from 1 to 3", x.round(1, 1, 3), NONE);
        Check.due("round two points from 0 to 1", x.round(2, 0, 1), NONE);
        Check.due("round two points from 0 to 0", x.round(2, 0, 0), 0);
        Check.due("round g from 1 to 3", x.round(3, 1, 3), 2);
        Check.due("round g, the first", x.roundAt(3, 1, 3, 1), 0);
        x.road(0, 3, false);
        Check.due("round aba, no other side", x.round(0, 0, 2), NONE);
        Check.due("round aba, no other side, at 0", x.roundAt(0, 0, 2, 0), NONE);
        x.road(0, 1, false);
        Check.due("round g, no way at all", x.round(3, 0, 2), NONE);
    }

    private static void firstRound() {
        // to sound abc is forbidden on the street from 1 on, so the way turns aside and comes again
        TuneToEachHouse x = Check.townOf("DabcddW01W12W13W34SabcSbdb");
        int[] way = {0, 1, 3, 1, 2};
        Check.due("round abc from 0 to 2", x.round(0, 0, 2), 4);
        for (int i = 0; i < way.length; i++) {
            Check.due("roundAt(0, 0, 2, " + i + ")", x.roundAt(0, 0, 2, i), way[i]);
        }
        Check.due("roundAt behind its end", x.roundAt(0, 0, 2, 5), NONE);
        Check.due("roundAt(.., -1)", x.roundAt(0, 0, 2, -1), NONE);
        Check.due("round bdb from 0 to 4", x.round(1, 0, 4), 3);
        Check.due("roundAt(1, 4, 4, 0)", x.roundAt(1, 4, 4, 0), 4);
        Check.due("roundAt(1, 4, 4, 1)", x.roundAt(1, 4, 4, 1), NONE);
        // the song begins anew within itself: aab is in aaab
        TuneToEachHouse y = Check.townOf("DaaabW01W12W23SaabSab");
        Check.due("round aab from 0 to 3", y.round(0, 0, 3), NONE);
        Check.due("round aab from 2 to 3", y.round(0, 2, 3), 1);
        Check.due("round ab from 2 to 3", y.round(1, 2, 3), NONE);
        TuneToEachHouse z = Check.townOf("DabcW01W12Sa.cSabc");
        z.let(1, 7);
        Check.due("a point takes a still door", z.round(0, 0, 2), NONE);
        Check.due("a point takes a still door, safe", z.safe(0, 0, 2, 2), 0);
        Check.due("a letter does not", z.round(1, 0, 2), 2);
    }

    /** Six doors that are all joined, and a row of six more behind them. */
    private static void farRound() {
        TuneToEachHouse x = Check.townOf("DaaaaaabbbbbbW56W67W78W89W9aWabSaabSg");
        for (int one = 0; one < 6; one++) {
            for (int other = 0; other < one; other++) {
                x.road(one, other, true);
            }
        }
        int[] way = {0, 5, 6, 7, 8, 9, 10, 11};
        Check.due("a far round", x.round(1, 0, 11), 7);
        for (int i = 0; i < way.length; i++) {
            Check.due("a far round, door " + i, x.roundAt(1, 0, 11, i), way[i]);
        }
        Check.due("a far round aab", x.round(0, 0, 11), NONE);
        Check.due("a far round aab from 5", x.round(0, 5, 11), 6);
    }

    private static void safeWays() {
        TuneToEachHouse x = Check.townOf(RING + "SabaSaS..Sg");
        Check.due("safe aba, 2 steps", x.safe(0, 0, 2, 2), 1);
        Check.due("safe aba, 0 steps", x.safe(0, 0, 0, 0), 1);
        Check.due("safe aba, 0 steps to another", x.safe(0, 0, 1, 0), 0);
        Check.due("safe a, 0 steps", x.safe(1, 0, 0, 0), 0);
        Check.due("safe of two points, 1 step", x.safe(2, 0, 1, 1), 0);
        Check.due("safe g, 12 steps", x.safe(3, 0, 0, 12), 2048);
        Check.due("safe g, 11 steps", x.safe(3, 0, 1, 11), 1024);
        Check.due("safe g, 11 steps, even", x.safe(3, 0, 2, 11), 0);
        Check.due("safe, n 13", x.safe(0, 0, 0, 13), OUTSIDE);
        Check.due("safe, n -1", x.safe(0, 0, 0, -1), OUTSIDE);
        Check.due("safe, n -1, no such song", x.safe(4, 0, 0, -1), UNKNOWN);
        Check.due("safe, n 13, no such door", x.safe(0, 4, 0, 13), UNKNOWN);
        Check.due("safe, n 13, no such other door", x.safe(0, 0, NONE, 13), UNKNOWN);
    }

    private static void manyWays() {
        TuneToEachHouse x = Check.townOf(TWELVE + "SgS......SaaaaaaSa");
        joinAll(x);
        // from K12's numbers of walks: (11^12 + 11) / 12 that come home in 12 steps
        Check.due("safe g, all joined", x.safe(0, 0, 0, 12), 261535698061L);
        Check.due("safe g, all joined, to another", x.safe(0, 0, 1, 12), 261535698060L);
        Check.due("ways of six points", x.ways(1, NONE, NONE), 12L * 161051);
        Check.due("ways of six as", x.ways(2, NONE, NONE), 12L * 161051);
        Check.due("safe of six points, 4 steps", x.safe(1, 0, 1, 4), 1220);
        Check.due("safe of six points, 5 steps", x.safe(1, 0, 1, 5), 0);
        Check.due("safe of six as, 4 steps", x.safe(2, 0, 1, 4), 1220);
        Check.due("both of six points and six as", x.both(1, 2), 6);
        Check.due("round six as", x.round(2, 3, 11), 1);
        Check.due("round a", x.round(3, 3, 11), NONE);
    }

    static void joinAll(TuneToEachHouse x) {
        for (int one = 0; one < x.count(1); one++) {
            for (int other = 0; other < one; other++) {
                x.road(one, other, true);
            }
        }
    }

    private static void bothSongs() {
        TuneToEachHouse x = Check.townOf("DabcdW01W12W23SabSbcSdcSbb");
        Check.due("both ab, bc: they share a door", x.both(0, 1), 3);
        Check.due("both bc, ab", x.both(1, 0), 3);
        Check.due("both ab, dc: abcdc or dcbab", x.both(0, 2), 5);
        Check.due("both dc, ab", x.both(2, 0), 5);
        Check.due("both ab, ab", x.both(0, 0), 2);
        Check.due("both ab, bb", x.both(0, 3), NONE);
        Check.due("both bb, bb", x.both(3, 3), NONE);
        Check.due("both(0, 4)", x.both(0, 4), UNKNOWN);
        Check.due("both(-1, 0)", x.both(-1, 0), UNKNOWN);
        TuneToEachHouse z = Check.townOf("DabSaS.Sb");
        Check.due("both at a door with no street", z.both(0, 1), 1);
        Check.due("both at doors with no street", z.both(0, 2), NONE);
        // twelve doors in a row, a song at each end
        TuneToEachHouse y = Check.townOf("DabccccccccdeW01W12W23W34W45W56W67W78W89W9aWabSbaSdeSbSb.");
        Check.due("both at the ends", y.both(0, 1), 13);
        Check.due("both at the ends, turned", y.both(1, 0), 13);
        Check.due("one within the other", y.both(0, 2), 2);
        Check.due("b. and ba", y.both(3, 0), 2);
        Check.due("b. and de", y.both(3, 1), 11);
        y.road(5, 6, false);
        Check.due("no way between them", y.both(0, 1), NONE);
    }

    private static void unknown() {
        TuneToEachHouse x = Check.townOf("DabW01Sa");
        for (int wrong : new int[] {-1, 2, NONE, Integer.MAX_VALUE}) {
            Check.due("round from " + wrong, x.round(0, wrong, 0), UNKNOWN);
            Check.due("round to " + wrong, x.round(0, 0, wrong), UNKNOWN);
            Check.due("round song " + wrong, x.round(wrong, 0, 0), UNKNOWN);
            Check.due("roundAt from " + wrong, x.roundAt(0, wrong, 0, 0), UNKNOWN);
            Check.due("roundAt to " + wrong, x.roundAt(0, 0, wrong, 0), UNKNOWN);
            Check.due("roundAt song " + wrong, x.roundAt(wrong, 0, 0, 0), UNKNOWN);
            Check.due("safe from " + wrong, x.safe(0, wrong, 0, 0), UNKNOWN);
            Check.due("first song " + wrong, x.first(wrong, 0), UNKNOWN);
        }
    }
}
