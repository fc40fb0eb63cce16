/** Promises 12 to 15: THE WALK, and where a SONG is in it. */
public final class WalkTest {
    private static final int UNKNOWN = -1, OUTSIDE = -2, STATE = -3, FULL = -4, NONE = -9;

    public static void main(String[] args) {
        going();
        fullWalk();
        hearing();
        Check.end("WalkTest");
    }

    private static void going() {
        TuneToEachHouse x = Check.townOf("DabcW01W12");
        Check.due("home() at first", x.home(), 0);
        for (int door : new int[] {-1, 3, 12, NONE, Integer.MAX_VALUE}) {
            Check.due("go(" + door + ")", x.go(door), UNKNOWN);
        }
        Check.due("go(2), the first door may be any", x.go(2), 1);
        Check.due("go(2), no street to itself", x.go(2), STATE);
        Check.due("go(0), no street", x.go(0), STATE);
        Check.due("count(4) behind refusals", x.count(4), 1);
        Check.due("go(1)", x.go(1), 2);
        Check.due("go(2) again", x.go(2), 3);
        int[] way = {2, 1, 2, NONE, NONE};
        for (int place = 0; place < way.length; place++) {
            Check.due("at(" + place + ")", x.at(place), way[place]);
        }
        Check.due("at(-1)", x.at(-1), NONE);
        Check.due("at(max)", x.at(Integer.MAX_VALUE), NONE);
        Check.due("home()", x.home(), 3);
        Check.due("at(0) of none", x.at(0), NONE);
        Check.due("go(0) from home", x.go(0), 1);
    }

    private static void fullWalk() {
        TuneToEachHouse x = Check.townOf("DabcW01Sba");
        for (int i = 0; i < 24; i++) {
            Check.due("go, time " + i, x.go(i % 2), i + 1);
        }
        Check.due("go(3) of a full walk: UNKNOWN comes first", x.go(3), UNKNOWN);
        Check.due("go(2) of a full walk: STATE comes first", x.go(2), STATE);
        Check.due("go(0) of a full walk", x.go(0), FULL);
        Check.due("count(4)", x.count(4), 24);
        Check.due("at(23)", x.at(23), 1);
        Check.due("at(24)", x.at(24), NONE);
        Check.due("heard(0, 21)", x.heard(0, 21), 21);
        Check.due("heard(0, 22)", x.heard(0, 22), NONE);
        Check.due("heard(0, 23)", x.heard(0, 23), NONE);
        Check.due("heard(0, 24)", x.heard(0, 24), OUTSIDE);
    }

    private static void hearing() {
        TuneToEachHouse x = Check.townOf("DabaW01W12SabaSb.SccSaba.ab");
        Check.due("heard of an empty walk", x.heard(0, 0), NONE);
        Check.walk(x, 0, 1, 2, 1, 0);
        Check.due("heard(0, 0)", x.heard(0, 0), 0);
        Check.due("heard(0, 1)", x.heard(0, 1), 2);
        Check.due("heard(0, 2)", x.heard(0, 2), 2);
        Check.due("heard(0, 3), the walk ends ahead of the song", x.heard(0, 3), NONE);
        Check.due("heard(1, 0)", x.heard(1, 0), 1);
        Check.due("heard(1, 2)", x.heard(1, 2), 3);
        Check.due("heard(1, 4)", x.heard(1, 4), NONE);
        Check.due("heard(2, 0)", x.heard(2, 0), NONE);
        Check.due("heard(3, 0), longer than the walk", x.heard(3, 0), NONE);
        Check.due("heard(4, 0)", x.heard(4, 0), UNKNOWN);
        Check.due("heard(-1, 24): UNKNOWN comes first", x.heard(-1, 24), UNKNOWN);
        Check.due("heard(0, -1)", x.heard(0, -1), OUTSIDE);
        x.let(2, 7);
        Check.due("a point takes a still door", x.heard(1, 0), 1);
        Check.due("a letter does not", x.heard(0, 0), NONE);
    }
}
