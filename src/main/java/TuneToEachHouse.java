import java.util.Arrays;

/**
 * Doors with notes, streets between them, and songs: what a way from door to door sounds, how a
 * song can be sung or shunned, what an ear may have heard, and how a song can be hushed.
 *
 * <p>Sets of doors are bits of an int everywhere: bit d is door d. All rows are made in
 * constructors and used again, so no call makes an object.
 */
public final class TuneToEachHouse {
    public static final int UNKNOWN = -1, OUTSIDE = -2, STATE = -3, FULL = -4, NONE = -9;

    private static final int MOST_BYTES = 96;
    private static final int MOST_DOORS = 12;
    private static final int MOST_SONGS = 4;
    private static final int MOST_SIGNS = 6;
    private static final int MOST_WALKED = 24;
    private static final int MOST_HEARD = 12;
    private static final int MOST_STEPS = 12;
    private static final int LETTERS = 7;
    private static final int STILL = 7;
    private static final int ANY = 8;

    private final Text text = new Text();
    private final Town told = new Town();
    private final Scene now = new Scene();
    private final Scene firstSlot = new Scene();
    private final Scene secondSlot = new Scene();
    private final Tune tune = new Tune();
    private final Tune otherTune = new Tune();
    private final Shunning shunning = new Shunning();
    private final Rounds rounds = new Rounds();

    public TuneToEachHouse() {
        now.houses.addDoor(0);
    }

    // ---- the town

    public int write(int n, long v) {
        if (n < 1 || n > 8) {
            return OUTSIDE;
        }
        if (text.length > MOST_BYTES - n) {
            return FULL;
        }
        text.append(n, v);
        return text.length;
    }

    public int wipe() {
        int was = text.length;
        text.length = 0;
        return was;
    }

    public int fault() {
        return text.readInto(told);
    }

    public int town() {
        if (text.readInto(told) != NONE) {
            return STATE;
        }
        now.houses.copyFrom(told);
        now.walk.length = 0;
        now.ear.length = 0;
        return now.houses.doors;
    }

    public int note(int door) {
        if (!now.houses.isDoor(door)) {
            return UNKNOWN;
        }
        return now.houses.notes[door];
    }

    public int let(int door, int note) {
        if (!now.houses.isDoor(door)) {
            return UNKNOWN;
        }
        if (note < 0 || note > STILL) {
            return OUTSIDE;
        }
        int was = now.houses.notes[door];
        now.houses.notes[door] = note;
        return was;
    }

    public int street(int door, int other) {
        if (!now.houses.isDoor(door) || !now.houses.isDoor(other)) {
            return UNKNOWN;
        }
        return now.houses.isJoined(door, other) ? 1 : 0;
    }

    public int road(int door, int other, boolean is) {
        if (!now.houses.isDoor(door) || !now.houses.isDoor(other)) {
            return UNKNOWN;
        }
        if (door == other) {
            return STATE;
        }
        int was = now.houses.isJoined(door, other) ? 1 : 0;
        now.houses.join(door, other, is);
        now.walk.length = 0;
        return was;
    }

    public int song(int song, int i) {
        if (!now.houses.isSong(song)) {
            return UNKNOWN;
        }
        return now.houses.signOf(song, i);
    }

    public int spring() {
        return now.houses.turnNotes();
    }

    // ---- the walk

    public int go(int door) {
        if (!now.houses.isDoor(door)) {
            return UNKNOWN;
        }
        int last = now.walk.doorAt(now.walk.length - 1);
        if (last != NONE && !now.houses.isJoined(last, door)) {
            return STATE;
        }
        if (now.walk.length >= MOST_WALKED) {
            return FULL;
        }
        now.walk.add(door);
        return now.walk.length;
    }

    public int home() {
        int was = now.walk.length;
        now.walk.length = 0;
        return was;
    }

    public int at(int place) {
        return now.walk.doorAt(place);
    }

    public int heard(int song, int from) {
        if (!now.houses.isSong(song)) {
            return UNKNOWN;
        }
        if (from < 0 || from >= MOST_WALKED) {
            return OUTSIDE;
        }
        tune.takeSong(now.houses, song);
        return now.walk.firstPlaceOf(tune, from);
    }

    // ---- songs sung

    public long ways(int song, int from, int to) {
        if (!now.houses.isSong(song) || !isDoorOrNone(from) || !isDoorOrNone(to)) {
            return UNKNOWN;
        }
        tune.takeSong(now.houses, song);
        return tune.countWays(now.houses, doorsMeant(from), doorsMeant(to));
    }

    public int first(int song, int i) {
        if (!now.houses.isSong(song)) {
            return UNKNOWN;
        }
        tune.takeSong(now.houses, song);
        return tune.doorOfFirst(now.houses, i);
    }

    public int begun(int song) {
        if (!now.houses.isSong(song)) {
            return UNKNOWN;
        }
        tune.takeSong(now.houses, song);
        return tune.placesBegun(now.houses);
    }

    public int round(int song, int from, int to) {
        if (!areSongAndDoors(song, from, to)) {
            return UNKNOWN;
        }
        shunning.takeSong(now.houses, song);
        return shunning.stepsOfWay(shunning.findWay(now.houses, from, to));
    }

    public int roundAt(int song, int from, int to, int i) {
        if (!areSongAndDoors(song, from, to)) {
            return UNKNOWN;
        }
        shunning.takeSong(now.houses, song);
        return shunning.doorOfWay(shunning.findWay(now.houses, from, to), i);
    }

    public long safe(int song, int from, int to, int n) {
        if (!areSongAndDoors(song, from, to)) {
            return UNKNOWN;
        }
        if (n < 0 || n > MOST_STEPS) {
            return OUTSIDE;
        }
        shunning.takeSong(now.houses, song);
        return shunning.countWays(now.houses, from, to, n);
    }

    public int both(int song, int other) {
        if (!now.houses.isSong(song) || !now.houses.isSong(other)) {
            return UNKNOWN;
        }
        tune.takeSong(now.houses, song);
        otherTune.takeSong(now.houses, other);
        return Meeting.fewestDoors(now.houses, tune, otherTune);
    }

    // ---- the ear

    public int hear(int note) {
        if (note < 0 || note > ANY) {
            return OUTSIDE;
        }
        if (now.ear.length >= MOST_HEARD) {
            return FULL;
        }
        now.ear.add(note);
        return now.ear.length;
    }

    public int deaf() {
        int was = now.ear.length;
        now.ear.length = 0;
        return was;
    }

    public int mayBe(int i) {
        if (i < 0 || i >= now.ear.length) {
            return OUTSIDE;
        }
        tune.takeHeard(now.houses, now.ear);
        return tune.reachedAt(now.houses, i) & tune.openAt(now.houses, i);
    }

    public long fitting() {
        tune.takeHeard(now.houses, now.ear);
        int all = now.houses.allDoors();
        return tune.countWays(now.houses, all, all);
    }

    public int parted(boolean least) {
        tune.takeHeard(now.houses, now.ear);
        int all = now.houses.allDoors();
        int last = tune.length - 1;
        return least
            ? Parting.leastBits(now.houses, tune, last, all, all)
            : Parting.countBits(now.houses, tune, last, all, all);
    }

    // ---- rounds, hushed

    public int best(int song, int from) {
        if (!now.houses.isSong(song) || !now.houses.isDoor(from)) {
            return UNKNOWN;
        }
        tune.takeAnthem(now.houses, song);
        return rounds.greatestWorth(now.houses, tune, from);
    }

    public int bestAt(int song, int from, int i) {
        if (!now.houses.isSong(song) || !now.houses.isDoor(from)) {
            return UNKNOWN;
        }
        tune.takeAnthem(now.houses, song);
        return rounds.doorOfBest(now.houses, tune, from, i);
    }

    public int hush(int song, int from) {
        if (!now.houses.isSong(song) || !isDoorOrNone(from)) {
            return UNKNOWN;
        }
        tune.takeSong(now.houses, song);
        return Hushing.fewestDoors(now.houses, tune, doorsMeant(from));
    }

    // ---- slots

    public int keep(int slot) {
        if (slot < 0 || slot > 1) {
            return UNKNOWN;
        }
        Scene kept = slotOf(slot);
        kept.copyFrom(now);
        kept.isKept = true;
        return kept.houses.doors;
    }

    public int again(int slot) {
        if (slot < 0 || slot > 1) {
            return UNKNOWN;
        }
        Scene kept = slotOf(slot);
        if (!kept.isKept) {
            return STATE;
        }
        now.copyFrom(kept);
        return now.houses.doors;
    }

    public int count(int what) {
        switch (what) {
            case 0:
                return text.length;
            case 1:
                return now.houses.doors;
            case 2:
                return now.houses.countStreets();
            case 3:
                return now.houses.songs;
            case 4:
                return now.walk.length;
            case 5:
                return now.ear.length;
            case 6:
                return Integer.bitCount(now.houses.doorsThatSound(STILL));
            default:
                return OUTSIDE;
        }
    }

    private Scene slotOf(int slot) {
        return slot == 0 ? firstSlot : secondSlot;
    }

    private boolean isDoorOrNone(int door) {
        return door == NONE || now.houses.isDoor(door);
    }

    private boolean areSongAndDoors(int song, int from, int to) {
        return now.houses.isSong(song) && now.houses.isDoor(from) && now.houses.isDoor(to);
    }

    private int doorsMeant(int door) {
        return door == NONE ? now.houses.allDoors() : 1 << door;
    }

    private static boolean has(int doors, int door) {
        return (doors >> door & 1) != 0;
    }

    /** The least door of a set, or NONE. */
    private static int leastOf(int doors) {
        return doors == 0 ? NONE : Integer.numberOfTrailingZeros(doors);
    }

    /** THE TEXT, and the reading of it as a town. */
    private static final class Text {
        private final byte[] bytes = new byte[MOST_BYTES];
        private int length;
        private int place;

        void append(int n, long v) {
            for (int i = n - 1; i >= 0 && length < MOST_BYTES; i--) {
                bytes[length] = (byte) (v >> 8 * i);
                length++;
            }
        }

        /** Answers FAULT; behind a fault, what stands in the town is only what came ahead of it. */
        int readInto(Town town) {
            town.clear();
            place = 0;
            if (byteHere() != 'D') {
                return place;
            }
            place++;
            readDoors(town);
            if (town.doors == 0) {
                return place;
            }
            // no part is without a byte, so there are never more parts than bytes
            for (int parts = 0; parts < MOST_BYTES && place < length; parts++) {
                boolean isRead = byteHere() == 'W' ? readStreet(town) : readSong(town);
                if (!isRead) {
                    return place;
                }
            }
            return NONE;
        }

        private void readDoors(Town town) {
            for (int i = 0; i < MOST_DOORS && letterHere() != NONE; i++) {
                town.addDoor(letterHere());
                place++;
            }
        }

        /** Whether a whole street was read; if not, the place is that of the fault. */
        private boolean readStreet(Town town) {
            // a W is a fault already where every pair of doors has its street
            if (!town.hasRoomForStreet()) {
                return false;
            }
            place++;
            int one = doorHere(town);
            if (one == NONE || town.isJoinedToAll(one)) {
                return false;
            }
            place++;
            int other = doorHere(town);
            if (other == NONE || other == one || town.isJoined(one, other)) {
                return false;
            }
            place++;
            town.join(one, other, true);
            return true;
        }

        /** Whether a whole song was read; if not, the place is that of the fault. */
        private boolean readSong(Town town) {
            if (byteHere() != 'S' || town.songs >= MOST_SONGS) {
                return false;
            }
            place++;
            if (signHere() == NONE) {
                return false;
            }
            town.addSong();
            for (int i = 0; i < MOST_SIGNS && signHere() != NONE; i++) {
                town.addSign(signHere());
                place++;
            }
            return true;
        }

        private int byteHere() {
            return place >= 0 && place < length && place < MOST_BYTES ? bytes[place] & 255 : NONE;
        }

        private int letterHere() {
            int letter = byteHere() - 'a';
            return letter >= 0 && letter < LETTERS ? letter : NONE;
        }

        private int signHere() {
            return byteHere() == '.' ? ANY : letterHere();
        }

        private int doorHere(Town town) {
            int sign = byteHere();
            int door = sign >= '0' && sign <= '9' ? sign - '0' : NONE;
            if (sign == 'a' || sign == 'b') {
                door = 10 + sign - 'a';
            }
            return town.isDoor(door) ? door : NONE;
        }
    }

    /** Doors with their notes, the streets (as a set of doors for each door) and the songs. */
    private static final class Town {
        private int doors;
        private int songs;
        private final int[] notes = new int[MOST_DOORS];
        private final int[] streets = new int[MOST_DOORS];
        private final int[] lengths = new int[MOST_SONGS];
        private final int[] signs = new int[MOST_SONGS * MOST_SIGNS];

        void clear() {
            doors = 0;
            songs = 0;
        }

        void copyFrom(Town other) {
            doors = other.doors;
            songs = other.songs;
            System.arraycopy(other.notes, 0, notes, 0, MOST_DOORS);
            System.arraycopy(other.streets, 0, streets, 0, MOST_DOORS);
            System.arraycopy(other.lengths, 0, lengths, 0, MOST_SONGS);
            System.arraycopy(other.signs, 0, signs, 0, MOST_SONGS * MOST_SIGNS);
        }

        void addDoor(int note) {
            if (doors < MOST_DOORS) {
                notes[doors] = note;
                streets[doors] = 0;
                doors++;
            }
        }

        void addSong() {
            if (songs < MOST_SONGS) {
                lengths[songs] = 0;
                songs++;
            }
        }

        /** The sign comes behind the song that was added last. */
        void addSign(int sign) {
            int last = songs - 1;
            if (isSong(last) && lengths[last] < MOST_SIGNS) {
                signs[last * MOST_SIGNS + lengths[last]] = sign;
                lengths[last]++;
            }
        }

        boolean isDoor(int door) {
            return door >= 0 && door < doors;
        }

        boolean isSong(int song) {
            return song >= 0 && song < songs;
        }

        int allDoors() {
            return (1 << doors) - 1;
        }

        int signOf(int song, int i) {
            return isSong(song) && i >= 0 && i < lengths[song] ? signs[song * MOST_SIGNS + i] : NONE;
        }

        int lengthOf(int song) {
            return isSong(song) ? lengths[song] : 0;
        }

        boolean sounds(int door, int sign) {
            return isDoor(door) && (sign == ANY || sign == notes[door]);
        }

        int doorsThatSound(int sign) {
            int found = 0;
            for (int door = 0; door < doors; door++) {
                if (sounds(door, sign)) {
                    found |= 1 << door;
                }
            }
            return found;
        }

        boolean isJoined(int door, int other) {
            return has(joinedTo(door), other);
        }

        int joinedTo(int door) {
            return isDoor(door) ? streets[door] : 0;
        }

        boolean isJoinedToAll(int door) {
            return isDoor(door) && (streets[door] | 1 << door) == allDoors();
        }

        boolean hasRoomForStreet() {
            for (int door = 0; door < doors; door++) {
                if (!isJoinedToAll(door)) {
                    return true;
                }
            }
            return false;
        }

        void join(int door, int other, boolean is) {
            if (!isDoor(door) || !isDoor(other) || door == other) {
                return;
            }
            if (is) {
                streets[door] |= 1 << other;
                streets[other] |= 1 << door;
            } else {
                streets[door] &= ~(1 << other);
                streets[other] &= ~(1 << door);
            }
        }

        /** All doors to which a street goes from one of these. */
        int around(int from) {
            int found = 0;
            for (int door = 0; door < doors && from >> door != 0; door++) {
                if (has(from, door)) {
                    found |= streets[door];
                }
            }
            return found;
        }

        int countStreets() {
            int ends = 0;
            for (int door = 0; door < doors; door++) {
                ends += Integer.bitCount(streets[door]);
            }
            return ends >> 1;
        }

        /** Each note goes to the next door; answers the one that door 0 gets. */
        int turnNotes() {
            int carried = doors > 0 ? notes[doors - 1] : STILL;
            for (int door = 0; door < doors; door++) {
                int own = notes[door];
                notes[door] = carried;
                carried = own;
            }
            return notes[0];
        }
    }

    /** The way that is told. */
    private static final class Walk {
        private final int[] doors = new int[MOST_WALKED];
        private int length;

        void copyFrom(Walk other) {
            length = other.length;
            System.arraycopy(other.doors, 0, doors, 0, MOST_WALKED);
        }

        void add(int door) {
            if (length < MOST_WALKED) {
                doors[length] = door;
                length++;
            }
        }

        int doorAt(int place) {
            return place >= 0 && place < length ? doors[place] : NONE;
        }

        int firstPlaceOf(Tune tune, int from) {
            for (int place = from; place <= length - tune.length; place++) {
                if (isHereThroughout(tune, place)) {
                    return place;
                }
            }
            return NONE;
        }

        private boolean isHereThroughout(Tune tune, int place) {
            for (int i = 0; i < tune.length; i++) {
                int door = doorAt(place + i);
                if (door == NONE || !has(tune.fitsAt(i), door)) {
                    return false;
                }
            }
            return true;
        }
    }

    /** The notes that are heard, 8 for one that was missed. */
    private static final class Ear {
        private final int[] notes = new int[MOST_HEARD];
        private int length;

        void copyFrom(Ear other) {
            length = other.length;
            System.arraycopy(other.notes, 0, notes, 0, MOST_HEARD);
        }

        void add(int note) {
            if (length < MOST_HEARD) {
                notes[length] = note;
                length++;
            }
        }
    }

    /** All that a slot keeps. */
    private static final class Scene {
        private final Town houses = new Town();
        private final Walk walk = new Walk();
        private final Ear ear = new Ear();
        private boolean isKept;

        void copyFrom(Scene other) {
            houses.copyFrom(other.houses);
            walk.copyFrom(other.walk);
            ear.copyFrom(other.ear);
        }
    }

    /** A song, or what is heard: for each place the set of doors at which a way may be there. */
    private static final class Tune {
        private static final int MOST_PLACES = 12;

        private int length;
        private final int[] fits = new int[MOST_PLACES];
        /** For each place the doors that would fit no more if they were still. */
        private final int[] hushable = new int[MOST_PLACES];
        private final long[] counts = new long[MOST_PLACES * MOST_DOORS];

        void takeSong(Town town, int song) {
            length = town.lengthOf(song);
            for (int i = 0; i < length && i < MOST_PLACES; i++) {
                take(town, i, town.signOf(song, i));
            }
        }

        /** The song again and again, a sign for each door of the town. */
        void takeAnthem(Town town, int song) {
            int signs = town.lengthOf(song);
            length = town.doors;
            for (int i = 0; i < length && i < MOST_PLACES; i++) {
                take(town, i, signs > 0 ? town.signOf(song, i % signs) : NONE);
            }
        }

        void takeHeard(Town town, Ear ear) {
            length = ear.length;
            for (int i = 0; i < length && i < MOST_PLACES; i++) {
                take(town, i, ear.notes[i]);
            }
        }

        private void take(Town town, int place, int sign) {
            fits[place] = town.doorsThatSound(sign);
            hushable[place] = sign == ANY ? 0 : town.allDoors();
        }

        int fitsAt(int place) {
            return place >= 0 && place < length && place < MOST_PLACES ? fits[place] : 0;
        }

        int worthAt(int place, int door) {
            return fitsAt(place) >> door & 1;
        }

        /** Behind its ends a tune asks for nothing. */
        int fitsOrAny(Town town, int place) {
            return place >= 0 && place < length ? fitsAt(place) : town.allDoors();
        }

        /** The doors at a place to which a way comes that has fitted so far. */
        int reachedAt(Town town, int place) {
            int doors = fitsAt(0);
            for (int i = 1; i <= place && i < length; i++) {
                doors = town.around(doors) & fitsAt(i);
            }
            return doors;
        }

        /** The doors at a place from which a way can go on to the tune's end. */
        int openAt(Town town, int place) {
            int doors = fitsAt(length - 1);
            for (int i = length - 2; i >= place && i >= 0; i--) {
                doors = town.around(doors) & fitsAt(i);
            }
            return doors;
        }

        int doorOfFirst(Town town, int i) {
            if (i < 0 || i >= length) {
                return NONE;
            }
            int door = leastOf(openAt(town, 0));
            for (int place = 1; place <= i && place < length && door != NONE; place++) {
                door = leastOf(openAt(town, place) & town.joinedTo(door));
            }
            return door;
        }

        int placesBegun(Town town) {
            int doors = town.allDoors();
            for (int place = 0; place < length; place++) {
                doors &= fitsAt(place);
                if (doors == 0) {
                    return place;
                }
                doors = town.around(doors);
            }
            return length;
        }

        boolean canBeSung(Town town, int from, int still) {
            int doors = from;
            for (int place = 0; place < length && place < MOST_PLACES; place++) {
                doors &= fits[place] & ~(hushable[place] & still);
                if (doors == 0) {
                    return false;
                }
                doors = town.around(doors);
            }
            return true;
        }

        long countWays(Town town, int from, int to) {
            if (length == 0) {
                return 1;
            }
            for (int door = 0; door < town.doors; door++) {
                counts[door] = has(fitsAt(0) & from, door) ? 1 : 0;
            }
            for (int place = 1; place < length && place < MOST_PLACES; place++) {
                countPlace(town, place);
            }
            return countedAt(town, length - 1, to);
        }

        private void countPlace(Town town, int place) {
            for (int door = 0; door < town.doors; door++) {
                boolean is = has(fitsAt(place), door);
                counts[place * MOST_DOORS + door] =
                    is ? countedAt(town, place - 1, town.joinedTo(door)) : 0;
            }
        }

        private long countedAt(Town town, int place, int doors) {
            long sum = 0;
            for (int door = 0; door < town.doors && place >= 0 && place < MOST_PLACES; door++) {
                if (has(doors, door)) {
                    sum += counts[place * MOST_DOORS + door];
                }
            }
            return sum;
        }
    }

    /** Ways that sound two songs: the other one begins a shift of places behind the one, or ahead. */
    private static final class Meeting {
        static int fewestDoors(Town town, Tune one, Tune other) {
            int least = NONE;
            // between two songs that do not touch, no more doors are of use than the town has
            int most = one.length + MOST_DOORS;
            for (int shift = -other.length - MOST_DOORS; shift <= most; shift++) {
                int from = Math.min(0, shift);
                int to = Math.max(one.length, shift + other.length);
                boolean isFewer = least == NONE || to - from < least;
                if (isFewer && canSoundBoth(town, one, other, shift)) {
                    least = to - from;
                }
            }
            return least;
        }

        private static boolean canSoundBoth(Town town, Tune one, Tune other, int shift) {
            int from = Math.min(0, shift);
            int to = Math.max(one.length, shift + other.length);
            int doors = town.allDoors();
            for (int place = from; place < to && doors != 0; place++) {
                if (place > from) {
                    doors = town.around(doors);
                }
                doors &= one.fitsOrAny(town, place) & other.fitsOrAny(town, place - shift);
            }
            return doors != 0;
        }
    }

    /**
     * Two who pass at once. The notes are given from the last one to the first: a way turned round
     * is a way too, and so the first bits that are found are the least.
     */
    private static final class Parting {
        /** One and other: the doors at which each of both may be at the next note that is theirs. */
        private static int countBits(Town town, Tune tune, int place, int one, int other) {
            if (place < 0) {
                return 1;
            }
            int mine = one & tune.fitsAt(place);
            int yours = other & tune.fitsAt(place);
            int found = 0;
            if (mine != 0) {
                found += countBits(town, tune, place - 1, town.around(mine), other);
            }
            if (yours != 0) {
                found += countBits(town, tune, place - 1, one, town.around(yours));
            }
            return found;
        }

        private static int leastBits(Town town, Tune tune, int place, int one, int other) {
            if (place < 0) {
                return 0;
            }
            int mine = one & tune.fitsAt(place);
            int yours = other & tune.fitsAt(place);
            int bits = NONE;
            if (mine != 0) {
                bits = leastBits(town, tune, place - 1, town.around(mine), other);
            }
            if (bits == NONE && yours != 0) {
                bits = leastBits(town, tune, place - 1, one, town.around(yours));
                return bits == NONE ? NONE : bits | 1 << place;
            }
            return bits;
        }
    }

    /** The fewest doors to be still. */
    private static final class Hushing {
        static int fewestDoors(Town town, Tune tune, int from) {
            if (tune.canBeSung(town, from, town.allDoors())) {
                return NONE;
            }
            for (int size = 0; size <= town.doors; size++) {
                int doors = leastOfSize(town, tune, from, size);
                if (doors != NONE) {
                    return doors;
                }
            }
            return NONE;
        }

        private static int leastOfSize(Town town, Tune tune, int from, int size) {
            int doors = (1 << size) - 1;
            int sets = 1 << town.doors;
            for (int i = 0; i < sets && doors < sets; i++) {
                if (!tune.canBeSung(town, from, doors)) {
                    return doors;
                }
                doors = nextOfLikeSize(doors, sets);
            }
            return NONE;
        }

        /** The next greater number with as many bits; the end, if there are none to move. */
        private static int nextOfLikeSize(int doors, int end) {
            if (doors == 0) {
                return end;
            }
            int low = doors & -doors;
            int raised = doors + low;
            int moved = raised ^ doors;
            return raised | moved >> 2 + Integer.numberOfTrailingZeros(low);
        }
    }

    /**
     * Ways in which a song fits nowhere. While such a way goes on, bit k of "sounded" tells that
     * its last k + 1 doors are as the song's first k + 1 signs; the bit of its last sign never is.
     */
    private static final class Shunning {
        private static final int SOUNDED = 1 << MOST_SIGNS - 1;
        private static final int STATES = MOST_DOORS * SOUNDED;

        private int whole;
        private final int[] taken = new int[STILL + 1];
        private final int[] seen = new int[MOST_DOORS];
        private final int[] queue = new int[STATES];
        private final int[] before = new int[STATES];
        private int queued;
        private long[] counts = new long[STATES];
        private long[] nextCounts = new long[STATES];

        void takeSong(Town town, int song) {
            int length = town.lengthOf(song);
            whole = length > 0 ? 1 << length - 1 : 0;
            for (int note = 0; note <= STILL; note++) {
                taken[note] = 0;
                for (int i = 0; i < length; i++) {
                    int sign = town.signOf(song, i);
                    if (sign == ANY || sign == note) {
                        taken[note] |= 1 << i;
                    }
                }
            }
        }

        /** The state of a way that comes to a door; NONE: the song fits then. */
        private int stateAt(Town town, int door, int sounded) {
            int goesOn = (sounded << 1 | 1) & taken[town.notes[door]];
            boolean isSafe = (goesOn & whole) == 0 && goesOn < SOUNDED;
            return isSafe ? door * SOUNDED + goesOn : NONE;
        }

        /**
         * Where in the queue THE FIRST shortest way ends, or NONE. Doors are tried from the least
         * on, so states of as many steps stand in the queue in the order of their first ways.
         */
        int findWay(Town town, int from, int to) {
            Arrays.fill(seen, 0);
            queued = 0;
            enqueue(stateAt(town, from, 0), NONE);
            for (int i = 0; i < queued && i < STATES; i++) {
                int door = queue[i] / SOUNDED;
                if (door == to) {
                    return i;
                }
                enqueueAround(town, i);
            }
            return NONE;
        }

        private void enqueueAround(Town town, int i) {
            int next = town.joinedTo(queue[i] / SOUNDED);
            for (int door = 0; door < town.doors; door++) {
                if (has(next, door)) {
                    enqueue(stateAt(town, door, queue[i] % SOUNDED), i);
                }
            }
        }

        private void enqueue(int state, int from) {
            if (state == NONE || queued >= STATES) {
                return;
            }
            int door = state / SOUNDED;
            int bit = 1 << state % SOUNDED;
            if ((seen[door] & bit) == 0) {
                seen[door] |= bit;
                queue[queued] = state;
                before[queued] = from;
                queued++;
            }
        }

        int stepsOfWay(int end) {
            if (end == NONE) {
                return NONE;
            }
            int steps = 0;
            for (int i = before[end]; i >= 0 && steps < STATES; i = before[i]) {
                steps++;
            }
            return steps;
        }

        int doorOfWay(int end, int place) {
            int steps = stepsOfWay(end);
            if (steps == NONE || place < 0 || place > steps) {
                return NONE;
            }
            int i = end;
            for (int back = steps; back > place && i >= 0; back--) {
                i = before[i];
            }
            return i >= 0 ? queue[i] / SOUNDED : NONE;
        }

        long countWays(Town town, int from, int to, int steps) {
            Arrays.fill(counts, 0);
            int start = stateAt(town, from, 0);
            if (start == NONE) {
                return 0;
            }
            counts[start] = 1;
            for (int step = 0; step < steps; step++) {
                countStep(town);
            }
            long sum = 0;
            for (int sounded = 0; sounded < SOUNDED; sounded++) {
                sum += counts[to * SOUNDED + sounded];
            }
            return sum;
        }

        private void countStep(Town town) {
            Arrays.fill(nextCounts, 0);
            for (int state = 0; state < STATES; state++) {
                if (counts[state] != 0) {
                    countAround(town, state);
                }
            }
            long[] old = counts;
            counts = nextCounts;
            nextCounts = old;
        }

        private void countAround(Town town, int state) {
            int next = town.joinedTo(state / SOUNDED);
            for (int door = 0; door < town.doors; door++) {
                int reached = has(next, door) ? stateAt(town, door, state % SOUNDED) : NONE;
                if (reached != NONE) {
                    nextCounts[reached] += counts[state];
                }
            }
        }
    }

    /** Ways through each door just once. */
    private static final class Rounds {
        private static final int GAIN_BITS = 4;
        private static final int NO_WAY = 1;
        private static final int LEAST_GAIN = 2;

        /**
         * For each set of doors that are still to come, four bits for each door that one may stand
         * at: 0 not known yet, NO_WAY through them all, or LEAST_GAIN and their greatest worth.
         */
        private final long[] gains = new long[1 << MOST_DOORS];

        int greatestWorth(Town town, Tune anthem, int from) {
            Arrays.fill(gains, 0);
            int gain = gainOf(town, anthem, gains, from, othersThan(town, from));
            return gain == NO_WAY ? NONE : gain - LEAST_GAIN + anthem.worthAt(0, from);
        }

        int doorOfBest(Town town, Tune anthem, int from, int i) {
            Arrays.fill(gains, 0);
            int rest = othersThan(town, from);
            if (i < 0 || i >= town.doors || gainOf(town, anthem, gains, from, rest) == NO_WAY) {
                return NONE;
            }
            int door = from;
            for (int place = 1; place <= i && door != NONE; place++) {
                door = nextOfBest(town, anthem, door, rest);
                rest &= ~(1 << door);
            }
            return door;
        }

        private static int othersThan(Town town, int door) {
            return town.allDoors() & ~(1 << door);
        }

        private int nextOfBest(Town town, Tune anthem, int door, int rest) {
            int wanted = gainOf(town, anthem, gains, door, rest);
            int near = town.joinedTo(door) & rest;
            for (int next = 0; next < town.doors; next++) {
                if (has(near, next) && gainThrough(town, anthem, gains, next, rest) == wanted) {
                    return next;
                }
            }
            return NONE;
        }

        /** The rest loses a door at each level, so there are never more levels than doors. */
        private static int gainOf(Town town, Tune anthem, long[] gains, int door, int rest) {
            if (rest <= 0 || rest >= gains.length) {
                return LEAST_GAIN;
            }
            int shift = GAIN_BITS * door;
            int greatest = (int) (gains[rest] >> shift) & (1 << GAIN_BITS) - 1;
            if (greatest != 0) {
                return greatest;
            }
            greatest = NO_WAY;
            int near = town.joinedTo(door) & rest;
            for (int next = 0; next < town.doors && near >> next != 0; next++) {
                if (has(near, next)) {
                    greatest = Math.max(greatest, gainThrough(town, anthem, gains, next, rest));
                }
            }
            gains[rest] |= (long) greatest << shift;
            return greatest;
        }

        /** The gain if the way goes on to a door of the rest. */
        private static int gainThrough(Town town, Tune anthem, long[] gains, int next, int rest) {
            int gain = gainOf(town, anthem, gains, next, rest & ~(1 << next));
            int place = town.doors - Integer.bitCount(rest);
            return gain == NO_WAY ? NO_WAY : gain + anthem.worthAt(place, next);
        }
    }
}
