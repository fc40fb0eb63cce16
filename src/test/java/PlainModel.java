import java.util.ArrayList;
import java.util.Arrays;
import java.util.HashMap;
import java.util.HashSet;
import java.util.LinkedHashMap;
import java.util.List;
import java.util.Map;
import java.util.Set;
import java.util.TreeSet;
import java.util.regex.Matcher;
import java.util.regex.Pattern;

/**
 * The document said again as plainly as the Java library lets one, with no thought of speed: ways
 * are lists of doors that are laid out and looked at. It shares no code with the class.
 */
final class PlainModel {
    private static final int UNKNOWN = -1, OUTSIDE = -2, STATE = -3, FULL = -4, NONE = -9;
    private static final Pattern TOWN = Pattern.compile("D([a-g]{1,12})((?:W[0-9ab][0-9ab]|S[a-g.]{1,6})*)");
    private static final Pattern PART = Pattern.compile("W([0-9ab])([0-9ab])|S([a-g.]{1,6})");
    private static final String ALL_SIGNS = "DWS0123456789abcdefg.";

    /** What a slot keeps. */
    private static final class State {
        List<Integer> notes = new ArrayList<>();
        Set<List<Integer>> streets = new HashSet<>();
        List<List<Integer>> songs = new ArrayList<>();
        List<Integer> walk = new ArrayList<>();
        List<Integer> ear = new ArrayList<>();

        State copy() {
            State s = new State();
            s.notes.addAll(notes);
            s.streets.addAll(streets);
            s.songs.addAll(songs);
            s.walk.addAll(walk);
            s.ear.addAll(ear);
            return s;
        }
    }

    private String text = "";
    private State now = townOf("Da");
    private final State[] slots = new State[2];

    // ---- the text

    private static State townOf(String text) {
        Matcher whole = TOWN.matcher(text);
        if (!whole.matches()) {
            return null;
        }
        State s = new State();
        for (char c : whole.group(1).toCharArray()) {
            s.notes.add(c - 'a');
        }
        Matcher part = PART.matcher(whole.group(2));
        while (part.find()) {
            if (part.group(3) != null) {
                s.songs.add(signsOf(part.group(3)));
                continue;
            }
            int x = Character.digit(part.group(1).charAt(0), 12);
            int y = Character.digit(part.group(2).charAt(0), 12);
            if (x == y || x >= s.notes.size() || y >= s.notes.size() || !s.streets.add(List.of(x, y)) || !s.streets.add(List.of(y, x))) {
                return null;
            }
        }
        return s.songs.size() > 4 ? null : s;
    }

    private static List<Integer> signsOf(String song) {
        List<Integer> signs = new ArrayList<>();
        for (char c : song.toCharArray()) {
            signs.add(c == '.' ? 8 : c - 'a');
        }
        return signs;
    }

    /** Two more bytes are always enough, if any are. */
    private static boolean canBecomeTown(String text) {
        if (townOf(text) != null) {
            return true;
        }
        for (char c : ALL_SIGNS.toCharArray()) {
            if (townOf(text + c) != null) {
                return true;
            }
            for (char d : ALL_SIGNS.toCharArray()) {
                if (townOf(text + c + d) != null) {
                    return true;
                }
            }
        }
        return false;
    }

    int write(int n, long v) {
        if (n < 1 || n > 8) {
            return OUTSIDE;
        }
        if (text.length() + n > 96) {
            return FULL;
        }
        for (int i = n - 1; i >= 0; i--) {
            text += (char) (v >>> 8 * i & 255);
        }
        return text.length();
    }

    int wipe() {
        int was = text.length();
        text = "";
        return was;
    }

    int fault() {
        for (int i = 1; i <= text.length(); i++) {
            if (!canBecomeTown(text.substring(0, i))) {
                return i - 1;
            }
        }
        return townOf(text) == null ? text.length() : NONE;
    }

    int town() {
        if (fault() != NONE) {
            return STATE;
        }
        now = townOf(text);
        return now.notes.size();
    }

    // ---- the town and the walk

    private boolean isDoor(int door) {
        return door >= 0 && door < now.notes.size();
    }

    private boolean isSong(int song) {
        return song >= 0 && song < now.songs.size();
    }

    private boolean isStreet(int x, int y) {
        return now.streets.contains(List.of(x, y));
    }

    int note(int door) {
        return isDoor(door) ? now.notes.get(door) : UNKNOWN;
    }

    int let(int door, int note) {
        if (!isDoor(door)) {
            return UNKNOWN;
        }
        return note < 0 || note > 7 ? OUTSIDE : now.notes.set(door, note);
    }

    int street(int door, int other) {
        return !isDoor(door) || !isDoor(other) ? UNKNOWN : isStreet(door, other) ? 1 : 0;
    }

    int road(int door, int other, boolean is) {
        if (!isDoor(door) || !isDoor(other)) {
            return UNKNOWN;
        }
        if (door == other) {
            return STATE;
        }
        int was = street(door, other);
        List<List<Integer>> both = List.of(List.of(door, other), List.of(other, door));
        if (is) {
            now.streets.addAll(both);
        } else {
            now.streets.removeAll(both);
        }
        now.walk.clear();
        return was;
    }

    int song(int song, int i) {
        if (!isSong(song)) {
            return UNKNOWN;
        }
        return i < 0 || i >= now.songs.get(song).size() ? NONE : now.songs.get(song).get(i);
    }

    int spring() {
        now.notes.add(0, now.notes.remove(now.notes.size() - 1));
        return now.notes.get(0);
    }

    int go(int door) {
        if (!isDoor(door)) {
            return UNKNOWN;
        }
        if (!now.walk.isEmpty() && !isStreet(now.walk.get(now.walk.size() - 1), door)) {
            return STATE;
        }
        if (now.walk.size() == 24) {
            return FULL;
        }
        now.walk.add(door);
        return now.walk.size();
    }

    int home() {
        int was = now.walk.size();
        now.walk.clear();
        return was;
    }

    int at(int place) {
        return place < 0 || place >= now.walk.size() ? NONE : now.walk.get(place);
    }

    int heard(int song, int from) {
        if (!isSong(song)) {
            return UNKNOWN;
        }
        if (from < 0 || from > 23) {
            return OUTSIDE;
        }
        for (int place = from; place < now.walk.size(); place++) {
            if (fitsFrom(now.songs.get(song), now.walk, place)) {
                return place;
            }
        }
        return NONE;
    }

    // ---- songs sung

    private boolean isAs(int door, int sign) {
        return sign == 8 || now.notes.get(door) == sign;
    }

    private boolean fitsFrom(List<Integer> song, List<Integer> way, int place) {
        if (place < 0 || place + song.size() > way.size()) {
            return false;
        }
        for (int i = 0; i < song.size(); i++) {
            if (!isAs(way.get(place + i), song.get(i))) {
                return false;
            }
        }
        return true;
    }

    /** All ways that sound signs, in their order. */
    private List<List<Integer>> allWays(List<Integer> signs) {
        List<List<Integer>> found = new ArrayList<>();
        addWays(signs, new ArrayList<>(), found);
        return found;
    }

    private void addWays(List<Integer> signs, List<Integer> way, List<List<Integer>> found) {
        if (way.size() == signs.size()) {
            found.add(new ArrayList<>(way));
            return;
        }
        for (int door = 0; door < now.notes.size(); door++) {
            boolean isNext = way.isEmpty() || isStreet(way.get(way.size() - 1), door);
            if (isNext && isAs(door, signs.get(way.size()))) {
                way.add(door);
                addWays(signs, way, found);
                way.remove(way.size() - 1);
            }
        }
    }

    long ways(int song, int from, int to) {
        if (!isSong(song) || from != NONE && !isDoor(from) || to != NONE && !isDoor(to)) {
            return UNKNOWN;
        }
        long count = 0;
        for (List<Integer> way : allWays(now.songs.get(song))) {
            boolean isFrom = from == NONE || way.get(0) == from;
            boolean isTo = to == NONE || way.get(way.size() - 1) == to;
            count += isFrom && isTo ? 1 : 0;
        }
        return count;
    }

    int first(int song, int i) {
        if (!isSong(song)) {
            return UNKNOWN;
        }
        List<List<Integer>> all = allWays(now.songs.get(song));
        return all.isEmpty() || i < 0 || i >= all.get(0).size() ? NONE : all.get(0).get(i);
    }

    int begun(int song) {
        if (!isSong(song)) {
            return UNKNOWN;
        }
        List<Integer> signs = now.songs.get(song);
        for (int n = signs.size(); n > 0; n--) {
            if (!allWays(signs.subList(0, n)).isEmpty()) {
                return n;
            }
        }
        return 0;
    }

    private static List<Integer> tail(List<Integer> way) {
        return List.copyOf(way.subList(Math.max(0, way.size() - 6), way.size()));
    }

    private List<List<Integer>> longer(List<Integer> way) {
        List<List<Integer>> all = new ArrayList<>();
        for (int door = 0; door < now.notes.size(); door++) {
            if (isStreet(way.get(way.size() - 1), door)) {
                List<Integer> next = new ArrayList<>(way);
                next.add(door);
                all.add(next);
            }
        }
        return all;
    }

    private List<Integer> roundWay(int song, int from, int to) {
        List<Integer> signs = now.songs.get(song);
        Map<List<Integer>, List<Integer>> layer = new LinkedHashMap<>();
        layer.put(List.of(from), List.of(from));
        Set<List<Integer>> seen = new HashSet<>();
        while (!layer.isEmpty()) {
            Map<List<Integer>, List<Integer>> next = new LinkedHashMap<>();
            for (List<Integer> way : layer.values()) {
                if (fitsFrom(signs, way, way.size() - signs.size()) || !seen.add(tail(way))) {
                    continue;
                }
                if (way.get(way.size() - 1) == to) {
                    return way;
                }
                for (List<Integer> more : longer(way)) {
                    next.putIfAbsent(tail(more), more);
                }
            }
            layer = next;
        }
        return null;
    }

    int round(int song, int from, int to) {
        if (!isSong(song) || !isDoor(from) || !isDoor(to)) {
            return UNKNOWN;
        }
        List<Integer> way = roundWay(song, from, to);
        return way == null ? NONE : way.size() - 1;
    }

    int roundAt(int song, int from, int to, int i) {
        if (!isSong(song) || !isDoor(from) || !isDoor(to)) {
            return UNKNOWN;
        }
        List<Integer> way = roundWay(song, from, to);
        return way == null || i < 0 || i >= way.size() ? NONE : way.get(i);
    }

    long safe(int song, int from, int to, int n) {
        if (!isSong(song) || !isDoor(from) || !isDoor(to)) {
            return UNKNOWN;
        }
        if (n < 0 || n > 12) {
            return OUTSIDE;
        }
        List<Integer> signs = now.songs.get(song);
        Map<List<Integer>, Long> counts = new HashMap<>();
        if (!fitsFrom(signs, List.of(from), 1 - signs.size())) {
            counts.put(List.of(from), 1L);
        }
        for (int step = 0; step < n; step++) {
            Map<List<Integer>, Long> next = new HashMap<>();
            counts.forEach((way, count) -> {
                for (List<Integer> more : longer(way)) {
                    if (!fitsFrom(signs, more, more.size() - signs.size())) {
                        next.merge(List.copyOf(more.subList(Math.max(0, more.size() - Math.max(1, signs.size() - 1)), more.size())), count, Long::sum);
                    }
                }
            });
            counts = next;
        }
        long sum = 0;
        for (Map.Entry<List<Integer>, Long> e : counts.entrySet()) {
            sum += e.getKey().get(e.getKey().size() - 1) == to ? e.getValue() : 0;
        }
        return sum;
    }

    int both(int song, int other) {
        if (!isSong(song) || !isSong(other)) {
            return UNKNOWN;
        }
        List<Integer> one = now.songs.get(song);
        List<Integer> two = now.songs.get(other);
        Set<List<List<Integer>>> seen = new HashSet<>();
        List<List<List<Integer>>> layer = new ArrayList<>();
        for (int door = 0; door < now.notes.size(); door++) {
            layer.add(List.of(List.of(door), List.of(0, 0)));
        }
        for (int doors = 1; !layer.isEmpty(); doors++) {
            List<List<List<Integer>>> next = new ArrayList<>();
            for (List<List<Integer>> state : layer) {
                List<Integer> way = state.get(0);
                int hasOne = state.get(1).get(0) | (fitsFrom(one, way, way.size() - one.size()) ? 1 : 0);
                int hasTwo = state.get(1).get(1) | (fitsFrom(two, way, way.size() - two.size()) ? 1 : 0);
                if (hasOne + hasTwo == 2) {
                    return doors;
                }
                if (seen.add(List.of(tail(way), List.of(hasOne, hasTwo)))) {
                    for (List<Integer> more : longer(way)) {
                        next.add(List.of(tail(more), List.of(hasOne, hasTwo)));
                    }
                }
            }
            layer = next;
        }
        return NONE;
    }

    // ---- the ear

    int hear(int note) {
        if (note < 0 || note > 8) {
            return OUTSIDE;
        }
        if (now.ear.size() == 12) {
            return FULL;
        }
        now.ear.add(note);
        return now.ear.size();
    }

    int deaf() {
        int was = now.ear.size();
        now.ear.clear();
        return was;
    }

    /** How many ways sound signs from a place on, if one is at a door there. */
    private long waysOn(List<Integer> signs, int place, int door) {
        return waysOn(signs, place, door, new HashMap<>());
    }

    private long waysOn(List<Integer> signs, int place, int door, Map<List<Integer>, Long> known) {
        if (!isAs(door, signs.get(place))) {
            return 0;
        }
        if (place == signs.size() - 1) {
            return 1;
        }
        Long old = known.get(List.of(place, door));
        if (old != null) {
            return old;
        }
        long sum = 0;
        for (int next = 0; next < now.notes.size(); next++) {
            sum += isStreet(door, next) ? waysOn(signs, place + 1, next, known) : 0;
        }
        known.put(List.of(place, door), sum);
        return sum;
    }

    private long waysOf(List<Integer> signs) {
        if (signs.isEmpty()) {
            return 1;
        }
        long sum = 0;
        for (int door = 0; door < now.notes.size(); door++) {
            sum += waysOn(signs, 0, door);
        }
        return sum;
    }

    int mayBe(int i) {
        if (i < 0 || i >= now.ear.size()) {
            return OUTSIDE;
        }
        List<Integer> ahead = new ArrayList<>(now.ear.subList(0, i + 1));
        java.util.Collections.reverse(ahead);
        int doors = 0;
        for (int door = 0; door < now.notes.size(); door++) {
            boolean may = waysOn(now.ear, i, door) > 0 && waysOn(ahead, 0, door) > 0;
            doors |= may ? 1 << door : 0;
        }
        return doors;
    }

    long fitting() {
        return waysOf(now.ear);
    }

    private boolean canBe(List<Integer> signs, Map<List<Integer>, Boolean> known) {
        if (signs.isEmpty()) {
            return true;
        }
        Boolean old = known.get(signs);
        if (old != null) {
            return old;
        }
        Set<Integer> doors = new TreeSet<>();
        for (int door = 0; door < now.notes.size(); door++) {
            doors.add(door);
        }
        for (int i = 0; i < signs.size(); i++) {
            Set<Integer> next = new TreeSet<>();
            for (int door : doors) {
                if (isAs(door, signs.get(i))) {
                    for (int to = 0; to < now.notes.size(); to++) {
                        if (i == signs.size() - 1 || isStreet(door, to)) {
                            next.add(to);
                        }
                    }
                }
            }
            doors = next;
        }
        known.put(List.copyOf(signs), !doors.isEmpty());
        return !doors.isEmpty();
    }

    int parted(boolean least) {
        int count = 0;
        Map<List<Integer>, Boolean> known = new HashMap<>();
        for (int bits = 0; bits < 1 << now.ear.size(); bits++) {
            List<Integer> one = new ArrayList<>();
            List<Integer> other = new ArrayList<>();
            for (int i = 0; i < now.ear.size(); i++) {
                ((bits >> i & 1) == 0 ? one : other).add(now.ear.get(i));
            }
            if (canBe(one, known) && canBe(other, known)) {
                if (least) {
                    return bits;
                }
                count++;
            }
        }
        return least ? NONE : count;
    }

    // ---- rounds, hushed

    private int bestWorth;
    private List<Integer> bestWay;

    private void lookForRounds(List<Integer> song, List<Integer> way, int worth) {
        int door = way.get(way.size() - 1);
        int here = worth + (isAs(door, song.get((way.size() - 1) % song.size())) ? 1 : 0);
        if (way.size() == now.notes.size()) {
            if (here > bestWorth) {
                bestWorth = here;
                bestWay = new ArrayList<>(way);
            }
            return;
        }
        for (int next = 0; next < now.notes.size(); next++) {
            if (isStreet(door, next) && !way.contains(next)) {
                way.add(next);
                lookForRounds(song, way, here);
                way.remove(way.size() - 1);
            }
        }
    }

    private void findBest(int song, int from) {
        bestWorth = NONE;
        bestWay = List.of();
        lookForRounds(now.songs.get(song), new ArrayList<>(List.of(from)), 0);
    }

    int best(int song, int from) {
        if (!isSong(song) || !isDoor(from)) {
            return UNKNOWN;
        }
        findBest(song, from);
        return bestWorth;
    }

    int bestAt(int song, int from, int i) {
        if (!isSong(song) || !isDoor(from)) {
            return UNKNOWN;
        }
        findBest(song, from);
        return i < 0 || i >= bestWay.size() ? NONE : bestWay.get(i);
    }

    private boolean canSing(List<Integer> song, int from) {
        for (int door = 0; door < now.notes.size(); door++) {
            if ((from == NONE || from == door) && waysOn(song, 0, door) > 0) {
                return true;
            }
        }
        return false;
    }

    int hush(int song, int from) {
        if (!isSong(song) || from != NONE && !isDoor(from)) {
            return UNKNOWN;
        }
        List<Integer> own = now.notes;
        int least = NONE;
        for (int bits = 0; bits < 1 << own.size(); bits++) {
            now.notes = new ArrayList<>(own);
            for (int door = 0; door < own.size(); door++) {
                if ((bits >> door & 1) != 0) {
                    now.notes.set(door, 7);
                }
            }
            boolean isFewer = least == NONE || Integer.bitCount(bits) < Integer.bitCount(least);
            if (isFewer && !canSing(now.songs.get(song), from)) {
                least = bits;
            }
        }
        now.notes = own;
        return least;
    }

    // ---- slots

    int keep(int slot) {
        if (slot < 0 || slot > 1) {
            return UNKNOWN;
        }
        slots[slot] = now.copy();
        return now.notes.size();
    }

    int again(int slot) {
        if (slot < 0 || slot > 1) {
            return UNKNOWN;
        }
        if (slots[slot] == null) {
            return STATE;
        }
        now = slots[slot].copy();
        return now.notes.size();
    }

    int count(int what) {
        int still = (int) now.notes.stream().filter(n -> n == 7).count();
        List<Integer> counts = Arrays.asList(text.length(), now.notes.size(), now.streets.size() / 2,
            now.songs.size(), now.walk.size(), now.ear.size(), still);
        return what < 0 || what >= counts.size() ? OUTSIDE : counts.get(what);
    }
}
