import java.util.Random;

/** All promises: random runs of 512 calls, each answer the same as the plain model's. */
public final class AgainstPlainTest {
    private static final int NONE = -9;
    private static final int RUNS = 150;
    private static final int MOST_CALLS = 512;
    /** Some texts are too long for the object, but none takes more calls than are left for it. */
    private static final int MOST_OF_TEXT = 104;
    private static final int MOST_OF_TOWN = MOST_OF_TEXT + 3;

    private final Random random;
    private final TuneToEachHouse x = new TuneToEachHouse();
    private final PlainModel plain = new PlainModel();
    private final int run;
    private final int mostDoors;
    private final double dense;

    private AgainstPlainTest(int run) {
        this.run = run;
        random = new Random(run);
        boolean isLarge = run % 3 == 0;
        mostDoors = isLarge ? 12 : 6;
        // large dense towns have more ways than the plain model can lay out
        dense = isLarge ? 0.16 : 0.2 + 0.7 * random.nextDouble();
    }

    public static void main(String[] args) {
        int runs = args.length > 0 ? Integer.parseInt(args[0]) : RUNS;
        for (int run = 0; run < runs; run++) {
            AgainstPlainTest test = new AgainstPlainTest(run);
            int calls = 0;
            while (calls < MOST_CALLS) {
                boolean tells = calls < 40 || test.random.nextInt(25) == 0;
                calls += tells && calls < MOST_CALLS - MOST_OF_TOWN ? test.tellTown() : test.callAny();
            }
            Check.due("calls of run " + run, calls, MOST_CALLS);
        }
        Check.end("AgainstPlainTest");
    }

    private void due(String call, long got, long want) {
        Check.due("run " + run + ": " + call, got, want);
    }

    private int tellTown() {
        String text = spoil(randomText());
        text = text.substring(0, Math.min(text.length(), MOST_OF_TEXT));
        due("wipe()", x.wipe(), plain.wipe());
        int calls = 3;
        for (int from = 0; from < text.length(); calls++) {
            int n = Math.min(text.length() - from, 1 + random.nextInt(8));
            long v = random.nextLong();
            for (int i = from; i < from + n; i++) {
                v = v << 8 | text.charAt(i) & 255;
            }
            due("write(" + n + ")", x.write(n, v), plain.write(n, v));
            from += n;
        }
        due("fault() of " + text, x.fault(), plain.fault());
        due("town() of " + text, x.town(), plain.town());
        return calls;
    }

    private String randomText() {
        StringBuilder text = new StringBuilder("D");
        int doors = 1 + random.nextInt(mostDoors);
        int notes = 1 + random.nextInt(random.nextBoolean() ? 2 : 7);
        for (int i = 0; i < doors; i++) {
            text.append((char) ('a' + random.nextInt(notes)));
        }
        int songs = 0;
        for (int one = 0; one < doors; one++) {
            for (int other = 0; other < one; other++) {
                boolean isChain = doors > 6 && other == one - 1 && random.nextInt(20) > 0;
                if (isChain || random.nextDouble() < dense) {
                    boolean turned = random.nextBoolean();
                    text.append('W').append(Character.forDigit(turned ? one : other, 12));
                    text.append(Character.forDigit(turned ? other : one, 12));
                }
                if (songs < 4 && random.nextInt(4) == 0) {
                    addSong(text, notes);
                    songs++;
                }
            }
        }
        while (songs < 4 && random.nextInt(5) > 0) {
            addSong(text, notes);
            songs++;
        }
        return text.toString();
    }

    private void addSong(StringBuilder text, int notes) {
        text.append('S');
        int length = 1 + random.nextInt(6);
        for (int i = 0; i < length; i++) {
            text.append(random.nextInt(4) == 0 ? '.' : (char) ('a' + random.nextInt(notes)));
        }
    }

    private String spoil(String text) {
        if (random.nextInt(3) > 0) {
            return text;
        }
        int place = random.nextInt(text.length());
        String signs = "DWS0123456789abcdefgh.\u00ff\u0000";
        char sign = signs.charAt(random.nextInt(signs.length()));
        switch (random.nextInt(3)) {
            case 0:
                return text.substring(0, place) + sign + text.substring(place + 1);
            case 1:
                return text.substring(0, place) + sign + text.substring(place);
            default:
                return text.substring(0, place);
        }
    }

    private int door() {
        if (random.nextInt(25) == 0) {
            int[] wrong = {-1, 12, NONE, -8, 13, 32, 33, Integer.MAX_VALUE, Integer.MIN_VALUE};
            return wrong[random.nextInt(wrong.length)];
        }
        return random.nextInt(random.nextInt(8) == 0 ? mostDoors + 1 : Math.max(1, plain.count(1)));
    }

    private int doorOrNone() {
        return random.nextInt(3) == 0 ? NONE : door();
    }

    private int song() {
        if (random.nextInt(30) == 0) {
            return random.nextBoolean() ? -1 : 4;
        }
        return random.nextInt(Math.max(1, plain.count(3)));
    }

    private int place(int most) {
        if (random.nextInt(20) == 0) {
            return random.nextBoolean() ? Integer.MAX_VALUE : Integer.MIN_VALUE;
        }
        return random.nextInt(most + 2) - 1;
    }

    private int callAny() {
        switch (random.nextInt(4)) {
            case 0:
                change();
                break;
            case 1:
                askSongs();
                break;
            case 2:
                askEarAndRounds();
                break;
            default:
                askTown();
                break;
        }
        return 1;
    }

    private void change() {
        int a = door();
        int b = door();
        int note = random.nextInt(4) == 0 ? 8 : random.nextInt(11) - 1;
        boolean is = mostDoors < 12 && random.nextBoolean();
        int slot = random.nextInt(10) == 0 ? random.nextInt(5) - 2 : random.nextInt(2);
        switch (random.nextInt(20)) {
            case 0, 1:
                due("let(" + a + ", " + note + ")", x.let(a, note), plain.let(a, note));
                break;
            case 2:
                due("road(" + a + ", " + b + ", " + is + ")", x.road(a, b, is), plain.road(a, b, is));
                break;
            case 3:
                due("spring()", x.spring(), plain.spring());
                break;
            case 4:
                due("home()", x.home(), plain.home());
                break;
            case 5:
                due("deaf()", x.deaf(), plain.deaf());
                break;
            case 6, 7:
                due("keep(" + slot + ")", x.keep(slot), plain.keep(slot));
                break;
            case 8:
                due("again(" + slot + ")", x.again(slot), plain.again(slot));
                break;
            case 9, 10, 11, 12:
                int sounded = random.nextInt(3) == 0 ? note : Math.max(0, plain.note(a));
                due("hear(" + sounded + ")", x.hear(sounded), plain.hear(sounded));
                break;
            default:
                due("go(" + a + ")", x.go(a), plain.go(a));
                break;
        }
    }

    private void askSongs() {
        int s = song();
        int t = song();
        int a = door();
        int b = door();
        int c = doorOrNone();
        int d = doorOrNone();
        int i = place(8);
        switch (random.nextInt(7)) {
            case 0:
                due("ways(" + s + ", " + c + ", " + d + ")", x.ways(s, c, d), plain.ways(s, c, d));
                break;
            case 1:
                due("first(" + s + ", " + i + ")", x.first(s, i), plain.first(s, i));
                break;
            case 2:
                due("begun(" + s + ")", x.begun(s), plain.begun(s));
                break;
            case 3:
                due("round(" + s + ", " + a + ", " + b + ")", x.round(s, a, b), plain.round(s, a, b));
                break;
            case 4:
                due("roundAt(" + s + ", " + a + ", " + b + ", " + i + ")", x.roundAt(s, a, b, i), plain.roundAt(s, a, b, i));
                break;
            case 5:
                int n = random.nextInt(10) == 0 ? place(13) : random.nextInt(13);
                due("safe(" + s + ", " + a + ", " + b + ", " + n + ")", x.safe(s, a, b, n), plain.safe(s, a, b, n));
                break;
            default:
                due("both(" + s + ", " + t + ")", x.both(s, t), plain.both(s, t));
                break;
        }
    }

    private void askEarAndRounds() {
        int s = song();
        int a = door();
        int c = doorOrNone();
        int i = place(13);
        switch (random.nextInt(7)) {
            case 0:
                due("mayBe(" + i + ")", x.mayBe(i), plain.mayBe(i));
                break;
            case 1:
                due("fitting()", x.fitting(), plain.fitting());
                break;
            case 2:
                due("parted(false)", x.parted(false), plain.parted(false));
                break;
            case 3:
                due("parted(true)", x.parted(true), plain.parted(true));
                break;
            case 4:
                due("best(" + s + ", " + a + ")", x.best(s, a), plain.best(s, a));
                break;
            case 5:
                due("bestAt(" + s + ", " + a + ", " + i + ")", x.bestAt(s, a, i), plain.bestAt(s, a, i));
                break;
            default:
                due("hush(" + s + ", " + c + ")", x.hush(s, c), plain.hush(s, c));
                break;
        }
    }

    private void askTown() {
        int s = song();
        int a = door();
        int b = door();
        int i = place(24);
        switch (random.nextInt(6)) {
            case 0:
                due("note(" + a + ")", x.note(a), plain.note(a));
                break;
            case 1:
                due("street(" + a + ", " + b + ")", x.street(a, b), plain.street(a, b));
                break;
            case 2:
                due("song(" + s + ", " + i + ")", x.song(s, i), plain.song(s, i));
                break;
            case 3:
                due("at(" + i + ")", x.at(i), plain.at(i));
                break;
            case 4:
                due("heard(" + s + ", " + i + ")", x.heard(s, i), plain.heard(s, i));
                break;
            default:
                due("count(" + i + ")", x.count(i), plain.count(i));
                break;
        }
    }
}
