import java.util.function.IntPredicate;
import java.util.stream.IntStream;

/** Towns told as texts, and numbers that lie beside a range. */
final class Towns {
    static final String SIGNS = "0123456789ab";

    private Towns() {
    }

    /** D and so many notes: a to g, again and again. */
    static String doors(int n) {
        StringBuilder text = new StringBuilder("D");
        for (int i = 0; i < n; i++) {
            text.append((char) ('a' + i % 7));
        }
        return text.toString();
    }

    /** D and so many doors with one note. */
    static String doorsOf(int n, char note) {
        return "D" + String.valueOf(note).repeat(n);
    }

    /** The first streets: 01, 02 .. 12, 13 .. */
    static String streets(int doors, int n) {
        StringBuilder text = new StringBuilder();
        for (int one = 0; one < doors; one++) {
            for (int other = one + 1; other < doors && text.length() < 3 * n; other++) {
                text.append('W').append(SIGNS.charAt(one)).append(SIGNS.charAt(other));
            }
        }
        return text.toString();
    }

    /** The streets 01, 12, 23 .. */
    static String row(int doors) {
        StringBuilder text = new StringBuilder();
        for (int door = 1; door < doors; door++) {
            text.append('W').append(SIGNS.charAt(door - 1)).append(SIGNS.charAt(door));
        }
        return text.toString();
    }

    /** A whole town of 93 to 96 bytes: 27 streets, and a song if there are 95 or 96. */
    static String ofBytes(int n) {
        int doors = n % 2 == 0 ? 12 : 11;
        return doors(doors) + streets(doors, 27) + (n > 94 ? "Sa" : "");
    }

    /** A new object whose doors are all joined. */
    static TuneToEachHouse joined(String text) {
        TuneToEachHouse x = Check.townOf(text);
        SongsTest.joinAll(x);
        return x;
    }

    /** Numbers outside a range: next to it, far off, and such as fewer bits would bring into it. */
    static int[] outside(int least, int most) {
        IntPredicate isOutside = number -> number < least || number > most;
        return IntStream.of(least - 1, most + 1, most + 2, -least - 1, ~most, -2, -3, -4, -8, -9, -10, 12, 13,
            least + 16, least + 32, most + 32, least + 64, least + 256, most + 256, least + 65536, least - 65536,
            Integer.MIN_VALUE, Integer.MIN_VALUE + most, Integer.MAX_VALUE, Integer.MAX_VALUE - 1)
            .filter(isOutside).distinct().toArray();
    }

    /** The same, but not NONE, which may stand for any door. */
    static int[] outsideButNone(int least, int most) {
        return IntStream.of(outside(least, most)).filter(number -> number != TuneToEachHouse.NONE).toArray();
    }
}
