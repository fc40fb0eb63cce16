/** What all tests share: due answers are counted, and a town is told as a text. */
final class Check {
    private static int wrong = 0;
    private static int seen = 0;
    private static String about = "";

    private Check() {
    }

    /** What the next checks are about; it stands ahead of each answer that is not the one due. */
    static void about(String what) {
        about = what.isEmpty() ? "" : what + ": ";
    }

    static int seen() {
        return seen;
    }

    static void due(String call, long got, long want) {
        seen++;
        if (got != want) {
            wrong++;
            System.out.println(about + call + " answered " + got + ", due is " + want);
        }
    }

    static void isTrue(String what, boolean is) {
        due(what, is ? 1 : 0, 1);
    }

    /** Wipes THE TEXT and writes another one, eight bytes at a time. */
    static void write(TuneToEachHouse x, String text) {
        x.wipe();
        for (int from = 0; from < text.length(); from += 8) {
            int to = Math.min(text.length(), from + 8);
            long v = 0;
            for (int i = from; i < to; i++) {
                v = v << 8 | text.charAt(i) & 255;
            }
            due("write of " + text.substring(from, to), x.write(to - from, v), to);
        }
    }

    /** A new object with the town of a text. */
    static TuneToEachHouse townOf(String text) {
        TuneToEachHouse x = new TuneToEachHouse();
        write(x, text);
        isTrue("town of " + text, x.town() > 0);
        return x;
    }

    static void walk(TuneToEachHouse x, int... doors) {
        x.home();
        for (int i = 0; i < doors.length; i++) {
            due("go(" + doors[i] + ")", x.go(doors[i]), i + 1);
        }
    }

    static void hear(TuneToEachHouse x, int... notes) {
        x.deaf();
        for (int i = 0; i < notes.length; i++) {
            due("hear(" + notes[i] + ")", x.hear(notes[i]), i + 1);
        }
    }

    /** Ends the test: with exit code 1 if an answer was not the one that is due. */
    static void end(String name) {
        System.out.println(name + ": " + (seen - wrong) + " of " + seen + " answers are as due");
        if (wrong != 0 || seen == 0) {
            System.exit(1);
        }
    }
}
