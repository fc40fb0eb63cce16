/** Edges of THE TEXT, its FAULT and the making of THE TOWN: the terms of section 1, promises 1 to 5. */
final class EdgesOfText {
    private static final int OUTSIDE = -2, STATE = -3, FULL = -4, NONE = -9;
    private static final int TERMS = Sentences.TERMS;
    private static final String LETTERS = "abcdefg";

    private EdgesOfText() {
    }

    static void run() {
        atFirst();
        mostBytes();
        bytesOfWrite();
        fullText();
        wiped();
        doorsTold();
        streetsTold();
        songsTold();
        faultPlaces();
        faultAtEnd();
        townMade();
        townRefused();
    }

    private static void faultIs(String text, int want) {
        TuneToEachHouse x = new TuneToEachHouse();
        Check.write(x, text);
        Check.due("fault() of " + text, x.fault(), want);
    }

    /** Of all 256 bytes, just these may come behind a text; the rest are the FAULT, whatever follows. */
    private static void mayCome(String text, String signs) {
        for (int sign = 0; sign < 256; sign++) {
            String longer = text + (char) sign;
            boolean may = signs.indexOf(sign) >= 0;
            TuneToEachHouse x = new TuneToEachHouse();
            Check.write(x, longer);
            int fault = x.fault();
            Check.isTrue("byte " + sign + " behind " + text + ", fault() " + fault,
                may ? fault == NONE || fault == longer.length() : fault == text.length());
            if (!may && longer.length() < 90) {
                faultIs(longer + "bW01Sa", text.length());
            }
        }
    }

    private static void atFirst() {
        Sentences.begin(TERMS, "At first THE TOWN is Da.");
        TuneToEachHouse x = new TuneToEachHouse();
        Check.due("note(0)", x.note(0), 0);
        Check.due("note(1)", x.note(1), -1);
        Check.due("streets", x.count(2), 0);
        Check.due("songs", x.count(3), 0);
        Check.due("still doors", x.count(6), 0);

        Sentences.begin(1, "One DOOR.");
        Check.due("doors", x.count(1), 1);
        Check.due("keep(0)", x.keep(0), 1);
        Check.due("bytes: THE TEXT is not Da", x.count(0), 0);
        Check.due("fault()", x.fault(), 0);
    }

    private static void mostBytes() {
        Sentences.begin(TERMS, "THE TEXT is bytes (96 at most).");
        TuneToEachHouse x = new TuneToEachHouse();
        for (int i = 1; i <= 96; i++) {
            Check.due("write(1), time " + i, x.write(1, 'a'), i);
        }
        Check.due("write(1), time 97", x.write(1, 'a'), FULL);
        Check.due("count(0)", x.count(0), 96);
        // a byte has eight bits: what is a letter but for the highest one is none
        faultIs("D" + (char) ('a' + 128), 1);
        faultIs((char) ('D' + 128) + "a", 0);
        for (int n = 93; n <= 96; n++) {
            Check.due("bytes of the town", Towns.ofBytes(n).length(), n);
            faultIs(Towns.ofBytes(n), NONE);
        }
    }

    private static void bytesOfWrite() {
        Sentences.begin(2, "n bytes (1 to 8) of v");
        for (int n = 1; n <= 8; n++) {
            Check.due("write(" + n + ")", new TuneToEachHouse().write(n, 0), n);
        }

        Sentences.begin(2, "OUTSIDE");
        for (int n : Towns.outside(1, 8)) {
            TuneToEachHouse x = new TuneToEachHouse();
            Check.due("write(" + n + ")", x.write(n, 'D'), OUTSIDE);
            Check.due("bytes behind it", x.count(0), 0);
        }

        Sentences.begin(2, "the lowest n, the highest of these first");
        for (int n = 1; n <= 8; n++) {
            for (long above : new long[] {0, -1, 0x6161616161616161L}) {
                highestFirst(n, above);
            }
        }

        Sentences.begin(2, "come behind THE TEXT: how long it is");
        TuneToEachHouse x = new TuneToEachHouse();
        Check.due("write(1)", x.write(1, 'D'), 1);
        Check.due("write(2)", x.write(2, 'a' << 8 | 'b'), 3);
        Check.due("write(8)", x.write(8, 0x6364656667616263L), 11);
        Check.due("town()", x.town(), 10);
        Check.due("note(0)", x.note(0), 0);
        Check.due("note(9)", x.note(9), 2);
    }

    /** The notes tell which bytes came, and in which order; what stands above them in v is no matter. */
    private static void highestFirst(int n, long above) {
        TuneToEachHouse x = new TuneToEachHouse();
        x.write(1, 'D');
        long v = above;
        for (int i = 0; i < n; i++) {
            v = v << 8 | 'a' + i * 3 % 7;
        }
        Check.due("write(" + n + ", " + v + ")", x.write(n, v), n + 1);
        Check.due("town() of it", x.town(), n);
        for (int i = 0; i < n; i++) {
            Check.due("note(" + i + ") of " + n, x.note(i), i * 3 % 7);
        }
    }

    private static void fullText() {
        Sentences.begin(2, "FULL: it would be longer than 96");
        for (int length = 88; length <= 96; length++) {
            for (int n = 1; n <= 8; n++) {
                TuneToEachHouse x = new TuneToEachHouse();
                Check.write(x, "a".repeat(length));
                boolean fits = length + n <= 96;
                Check.due("write(" + n + ") behind " + length, x.write(n, 0), fits ? length + n : FULL);
                Check.due("bytes then", x.count(0), fits ? length + n : length);
            }
        }

        Sentences.begin(2, "(nothing comes)");
        TuneToEachHouse x = new TuneToEachHouse();
        Check.write(x, Towns.ofBytes(95));
        Check.due("write(2)", x.write(2, 'S' << 8 | 'b'), FULL);
        Check.due("write(8)", x.write(8, 0x6262626262626262L), FULL);
        Check.due("count(0)", x.count(0), 95);
        Check.due("fault()", x.fault(), NONE);
        Check.due("write(1), there is room for it still", x.write(1, 'c'), 96);
        Check.due("town()", x.town(), 11);
        Check.due("songs", x.count(3), 1);
        Check.due("song(0, 0)", x.song(0, 0), 0);
        Check.due("song(0, 1), the byte that came", x.song(0, 1), 2);
        Check.due("song(0, 2)", x.song(0, 2), NONE);
    }

    private static void wiped() {
        Sentences.begin(3, "THE TEXT is empty: how long it was.");
        TuneToEachHouse x = new TuneToEachHouse();
        Check.due("wipe() of nothing", x.wipe(), 0);
        x.write(1, 'D');
        Check.due("wipe() of one", x.wipe(), 1);
        Check.write(x, Towns.ofBytes(96));
        Check.due("wipe() of 96", x.wipe(), 96);
        Check.due("count(0)", x.count(0), 0);
        Check.due("wipe() again", x.wipe(), 0);
        Check.due("fault() of nothing", x.fault(), 0);
        Check.due("write(1) begins anew", x.write(1, 'D'), 1);
        Check.due("fault(), no byte of the old text is left", x.fault(), 1);
        Check.write(x, "Dab");
        Check.due("town()", x.town(), 2);
        Check.due("wipe()", x.wipe(), 3);
        Check.due("THE TOWN is not wiped", x.count(1), 2);
    }

    private static void doorsTold() {
        Sentences.begin(TERMS, "A TOWN is a TEXT: D, and the NOTE of each DOOR as a letter (1 to 12 DOORS)");
        mayCome("", "D");
        faultIs("D", 1);
        mayCome("D", LETTERS);
        for (int n = 1; n <= 12; n++) {
            TuneToEachHouse x = new TuneToEachHouse();
            Check.write(x, Towns.doors(n));
            Check.due("fault() of doors " + n, x.fault(), NONE);
            Check.due("town() of doors " + n, x.town(), n);
            Check.due("the last of doors " + n, x.note(n - 1), (n - 1) % 7);
        }
        faultIs(Towns.doors(13), 13);
        mayCome(Towns.doors(11), LETTERS + "WS");
        mayCome(Towns.doors(12), "WS");

        Sentences.begin(TERMS, "NOTES 0 to 6 (letters a to g)");
        for (int note = 0; note <= 6; note++) {
            TuneToEachHouse x = Check.townOf("D" + LETTERS.charAt(note));
            Check.due("note of " + LETTERS.charAt(note), x.note(0), note);
        }
        faultIs("D`", 1);
        faultIs("Dh", 1);
        faultIs("DA", 1);
        faultIs("Dag.", 3);

        Sentences.begin(TERMS, "then PARTS, none or more");
        faultIs("Dab", NONE);
        faultIs("DabSa", NONE);
        faultIs("DabW01", NONE);
        faultIs("DabcW01SaW12SbSbW02", NONE);
        mayCome("Dab", LETTERS + "WS");
        mayCome("DabcW01", "WS");
    }

    private static void streetsTold() {
        Sentences.begin(TERMS, "Wxy a STREET between DOORS x and y (unlike ones");
        for (int door = 0; door < 12; door++) {
            String sign = Towns.SIGNS.substring(door, door + 1);
            mayCome(Towns.doors(12) + "W" + sign, Towns.SIGNS.replace(sign, ""));
        }
        faultIs("DabW00", 5);
        faultIs("DabW11", 5);
        faultIs("DabW01", NONE);

        Sentences.begin(TERMS, "one sign each, 0 to 9, a is 10, b is 11)");
        for (int doors = 2; doors <= 12; doors++) {
            mayCome(Towns.doors(doors) + "W", Towns.SIGNS.substring(0, doors));
            mayCome(Towns.doors(doors) + "W0", Towns.SIGNS.substring(1, doors));
        }
        for (int one = 0; one < 12; one++) {
            for (int other = 0; other < 12; other++) {
                if (one != other) {
                    streetIs(one, other);
                }
            }
        }

        Sentences.begin(TERMS, "no pair twice (either way round)");
        faultIs("DabcW01W01", 9);
        faultIs("DabcW01W10", 9);
        faultIs("DabcW10W01", 9);
        faultIs("DabcW01SaW01", 11);
        faultIs("DabcW01W02", NONE);
        faultIs("DabcW01W12", NONE);
        mayCome("DabcdW01W0", "23");
        mayCome("DabcdW01W1", "23");
    }

    private static void streetIs(int one, int other) {
        TuneToEachHouse x = Check.townOf(Towns.doors(12) + "W" + Towns.SIGNS.charAt(one) + Towns.SIGNS.charAt(other));
        Check.due("street(" + one + ", " + other + ")", x.street(one, other), 1);
        Check.due("street(" + other + ", " + one + ")", x.street(other, one), 1);
        Check.due("streets", x.count(2), 1);
    }

    private static void songsTold() {
        Sentences.begin(TERMS, "Ss.. a SONG: 1 to 6 signs");
        faultIs("DaS", 3);
        for (int signs = 1; signs <= 6; signs++) {
            TuneToEachHouse x = Check.townOf("DaS" + "abc.ef".substring(0, signs));
            Check.due("the last of signs " + signs, x.song(0, signs - 1), new int[] {0, 1, 2, 8, 4, 5}[signs - 1]);
            Check.due("none behind signs " + signs, x.song(0, signs), NONE);
        }
        faultIs("DaSabcdefg", 9);
        faultIs("DaS.......", 9);
        faultIs("DaSaSabcdefg", 11);
        mayCome("DaSabcde", LETTERS + ".S");
        mayCome("DaSabcdef", "S");
        mayCome("DabSabcdef", "SW");

        Sentences.begin(TERMS, "each a to g, or a point");
        mayCome("DaS", LETTERS + ".");
        mayCome("DabSa", LETTERS + ".SW");

        Sentences.begin(TERMS, "4 SONGS at most, numbered as they are told");
        TuneToEachHouse x = Check.townOf("DabcSgW01SfW02SeW12S.");
        Check.due("songs", x.count(3), 4);
        int[] signs = {6, 5, 4, 8};
        for (int song = 0; song < 4; song++) {
            Check.due("song(" + song + ", 0)", x.song(song, 0), signs[song]);
        }
        faultIs("DaSaSaSaSa", NONE);
        faultIs("DaSaSaSaSaSa", 10);
        mayCome("DabSaSbSc", LETTERS + ".WS");
        mayCome("DabSaSbScSd", LETTERS + ".W");
        mayCome("DabSaSbScSabcdef", "W");
        mayCome("DabSaSbScSabcdefW01", "");
    }

    private static void faultPlaces() {
        Sentences.begin(TERMS, "FAULT: the place of the first byte by which THE TEXT can be no TOWN, whatever came behind it");
        // a street begun where no pair is left, or at a door that has all its streets
        mayCome("Da", LETTERS + "S");
        mayCome("DabW01", "S");
        mayCome("DabcW01W02W", "12");
        mayCome("DabcW01W02W1", "2");
        mayCome("DabcW01W02W12", "S");
        mayCome("DabcW01W02W12Sa", LETTERS + ".S");
        mayCome("DaSaSaSaSaaaaaa", "");
        // the first of several, and a byte that is wrong only by what came ahead of it
        faultIs("XX", 0);
        faultIs("DhW00", 1);
        faultIs("DabW00W00Sh", 5);
        faultIs("DabD", 3);
        faultIs("DabSW", 4);
        faultIs("DabW0W", 5);
        faultIs("DabWS", 4);
        faultIs("Dab" + (char) 0, 3);
        faultIs("Dab\n", 3);

        Sentences.begin(TERMS, "(its length set aside)");
        // of these the end would lie behind 96 bytes
        faultIs(Towns.ofBytes(94) + "W", 95);
        faultIs(Towns.ofBytes(94) + "W2", 96);
        faultIs(Towns.ofBytes(94) + "W0", 95);
        faultIs(Towns.ofBytes(95) + "S", 96);
        faultIs(Towns.ofBytes(95) + "W", 96);
        faultIs(Towns.ofBytes(95) + "X", 95);
    }

    private static void faultAtEnd() {
        Sentences.begin(TERMS, "its length, if it is only not at its end");
        String[] begun = {"", "D", "DabW", "DabW0", "DabW1", "DabW01S", "DaS", "DabcW01W02W1", "DaSaSbScS"};
        for (String text : begun) {
            faultIs(text, text.length());
        }

        Sentences.begin(TERMS, "NONE: none.");
        String[] whole = {"Da", "DabW01", "DabW10", "DabW01S.", "DaSa", "DabcW01W02W12", "DaSaSbScSd"};
        for (String text : whole) {
            faultIs(text, NONE);
        }

        Sentences.begin(4, "FAULT; NONE.");
        String town = "DabcW01SabW12S.c";
        TuneToEachHouse x = new TuneToEachHouse();
        Check.due("fault() of nothing", x.fault(), 0);
        for (int i = 0; i < town.length(); i++) {
            x.write(1, town.charAt(i));
            String text = town.substring(0, i + 1);
            boolean isWhole = text.matches("D[a-g]+(W..|S[a-g.]+)*");
            Check.due("fault() of " + text, x.fault(), isWhole ? NONE : i + 1);
            Check.due("fault() of " + text + " again", x.fault(), isWhole ? NONE : i + 1);
        }
        Check.due("THE TOWN is not made by it", x.count(1), 1);
        Check.due("the text is as it was", x.count(0), town.length());
    }

    private static void townMade() {
        Sentences.begin(5, "THE TEXT is THE TOWN");
        TuneToEachHouse x = Towns.joined(Towns.doors(12) + "SabcdefS......SgSa");
        x.let(0, 7);
        x.let(11, 7);
        Check.write(x, "DgfSd");
        Check.due("town()", x.town(), 2);
        Check.due("note(0)", x.note(0), 6);
        Check.due("note(1)", x.note(1), 5);
        Check.due("note(2)", x.note(2), -1);
        Check.due("streets", x.count(2), 0);
        Check.due("songs", x.count(3), 1);
        Check.due("song(0, 0)", x.song(0, 0), 3);
        Check.due("song(0, 1)", x.song(0, 1), NONE);
        Check.due("song(1, 0)", x.song(1, 0), -1);
        Check.due("still doors", x.count(6), 0);
        Check.due("THE TEXT stays", x.count(0), 5);

        Sentences.begin(5, "(THE WALK and what was heard are gone)");
        Check.walk(x, 1);
        Check.hear(x, 6, 8);
        Check.due("town(), the same again", x.town(), 2);
        Check.due("THE WALK", x.count(4), 0);
        Check.due("heard", x.count(5), 0);
        Check.due("at(0)", x.at(0), NONE);
        Check.due("go(0)", x.go(0), 1);
        Check.due("hear(0)", x.hear(0), 1);

        Sentences.begin(5, "how many DOORS.");
        for (int n = 1; n <= 12; n++) {
            Check.write(x, Towns.doors(n));
            Check.due("town() of doors " + n, x.town(), n);
            Check.due("count(1)", x.count(1), n);
        }
        Check.write(x, Towns.ofBytes(96));
        Check.due("town() of 96 bytes", x.town(), 12);
        Check.due("streets", x.count(2), 27);
    }

    private static void townRefused() {
        Sentences.begin(5, "STATE: a FAULT.");
        String[] faulty = {"", "D", "X", "Dh", Towns.doors(13), "DabW", "DabW0", "DabW00", "DabcW01W10", "DaS",
            "DaSabcdefg", "DaSaSbScSdSe", "DabW01W", "DaW", Towns.ofBytes(94) + "W2"};
        for (String text : faulty) {
            TuneToEachHouse x = Check.townOf("DcdW01Sa");
            Check.write(x, text);
            Check.due("town() of " + text, x.town(), STATE);
            Check.due("doors then", x.count(1), 2);
            Check.due("note(0) then", x.note(0), 2);
            Check.due("streets then", x.count(2), 1);
            Check.due("songs then", x.count(3), 1);
        }
        TuneToEachHouse x = new TuneToEachHouse();
        Check.write(x, "DabW0");
        Check.due("town() of a street without its end", x.town(), STATE);
        x.write(1, '1');
        Check.due("town() with its end", x.town(), 2);
    }
}
