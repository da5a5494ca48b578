/**
 * The boundaries of the tape and of what is told on it: section 1 of the terms, promises 6 to 8.
 *
 * <p>Above each test stands the sentence that it holds.
 */
public final class TapeBoundsTest {
    private static final String DRAINS = "drain 0 0;drain 1 0;drain 2 0;drain 3 0;drain 4 0;drain 5 4;";
    private static final String CHILDREN = "child shy 0 0 1;child small 1 0 2;child big 2 0 3;child glove 3 0 4;"
            + "child apron 5 4 9;";
    private static final String[] WORDS = {"law", "7", ";", "drain", "1", "2", ";", "child", "big", "3", "4", "5", ";"};

    private static final Check T = new Check("TapeBoundsTest");

    public static void main(String[] args) {
        oneToEightBytesAreFed();
        lowestBytesTheHighestFirst();
        tapeHasAtMostThreeHundred();
        fullTapeTakesNone();
        tapeIsEmptyThen();
        bytesThatCanStand();
        lettersOfNames();
        numbersAsTold();
        figuresAreThreeAtMost();
        numbersThatWrapAround();
        blanksAsManyAsWanted();
        blanksThatAreNotNeeded();
        textsThatEndTooSoon();
        tokensThatCannotStand();
        drainsAreSixAtMost();
        childrenAreFiveAtMost();
        firstTokenThatHasAFault();
        leastFaultOfOneToken();
        placeIsTheFirstByte();
        placeOfTheEnd();
        squareStandsInPlaceOfTheOneBefore();
        squareLeavesNoActAndNoPenny();
        faultLeavesAllButTheTape();
        faultTellsTheLatest();
        T.end();
    }

    private static int good(int children) {
        return children;
    }

    private static int at(int place) {
        return -1000100 - place;
    }

    /** A text on a new object: what square() answers, and what fault() tells then. */
    private static void due(String text, int answer, int fault) {
        HotPennies x = new HotPennies();
        String of = "'" + text + "'";
        T.due(of, Check.read(x, text), answer);
        T.due("fault() of " + of, x.fault(), fault);
        T.due("count(1) of " + of, x.count(1), Math.max(answer, 0));
    }

    private static String blanks(int n) {
        return " ".repeat(n);
    }

    /** "n bytes of w (1 to 8)". "feed: .. BAD: n" */
    private static void oneToEightBytesAreFed() {
        HotPennies x = new HotPennies();
        T.bounds("feed(0, ..)", 1, 8, n -> x.feed(0, n));
        T.due("count(6): 1 to 8, and 1 and 8 no more", x.count(6), 36);
        int sum = 36;
        for (int n = 1; n <= 8; n++) {
            sum += n;
            T.due("feed(0, " + n + "): how many it has", x.feed(0, n), sum);
        }
    }

    /** "The lowest n bytes of w .., the highest of them first, come behind the tape". */
    private static void lowestBytesTheHighestFirst() {
        for (int n = 1; n <= 8; n++) {
            for (long above : new long[] {0, -1L, 0x6162636465666768L, 0x3B3B3B3B3B3B3B3BL}) {
                HotPennies x = new HotPennies();
                String text = "law 17;drain 5 4;child glove 2 3 8;";
                while (text.length() % n != 0) {
                    text += ' ';
                }
                for (int from = 0; from < text.length(); from += n) {
                    long w = n == 8 ? 0 : above;
                    for (int k = 0; k < n; k++) {
                        w = w << 8 | text.charAt(from + k);
                    }
                    T.due("feed by " + n, x.feed(w, n), from + n);
                }
                T.due("square() of what is fed by " + n, x.square(), 1);
                T.due("count(3)", x.count(3), 17);
                T.due("cell(29, 1)", x.cell(29, 1), 1);
                T.due("child(0, 0)", x.child(0, 0), 20);
                T.due("child(0, 1)", x.child(0, 1), 8);
            }
        }
    }

    /** "THE TAPE has at most 300 bytes": the last one that comes by each n, and one beyond. */
    private static void tapeHasAtMostThreeHundred() {
        for (int n = 1; n <= 8; n++) {
            HotPennies x = new HotPennies();
            Check.feed(x, blanks(300 - n));
            T.due("feed(" + n + ") up to 300", x.feed(0x2020202020202020L, n), 300);
            HotPennies y = new HotPennies();
            Check.feed(y, blanks(301 - n));
            T.due("feed(" + n + ") up to 301", y.feed(0x2020202020202020L, n), Check.FULL);
            T.due("count(6)", y.count(6), 301 - n);
            T.due("feed(1)", y.feed(32, 1), n == 1 ? Check.FULL : 302 - n);
        }
        String ends = "law 7;" + blanks(300 - 6 - 16) + "child shy 1 1 1;";
        T.due("a text of 300 bytes, all read", Check.told(ends).child(0, 0), 7);
        String begins = "law 7;" + "child shy 1 1 1;" + blanks(300 - 6 - 16);
        T.due("a text of 300 bytes, blanks behind", Check.told(begins).child(0, 0), 7);
    }

    /** "FULL: none comes": neither the first of them. */
    private static void fullTapeTakesNone() {
        HotPennies x = new HotPennies();
        Check.feed(x, "law 7;" + blanks(290));
        T.due("feed(';;;;;', 5)", x.feed(0x3B3B3B3B3BL, 5), Check.FULL);
        T.due("feed(';;;;;;;;', 8)", x.feed(0x3B3B3B3B3B3B3B3BL, 8), Check.FULL);
        T.due("count(6)", x.count(6), 296);
        T.due("feed of four blanks", x.feed(0x20202020L, 4), 300);
        T.due("feed(';', 1)", x.feed(0x3BL, 1), Check.FULL);
        T.due("count(6)", x.count(6), 300);
        T.due("square()", x.square(), good(0));
        T.due("count(3)", x.count(3), 7);
    }

    /** "The tape, empty then, is read": after a good text, and after one with a fault. */
    private static void tapeIsEmptyThen() {
        HotPennies x = new HotPennies();
        T.due("square() of an empty tape", x.square(), at(0));
        T.due("a good text", Check.read(x, "law 7;child shy 1 1 1;"), good(1));
        T.due("count(6)", x.count(6), 0);
        T.due("square() of what is empty then", x.square(), at(0));
        T.due("what was on the tape is not read again", Check.read(x, "law 8"), at(5));
        T.due("count(6) after a fault", x.count(6), 0);
        T.due("square() after a fault", x.square(), at(0));
        T.due("feed: how many it has", x.feed(0x6C61772035L, 5), 5);
        T.due("feed", x.feed(0x3BL, 1), 6);
        T.due("square()", x.square(), good(0));
        T.due("count(3)", x.count(3), 5);
        T.due("a whole tape once more", Check.feed(x, "law 9;" + blanks(294)), 300);
        T.due("square()", x.square(), good(0));
        T.due("count(3)", x.count(3), 9);
    }

    /** "NAMES (letters a to z), NUMBERS (figures ..), SIGNS ; bytes 32 and 10": each byte, at each kind of place. */
    private static void bytesThatCanStand() {
        for (int b = 0; b < 256; b++) {
            char c = (char) b;
            boolean blank = b == 32 || b == 10;
            boolean letter = b >= 97 && b <= 122;
            boolean figure = b >= 48 && b <= 57;
            dueByte(c + "law 7;", blank, 0, 1);
            dueByte("law 7;" + c, blank, 6, 1);
            boolean upTo20 = b == 48 || b == 49;
            dueByte("law" + c + "7;", blank || upTo20, letter ? 0 : 3, figure ? 2 : 1);
            dueByte("law 1" + c + ";", blank || figure, c == ';' ? 6 : 5, 1);
            dueByte("law 7" + c, c == ';', figure ? 4 : blank ? 6 : 5, figure ? 2 : 1);
            dueByte("law 7;drain 1" + c + "2;", blank, figure ? 12 : 13, figure ? 2 : 1);
            dueByte("law 7;drain" + c + "1 2;", blank || b == 48, letter ? 6 : 11, figure ? 2 : 1);
        }
    }

    private static void dueByte(String text, boolean isGood, int place, int fault) {
        due(text, isGood ? good(0) : at(place), isGood ? 0 : fault);
    }

    /** "'law'", "'drain'", "'child'", "SORT: 'small' | 'big' | 'apron' | 'glove' | 'shy'": no other name. */
    private static void lettersOfNames() {
        dueNames("", "law", " 7;");
        dueNames("law 7;", "drain", " 0 0;");
        dueNames("law 7;", "child", " big 0 0 1;");
        for (String sort : new String[] {"small", "big", "apron", "glove", "shy"}) {
            due("law 7;child " + sort + " 0 0 1;", good(1), 0);
            dueNames("law 7;child ", sort, " 0 0 1;");
        }
    }

    private static void dueNames(String ahead, String name, String behind) {
        for (int i = 0; i < name.length(); i++) {
            for (char c = 'a'; c <= 'z'; c++) {
                String other = name.substring(0, i) + c + name.substring(i + 1);
                if (!other.equals(name)) {
                    due(ahead + other + behind, at(ahead.length()), 1);
                }
            }
            due(ahead + name.substring(0, i) + name.substring(i + 1) + behind, at(ahead.length()), 1);
            char big = (char) (name.charAt(i) - 32);
            due(ahead + name.substring(0, i) + big + name.substring(i + 1) + behind, at(ahead.length()), 1);
        }
        for (char c = 'a'; c <= 'z'; c++) {
            due(ahead + name + c + behind, at(ahead.length()), 1);
            due(ahead + c + name + behind, at(ahead.length()), 1);
        }
        due(ahead + name + name + behind, at(ahead.length()), 1);
        due(ahead + behind.substring(1), at(ahead.length()), 1);
    }

    /** "HEAT (0 to 20)", "X Y (0 to 5; 0 to 4)", "STRENGTH (.. 1 to 9)": each number, with noughts ahead, too. */
    private static void numbersAsTold() {
        dueNumbers("law ", ";", 0, 20, 0);
        dueNumbers("law 7;drain ", " 0;", 0, 5, 0);
        dueNumbers("law 7;drain 0 ", ";", 0, 4, 0);
        dueNumbers("law 7;child shy ", " 0 1;", 0, 5, 1);
        dueNumbers("law 7;child shy 0 ", " 1;", 0, 4, 1);
        dueNumbers("law 7;child shy 0 0 ", ";", 1, 9, 1);
        T.due("HEAT 0", Check.told("law 0;").count(3), 0);
        T.due("HEAT 020", Check.told("law 020;").count(3), 20);
        T.due("drain 5 4", Check.told("law 0;drain 05 004;").cell(29, 1), 1);
        T.due("drain 0 0", Check.told("law 0;drain 000 0;").cell(0, 1), 1);
        T.due("child 5 4", Check.told("law 0;child shy 005 04 009;").child(0, 0), 29);
        T.due("STRENGTH 9", Check.told("law 0;child shy 005 04 009;").child(0, 1), 9);
        T.due("STRENGTH 1", Check.told("law 0;child shy 0 0 001;").child(0, 1), 1);
    }

    private static void dueNumbers(String ahead, String behind, int least, int most, int children) {
        for (int v = 0; v <= 999; v++) {
            boolean isGood = v >= least && v <= most;
            due(ahead + v + behind, isGood ? good(children) : at(ahead.length()), isGood ? 0 : 2);
            String three = ("00" + v).substring(("00" + v).length() - 3);
            if (v < 100) {
                due(ahead + three + behind, isGood ? good(children) : at(ahead.length()), isGood ? 0 : 2);
            }
        }
    }

    /** "figures, 3 at most", "or is none (a run of four figures or more, at its first ..)" */
    private static void figuresAreThreeAtMost() {
        String[][] around = {{"law ", ";"}, {"law 7;drain ", " 0;"}, {"law 7;drain 0 ", ";"},
            {"law 7;child shy ", " 0 1;"}, {"law 7;child shy 0 ", " 1;"}, {"law 7;child shy 0 0 ", ";"}};
        for (String[] a : around) {
            for (String run : new String[] {"0000", "0001", "0003", "00001", "1000", "9999", "1".repeat(100)}) {
                due(a[0] + run + a[1], at(a[0].length()), 1);
                due(a[0] + "\n " + run + a[1], at(a[0].length() + 2), 1);
            }
            due(a[0] + "003 " + a[1], good(a[0].indexOf("child") > 0 ? 1 : 0), 0);
        }
        due("0007 law 7;", at(0), 1);
        due("law 7;0007", at(6), 1);
        due("law" + "0".repeat(297), at(3), 1);
    }

    /** A run of figures that would be a good number by its lowest bits is none. */
    private static void numbersThatWrapAround() {
        for (String run : new String[] {"4294967296", "4294967301", "18446744073709551617", "65541", "4099", "1025"}) {
            due("law " + run + ";", at(4), 1);
            due("law 7;drain 0 " + run + ";", at(14), 1);
            due("law 7;child shy 0 0 " + run + ";", at(20), 1);
        }
        due("law 256;", at(4), 2);
        due("law 257;", at(4), 2);
        due("law 7;drain 256 0;", at(12), 2);
        due("law 7;child shy 0 0 257;", at(20), 2);
    }

    /** "bytes 32 and 10 ahead of, between, behind these, as many as wanted" */
    private static void blanksAsManyAsWanted() {
        for (String blank : new String[] {" ", "\n", "  ", "\n\n", " \n", "\n ", "\n \n   \n", blanks(18)}) {
            StringBuilder text = new StringBuilder(blank);
            for (String word : WORDS) {
                text.append(word).append(blank);
            }
            HotPennies x = new HotPennies();
            T.due("blanks everywhere", Check.read(x, text.toString()), good(1));
            T.due("count(3)", x.count(3), 7);
            T.due("cell(13, 1)", x.cell(13, 1), 1);
            T.due("child(0, 0)", x.child(0, 0), 27);
            T.due("child(0, 1)", x.child(0, 1), 5);
        }
    }

    /** "(none is needed where one ends without)": and one is, where none ends without. */
    private static void blanksThatAreNotNeeded() {
        due("law7;drain1 2;child big3 4 5;", good(1), 0);
        due("law7;drain1\n2;child\nbig3\n4\n5;", good(1), 0);
        due("law7;drain0 0;drain1 2;child shy0 0 1;child big3 4 5;", good(2), 0);
        due("law7;drain12;", at(10), 2);
        due("law7;drain00;", at(12), 1);
        due("law7;childbig3 4 5;", at(5), 1);
        due("law7;child big34 5;", at(14), 2);
        due("law7;child big04 4;", at(18), 1);
        due("law7;child big3 45;", at(16), 2);
        due("law7;child big3 04;", at(18), 1);
        due("law7;child big3 4 5;child shy0 0 1", at(34), 1);
        due("lawdrain 0 0;", at(0), 1);
    }

    /** "1 .. (.. the end: how many bytes there are)": the text broken off at each byte. */
    private static void textsThatEndTooSoon() {
        StringBuilder text = new StringBuilder();
        due("", at(0), 1);
        for (int w = 0; w < WORDS.length; w++) {
            int from = text.length();
            for (int n = 1; n < WORDS[w].length(); n++) {
                due(text + WORDS[w].substring(0, n), at(from), 1);
            }
            text.append(WORDS[w]);
            boolean isGood = w == 2 || w == 6 || w == 12;
            dueEnd(text.toString(), isGood, w == 12 ? 1 : 0);
            text.append(' ');
            dueEnd(text.toString(), isGood, w == 12 ? 1 : 0);
            dueEnd(text + "\n\n  ", isGood, w == 12 ? 1 : 0);
        }
    }

    private static void dueEnd(String text, boolean isGood, int children) {
        due(text, isGood ? good(children) : at(text.length()), isGood ? 0 : 1);
    }

    /** "1 it cannot stand there, or is none": each token in place of another, or one more. */
    private static void tokensThatCannotStand() {
        for (int w = 0; w < WORDS.length; w++) {
            String[] others = isNumber(WORDS[w]) ? new String[] {";", "law", "drain", "x", "-", "1000", "A", ":"}
                    : WORDS[w].equals(";") ? new String[] {"5", "law", "drain", "child", "big", ":", ",", "1000", "."}
                    : new String[] {"5", ";", "x", "apr", "1000", "-", "_"};
            for (String other : others) {
                due(text(w, other), at(place(w)), 1);
            }
            if (!isNumber(WORDS[w]) && !WORDS[w].equals(";")) {
                due(text(w, ";" + WORDS[w]), at(place(w)), 1);
                due(text(w, "3 " + WORDS[w]), at(place(w)), 1);
                due(text(w, "? " + WORDS[w]), at(place(w)), 1);
            } else {
                // Of numbers told in a row the last one is too many.
                due(text(w, WORDS[w] + " " + WORDS[w]), at(place(w) + 2 * numbersFrom(w)), 1);
            }
        }
        due("law 7;law 7;", at(6), 1);
        due("law 7;drain 0 0;law 7;", at(16), 1);
        due("law 7;child shy 0 0 1;law 7;", at(22), 1);
        due("law 7;child shy 0 0 1;drain 0 0;", at(22), 1);
        due("drain 0 0;", at(0), 1);
        due("child shy 0 0 1;", at(0), 1);
        due("law 7;shy 0 0 1;", at(6), 1);
        due("law 7;child child 0 0 1;", at(12), 1);
        due("law 7;child drain 0 0 1;", at(12), 1);
        due("law 7;drain small 0 0;", at(12), 1);
        due("law 7;drain drain 0 0;", at(12), 1);
    }

    private static boolean isNumber(String word) {
        return word.charAt(0) >= '0' && word.charAt(0) <= '9';
    }

    private static int numbersFrom(int w) {
        int many = isNumber(WORDS[w]) ? 0 : 1;
        for (int k = w; isNumber(WORDS[k]); k++) {
            many++;
        }
        return many;
    }

    private static String text(int w, String other) {
        StringBuilder text = new StringBuilder();
        for (int k = 0; k < WORDS.length; k++) {
            text.append(k == w ? other : WORDS[k]).append(' ');
        }
        return text.toString();
    }

    private static int place(int w) {
        int place = 0;
        for (int k = 0; k < w; k++) {
            place += WORDS[k].length() + 1;
        }
        return place;
    }

    /** "6 told at most", "3 a drain .. more than there is room for (its word)": told twice counts twice. */
    private static void drainsAreSixAtMost() {
        due("law 7;" + DRAINS, good(0), 0);
        due("law 7;" + DRAINS + CHILDREN, good(5), 0);
        T.due("count(2) of six", Check.told("law 7;" + DRAINS).count(2), 6);
        for (int n = 0; n <= 6; n++) {
            String alike = "law 7;" + "drain 5 4;".repeat(n);
            T.due("count(2) of " + n + " alike", Check.told(alike).count(2), Math.min(n, 1));
            T.due("cell(29, 1) of " + n + " alike", Check.told(alike).cell(29, 1), Math.min(n, 1));
        }
        due("law 7;" + DRAINS + "drain 0 1;", at(66), 3);
        due("law 7;" + DRAINS + "drain 0 0;", at(66), 3);
        due("law 7;" + "drain 0 0;".repeat(7), at(66), 3);
        due("law 7;" + "drain 0 0;".repeat(8), at(66), 3);
        due("law 7;" + DRAINS + "\n\ndrain 0 1;" + CHILDREN, at(68), 3);
        due("law 7;" + DRAINS + "drain 9 9;", at(66), 3);
        due("law 7;" + DRAINS + "drain", at(66), 3);
        due("law 7;" + DRAINS + "drain;", at(66), 3);
    }

    /** "5 at most", "3 .. a child more than there is room for (its word)" */
    private static void childrenAreFiveAtMost() {
        String five = CHILDREN;
        for (int n = 0; n <= 5; n++) {
            HotPennies x = Check.told("law 7;" + "child big 5 4 9;".repeat(n));
            T.due("count(1) of " + n, x.count(1), n);
            T.due("child(" + n + ", 0) of " + n, x.child(n, 0), Check.BAD);
            T.due("child(" + (n - 1) + ", 0) of " + n, x.child(n - 1, 0), n == 0 ? Check.BAD : 29);
        }
        int end = 6 + five.length();
        due("law 7;" + five + "child shy 0 0 1;", at(end), 3);
        due("law 7;" + five + "child shy 0 0 1;child shy 0 0 1;", at(end), 3);
        due("law 7;" + five + " \nchild shy 0 0 1;", at(end + 2), 3);
        due("law 7;" + five + "child pig 0 0 0;", at(end), 3);
        due("law 7;" + five + "child", at(end), 3);
        due("law 7;" + DRAINS + five + "child shy 0 0 1;", at(60 + end), 3);
    }

    /** "FAULTS, the first TOKEN that has one": whatever comes behind it. */
    private static void firstTokenThatHasAFault() {
        due("law 21;drain 0 0 x", at(4), 2);
        due("law 21 21;", at(4), 2);
        due("law 7;drain 6 5;", at(12), 2);
        due("law 7;drain 6 x;", at(12), 2);
        due("law 7;drain x 5;", at(12), 1);
        due("law 7;drain 5 5;drain x", at(14), 2);
        due("law 7;child pig 6 5 0;", at(12), 1);
        due("law 7;child big 6 5 0;", at(16), 2);
        due("law 7;child big 5 5 0;", at(18), 2);
        due("law 7;child big 5 4 0;", at(20), 2);
        due("law 7;child big 5 4 10 1", at(20), 2);
        due("law 7;" + DRAINS + "drain 0 0;law", at(66), 3);
        due("law 7;" + DRAINS.substring(10) + "drain 6 0;drain 0 0;", at(62), 2);
        due("law 7;" + CHILDREN + "child pig;law", at(6 + CHILDREN.length()), 3);
    }

    /** "of one TOKEN the least": 1 ahead of 2, 1 ahead of 3. */
    private static void leastFaultOfOneToken() {
        due("law 7 21;", at(6), 1);
        due("law 7;drain 0 0 9;", at(16), 1);
        due("law 7;99", at(6), 1);
        due("99 law 7;", at(0), 1);
        due("law 1000;", at(4), 1);
        due("law 9999;", at(4), 1);
        due("law 7;child 99 0 0 1;", at(12), 1);
        due("law 7;" + DRAINS + CHILDREN + "drain 0 0;", at(66 + CHILDREN.length()), 1);
        due("law 7;" + DRAINS.substring(0, 59) + "drain 0 0;", at(65), 1);
        due("law 7;" + DRAINS + "drain 0 0;", at(66), 3);
        due("law 7;" + CHILDREN.substring(0, CHILDREN.length() - 1) + "child shy 0 0 1;", at(5 + CHILDREN.length()), 1);
        due("law 7;" + CHILDREN + "drain 0 0;", at(6 + CHILDREN.length()), 1);
    }

    /** "(its first byte)", "-1000100 less the place of a FAULT" */
    private static void placeIsTheFirstByte() {
        due("x", at(0), 1);
        due(blanks(299) + "x", at(299), 1);
        due(blanks(295) + "child", at(295), 1);
        due("law 7;" + blanks(200) + "drain 123 0;", at(212), 2);
        due("law 7;" + "\n".repeat(200) + "drain 1234 0;", at(212), 1);
        due("law 7;" + DRAINS + blanks(100) + "drain 0 0;", at(166), 3);
        due("law 7;" + CHILDREN + blanks(100) + "children 0 0;", at(106 + CHILDREN.length()), 1);
    }

    /** "the end: how many bytes there are": blanks behind the last token, too, up to a whole tape. */
    private static void placeOfTheEnd() {
        for (int n : new int[] {0, 1, 7, 8, 9, 255, 256, 257, 299, 300}) {
            due(blanks(n), at(n), 1);
            due("\n".repeat(n), at(n), 1);
        }
        due("law 7" + blanks(295), at(300), 1);
        due(blanks(295) + "law 7", at(300), 1);
        due(blanks(294) + "law 7;", good(0), 0);
        due(blanks(297) + "law", at(300), 1);
        HotPennies x = new HotPennies();
        T.due("a whole tape", Check.read(x, "law 7;" + ";".repeat(294)), at(6));
        T.due("nothing is left behind the end", Check.read(x, "law 7"), at(5));
        T.due("nor of a number", Check.read(x, "law 7;drain 1"), at(13));
    }

    /**
     * "A SQUARE that is read stands in place of the one before ..: nobody has a penny; no ACT can be undone; IMAGES
     * and ROWS stay."
     */
    private static void squareStandsInPlaceOfTheOneBefore() {
        HotPennies x = Check.told("law 7;drain 0 0;drain 5 4;child glove 2 2 9;child apron 1 1 8;child shy 5 4 7;");
        Check.tellRow(x, 0, 3, 4);
        T.due("image(1)", x.image(1), 1);
        T.due("toss", x.toss(14, 0, 9, 1), 9);
        T.due("run", x.run(1, 8), 1);
        T.due("ask", x.ask(0, 0), -91);
        T.due("as", x.as(0, 5), Check.KIND);
        T.due("another square", Check.read(x, "law 2;drain 3 3;child small 2 2 1;child shy 0 4 3;"), good(2));
        int[] counts = {1, 2, 1, 2, 0, 0, 0};
        for (int what = 0; what < counts.length; what++) {
            T.due("count(" + what + ")", x.count(what), counts[what]);
        }
        T.due("undo()", x.undo(), Check.STATE);
        T.due("child(0, 2)", x.child(0, 2), 0);
        T.due("child(0, 1)", x.child(0, 1), 1);
        T.due("kind(0)", x.kind(0), 1);
        T.due("child(1, 0)", x.child(1, 0), 24);
        T.due("child(2, 0)", x.child(2, 0), Check.BAD);
        T.due("cell(0, 1)", x.cell(0, 1), 0);
        T.due("cell(29, 1)", x.cell(29, 1), 0);
        T.due("cell(21, 1)", x.cell(21, 1), 1);
        T.due("trace(0) stays", x.trace(0), 13);
        T.due("status() stays", x.status(), 3);
        T.due("restore(0): none was kept", x.restore(0), Check.STATE);
        T.due("row 0 stays", x.stood(0, 0, 2, 1, 0), (1 << 30) - 1 & ~Check.bits(3, 4));
        T.due("restore(1)", x.restore(1), 1);
        T.due("count(1)", x.count(1), 3);
        T.due("child(1, 0)", x.child(1, 0), 7);
        T.due("an empty square", Check.read(x, "law 0;"), good(0));
        T.due("count(1)", x.count(1), 0);
        T.due("count(2)", x.count(2), 0);
        T.due("child(0, 0)", x.child(0, 0), Check.BAD);
    }

    /** "nobody has a penny; no ACT can be undone": however many there were, and if the text is the same again. */
    private static void squareLeavesNoActAndNoPenny() {
        String text = "law 0;child glove 0 0 1;child glove 2 2 1;child glove 5 4 1;child apron 5 0 1;child big 0 4 1;";
        for (int acts : new int[] {1, 2, 23, 24, 25, 60}) {
            HotPennies x = Check.told(text);
            for (int act = 0; act < acts; act++) {
                x.toss(new int[] {0, 14, 29, 5, 24}[act % 5], 0, 3, 1);
            }
            T.due("count(5) of " + acts + " throws", x.count(5), 3 * acts);
            T.due("the same text again", Check.read(x, text), good(5));
            T.due("count(4) after " + acts + " throws and a square", x.count(4), 0);
            T.due("count(5)", x.count(5), 0);
            for (int c = 0; c < 5; c++) {
                T.due("child(" + c + ", 2)", x.child(c, 2), 0);
            }
            T.due("undo()", x.undo(), Check.STATE);
            x.run(0, 1);
            T.due("undo() of an act since", x.undo(), 0);
            T.due("undo() of no more", x.undo(), Check.STATE);
            T.due("count(5) as it was then", x.count(5), 0);
        }
    }

    /** "all but the tape, and what fault() tells, stays": of each kind of fault, wherever it is. */
    private static void faultLeavesAllButTheTape() {
        String[] texts = {"", "law", "law 21;", "law 1;drain 3 3;drain 6 0;", "law 1;drain 3 3;child shy 1 1 1;x",
            "law 1;" + DRAINS + "drain 0 0;", "law 1;" + CHILDREN + "child shy 0 0 1;", "law 1;child shy 3 3 3;child"};
        for (String text : texts) {
            HotPennies x = Check.told("law 7;drain 0 0;child glove 2 2 9;child apron 1 1 8;");
            Check.tellRow(x, 0, 3, 4);
            x.toss(14, 0, 9, 1);
            x.image(0);
            x.run(1, 8);
            x.ask(0, 0);
            x.as(0, 5);
            T.due("a text with a fault", Check.read(x, text) <= -1000100 ? 1 : 0, 1);
            int[] counts = {1, 2, 1, 7, 2, 9, 0};
            for (int what = 0; what < counts.length; what++) {
                T.due("count(" + what + ") after '" + text + "'", x.count(what), counts[what]);
            }
            T.due("child(1, 0)", x.child(1, 0), 8);
            T.due("child(1, 1)", x.child(1, 1), 8);
            T.due("child(0, 2)", x.child(0, 2), 9);
            T.due("kind(1)", x.kind(1), 5);
            T.due("cell(0, 1)", x.cell(0, 1), 1);
            T.due("cell(21, 1)", x.cell(21, 1), 0);
            T.due("trace(0)", x.trace(0), 13);
            T.due("status()", x.status(), 3);
            T.due("undo()", x.undo(), 1);
            T.due("child(1, 0)", x.child(1, 0), 7);
            T.due("restore(0)", x.restore(0), 1);
            T.due("child(0, 2)", x.child(0, 2), 9);
            T.due("a good text then", Check.read(x, "law 3;"), good(0));
            T.due("count(2): no drain of the other text", x.count(2), 0);
        }
        HotPennies none = new HotPennies();
        T.due("a text with a fault", Check.read(none, "law 1;child shy 1 1 1;x"), at(22));
        T.due("cell(0, 0): no SQUARE yet", none.cell(0, 0), Check.STATE);
        T.due("count(1)", none.count(1), 0);
        T.due("count(3)", none.count(3), 0);
    }

    /** "The number of the latest FAULT; 0 before one." */
    private static void faultTellsTheLatest() {
        HotPennies x = new HotPennies();
        T.due("fault() at first", x.fault(), 0);
        Check.read(x, "law 1;");
        T.due("fault() after a good text", x.fault(), 0);
        String[] texts = {"law 21;", "law 1;", "law", "law 1;" + DRAINS + "drain 0 0;", "law 1;", "law 99;", "x"};
        int[] faults = {2, 2, 1, 3, 3, 2, 1};
        for (int k = 0; k < texts.length; k++) {
            Check.feed(x, texts[k]);
            T.due("fault() ahead of square()", x.fault(), k == 0 ? 0 : faults[k - 1]);
            x.square();
            T.due("fault() after '" + texts[k] + "'", x.fault(), faults[k]);
        }
        x.restore(0);
        x.undo();
        T.due("fault() stays", x.fault(), 1);
        T.due("fault() of another object", new HotPennies().fault(), 0);
    }
}
