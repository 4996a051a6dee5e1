/** Promises 1 to 11, sentence by sentence: where the document names a boundary of what is told. */
public final class ToldBoundsTest extends Bench {
    private static final String[] RHYMED = {"plain 1 1 ", "elided 1 1 ", "false 1 1 ", "free 1 ", "port 0 "};
    private static final String[] STRESSED = {"plain", "elided", "false"};
    private static final String[] CLERKS = {"strict", "slurring", "deaf"};
    private static final String[] METRES = {"none", "rising", "falling"};

    public static void main(String[] args) {
        noneAtFirst();
        asWritten();
        nineWords();
        tenthWord();
        sixWares();
        threeClerks();
        syllables();
        stress();
        rhymes();
        ports();
        weights();
        metre();
        usesTold();
        lettersOfTheText();
        textOf160();
        clauses();
        emptyText();
        customsClause();
        customsLeavesNothing();
        smallLetters();
        digits();
        blanks();
        noBlanks();
        earlierTexts();
        firstFault();
        endTooSoon();
        inTheirOrder();
        behindThem();
        erased();
        faultTold();
        notDone();
        wordRefused();
        wareRefused();
        clerkRefused();
        rhymeRefused();
        takenAs();
        asRefused();
        clerkTakenAs();
        clerkAsRefused();
        end();
    }

    private static void noneAtFirst() {
        sentence("No WORDS, WARES, CLERKS.");
        VerseCustoms x = new VerseCustoms();
        for (int what = 0; what <= 10; what++) due(x.count(what), 0);
        for (int i = 0; i < 10; i++) {
            due(x.word(i, 0), UNKNOWN);
            due(x.ware(i, 0), UNKNOWN);
            due(x.clerk(i), UNKNOWN);
        }
        due(x.line(0), OUTSIDE);
        due(x.undo(), NOT);
        due(x.back(0), NOT);
        due(x.back(1), NOT);
        due(x.canBe(0), NOT);
        due(x.fault(), 0);
        VerseCustoms other = new VerseCustoms();
        tell(x, "free 1 0;ware 1 0;deaf;port 0 1");
        due(other.count(0) + other.count(1) + other.count(2), 0);
        due(other.rhyme(0, 2), 15);
    }

    private static void asWritten() {
        sentence("As written here, without points");
        String[] clauses = {"customs", "plain 2 1 3", "elided 2 1 3", "false 2 1 3", "free 2 3", "port 2 3", "ware 2 3",
            "strict", "slurring", "deaf", "none", "rising", "falling", "uses 2 3"};
        for (String clause : clauses) {
            due(faultOf(clause), NONE);
            due(faultOf(clause + "."), clause.length());
            due(faultOf(clause + " 0"), clause.length() + 1);
            int end = clause.indexOf(' ') < 0 ? clause.length() : clause.indexOf(' ');
            for (int i = 0; i < end; i++) {
                String head = clause.substring(0, i), tail = clause.substring(i + 1);
                char letter = clause.charAt(i);
                due(faultOf(head + (char) (letter - 1) + tail), 0);
                due(faultOf(head + (char) (letter + 1) + tail), 0);
                due(faultOf(head + tail), 0);
                due(faultOf(head + letter + letter + tail), 0);
                due(faultOf(head + (char) (letter - 32) + tail), 0);
            }
        }
    }

    private static void nineWords() {
        sentence("WORDS are 0, 1 .. as they come, 9 at most (none at first)");
        VerseCustoms x = new VerseCustoms();
        String[] kinds = {"plain", "elided", "false"};
        for (int w = 0; w < 9; w++) {
            due(x.word(w, 0), UNKNOWN);
            due(tell(x, kinds[w % 3] + " " + (1 + w % 4) + " 1 " + w % 6), 1);
            due(x.count(0), w + 1);
        }
        for (int w = 0; w < 9; w++) {
            due(x.word(w, 0), w % 3);
            due(x.word(w, 1), 1 + w % 4);
            due(x.word(w, 3), w % 6);
        }
        due(x.word(9, 0), UNKNOWN);
        x = told(repeat("free 1 0", 8) + ";free 4 5");
        due(x.word(7, 1), 1);
        due(x.word(8, 1), 4);
        due(x.word(8, 3), 5);
    }

    private static void tenthWord() {
        sentence("a tenth cannot stand there (at its word)");
        String nine = repeat("free 1 0", 9);
        due(faultOf(nine), NONE);
        due(faultOf(nine + ";free 1 0"), 81);
        due(faultOf(nine + ";  plain 1 1 0"), 83);
        due(faultOf(nine + ";elided 9 9 9"), 81);
        due(faultOf(nine + ";false"), 81);
        due(faultOf(nine + ";sonnet"), 81);
        due(faultOf(nine + ";none;free 1 0"), 86);
        due(faultOf(nine + ";customs;free 1 0"), NONE);
        for (String word : new String[] {"free 1 0", "plain 1 1 0", "elided 1 1 0", "false 1 1 0"}) {
            still(x -> { tell(x, nine); write(x, word); }, x -> x.fault(), 0);
            still(x -> { tell(x, nine); write(x, word); }, x -> x.customs(), NOT);
        }
        String eight = repeat("free 1 0", 8);
        still(x -> { tell(x, eight); write(x, "deaf;free 1 0"); }, x -> x.fault(), NONE);
        still(x -> { tell(x, eight); write(x, "deaf;free 1 0;free 1 0"); }, x -> x.fault(), 14);
        still(x -> { tell(x, nine); write(x, "deaf;customs;" + eight + ";free 1 0"); }, x -> x.fault(), NONE);
        still(x -> { tell(x, nine); write(x, "customs;" + nine + ";free 1 0"); }, x -> x.fault(), 89);
        still(x -> { tell(x, nine); write(x, "free 1 0;customs"); }, x -> x.fault(), 0);
    }

    private static void sixWares() {
        sentence("WARES are 0, 1 .. as they come, 6 at most (none at first)");
        VerseCustoms x = new VerseCustoms();
        for (int w = 0; w < 6; w++) {
            due(x.ware(w, 0), UNKNOWN);
            due(tell(x, "ware " + (w + 7) + " " + w % 4), 1);
            due(x.count(1), w + 1);
            due(x.ware(w, 0), w + 7);
            due(x.ware(w, 1), w % 4);
        }
        due(x.ware(0, 0), 7);
        due(x.ware(6, 0), UNKNOWN);
        sentence("a seventh cannot stand there");
        String six = repeat("ware 1 0", 6);
        due(faultOf(six), NONE);
        due(faultOf(six + ";ware 1 0"), 54);
        due(faultOf(six + "; ware 99 9"), 55);
        due(faultOf(six + ";customs;ware 1 0"), NONE);
        still(y -> { tell(y, six); write(y, "ware 1 0"); }, y -> y.fault(), 0);
        still(y -> { tell(y, six); write(y, "ware 1 0"); }, y -> y.customs(), NOT);
        String five = repeat("ware 1 0", 5);
        still(y -> { tell(y, five); write(y, "ware 1 0"); }, y -> y.fault(), NONE);
        still(y -> { tell(y, five); write(y, "ware 1 0;ware 1 0"); }, y -> y.fault(), 9);
        still(y -> { tell(y, six); write(y, "customs;" + six + ";ware 1 0"); }, y -> y.fault(), 62);
    }

    private static void threeClerks() {
        sentence("CLERKS are 0, 1 .. as they come, 3 at most (none at first)");
        for (int first = 0; first < 3; first++) {
            VerseCustoms x = new VerseCustoms();
            for (int c = 0; c < 3; c++) {
                due(x.clerk(c), UNKNOWN);
                due(tell(x, CLERKS[(first + c) % 3]), 1);
                due(x.count(2), c + 1);
            }
            for (int c = 0; c < 3; c++) due(x.clerk(c), (first + c) % 3);
            due(x.clerk(3), UNKNOWN);
        }
        sentence("a fourth cannot stand there");
        due(faultOf("deaf;deaf;deaf"), NONE);
        for (String clerk : CLERKS) {
            due(faultOf("deaf;strict;slurring;" + clerk), 21);
            still(x -> { tell(x, "deaf;deaf;deaf"); write(x, " " + clerk); }, x -> x.fault(), 1);
            still(x -> { tell(x, "deaf;deaf;deaf"); write(x, clerk); }, x -> x.customs(), NOT);
            still(x -> { tell(x, "deaf;deaf"); write(x, clerk); }, x -> x.fault(), NONE);
            still(x -> { tell(x, "deaf;deaf"); write(x, clerk + ";strict"); }, x -> x.fault(), clerk.length() + 1);
            still(x -> { tell(x, "deaf;deaf;deaf"); write(x, "customs;" + clerk); }, x -> x.fault(), NONE);
        }
        due(faultOf("deaf;deaf;deaf;customs;deaf;deaf;deaf;deaf"), 38);
    }

    private static void syllables() {
        sentence("of SYLLABLES (1 .. 4)");
        for (String kind : new String[] {"plain", "elided", "false", "free"}) {
            String stress = kind.equals("free") ? "" : " 1";
            for (int s = 0; s <= 99; s++) {
                String text = kind + " " + s + stress + " 0";
                due(faultOf(text), s >= 1 && s <= 4 ? NONE : kind.length() + 1);
                if (s >= 1 && s <= 4) due(told(text).word(0, 1), s);
            }
            due(faultOf(kind + " 04" + stress + " 0"), NONE);
            due(faultOf(kind + " 00" + stress + " 0"), kind.length() + 1);
            due(faultOf(kind + " 004" + stress + " 0"), kind.length() + 1);
        }
    }

    private static void stress() {
        sentence("STRESS T (not above S: else a FAULT at T; free: 1)");
        for (String kind : STRESSED) {
            for (int s = 1; s <= 4; s++) {
                for (int t = 0; t <= 12; t++) {
                    String text = kind + " " + s + " " + t + " 0";
                    due(faultOf(text), t >= 1 && t <= s ? NONE : kind.length() + 3);
                    if (t >= 1 && t <= s) due(told(text).word(0, 2), t);
                }
            }
            due(faultOf(kind + " 4  5 9"), kind.length() + 4);
            due(faultOf(kind + " 2 002 0"), kind.length() + 3);
        }
        due(told("plain 4 4 0;plain 1 1 0;plain 3 2 0").word(2, 2), 2);
        for (int s = 1; s <= 4; s++) due(told("free " + s + " 5").word(0, 2), 1);
        due(told("plain 4 4 0;free 4 0").word(1, 2), 1);
        due(faultOf("free 2 1 0"), 9);
    }

    private static void rhymes() {
        sentence("of a RHYME (0 .. 5)");
        for (String clause : RHYMED) {
            for (int r = 0; r <= 99; r++) due(faultOf(clause + r), r <= 5 ? NONE : clause.length());
            due(faultOf(clause + "05"), NONE);
            due(faultOf(clause + "005"), clause.length());
        }
        for (int r = 0; r < 6; r++) {
            VerseCustoms x = told("plain 1 1 " + r + ";elided 1 1 " + r + ";false 1 1 " + r + ";free 1 " + r);
            for (int w = 0; w < 4; w++) due(x.word(w, 3), r);
        }
    }

    private static void ports() {
        sentence("PORTS are 0 .. 3, each with a RHYME (0 at first)");
        for (int p = 0; p <= 99; p++) {
            due(faultOf("port " + p + " 5"), p <= 3 ? NONE : 5);
            due(faultOf("ware 1 " + p), p <= 3 ? NONE : 7);
        }
        VerseCustoms x = new VerseCustoms();
        due(x.rhyme(0, 2), 15);
        for (int r = 1; r < 6; r++) due(x.rhyme(r, 2), 0);
        for (int p = 0; p < 4; p++) {
            due(tell(x, "port " + p + " 5"), 1);
            due(x.rhyme(5, 2), (2 << p) - 1);
            due(x.rhyme(0, 2), 15 - x.rhyme(5, 2));
        }
    }

    private static void weights() {
        sentence("of a WEIGHT (1 .. 12), for a PORT");
        for (int w = 0; w <= 99; w++) {
            due(faultOf("ware " + w + " 3"), w >= 1 && w <= 12 ? NONE : 5);
            if (w >= 1 && w <= 12) due(told("ware " + w + " 3").ware(0, 0), w);
        }
        due(faultOf("ware 012 3"), 5);
        for (int p = 0; p < 4; p++) due(told("ware 1 " + p).ware(0, 1), p);
    }

    private static void metre() {
        sentence("METRE is 0 NONE (as at first), 1 RISING, 2 FALLING");
        due(new VerseCustoms().count(3), 0);
        due(told("deaf").count(3), 0);
        for (int from = 0; from < 3; from++) {
            for (int to = 0; to < 3; to++) {
                VerseCustoms x = told(METRES[from]);
                due(x.count(3), from);
                due(tell(x, METRES[to]), 1);
                due(x.count(3), to);
            }
        }
    }

    private static void usesTold() {
        sentence("Each RHYME can be USED 3 times at first (0 .. 9)");
        VerseCustoms x = new VerseCustoms();
        for (int r = 0; r < 6; r++) due(x.rhyme(r, 1), 3);
        sentence("uses: RHYME R can be USED N times (0 .. 9)");
        for (int n = 0; n <= 99; n++) {
            due(faultOf("uses 5 " + n), n <= 9 ? NONE : 7);
            due(faultOf("uses " + n + " 0"), n <= 5 ? NONE : 5);
        }
        due(faultOf("uses 5 009"), 7);
        due(faultOf("uses 005 9"), 5);
        for (int n = 0; n <= 9; n++) {
            due(tell(x, "uses " + n % 6 + " " + n), 1);
            due(x.rhyme(n % 6, 1), n);
        }
        for (int r = 0; r < 6; r++) due(x.rhyme(r, 1), r < 4 ? r + 6 : r);
    }

    private static void lettersOfTheText() {
        sentence("A letter (its number, 0 .. 255) more of THE TEXT: how many it has.");
        for (int from = 0; from < 256; from += 128) {
            VerseCustoms x = new VerseCustoms();
            for (int i = 0; i < 128; i++) due(x.write(from + i), i + 1);
            due(x.count(10), 128);
        }
        still(x -> x.write(-1), OUTSIDE);
        still(x -> x.write(256), OUTSIDE);
        for (int far : FAR) still(x -> x.write(far), OUTSIDE);
        still(x -> x.write('a' + 256), OUTSIDE);
        still(x -> x.write('a' - 256), OUTSIDE);
    }

    private static void textOf160() {
        sentence("THE TEXT is a row of letters, 160 at most");
        VerseCustoms x = new VerseCustoms();
        for (int i = 1; i <= 160; i++) due(x.write('a'), i);
        due(x.write('a'), FULL);
        due(x.count(10), 160);
        due(x.erase(), 160);
        due(x.write('a'), 1);
        Calls full = y -> write(y, "deaf;strict" + " ".repeat(149));
        due(made(y -> write(y, "deaf;strict" + " ".repeat(148))).write(' '), 160);
        for (int letter : new int[] {0, ' ', ';', 'a', '9', 255}) still(full, y -> y.write(letter), FULL);
        for (int letter : new int[] {-1, 256, LEAST, MOST}) still(full, y -> y.write(letter), OUTSIDE);
        due(made(full).customs(), 2);
        due(faultOf(" ".repeat(156) + "deaf"), NONE);
        due(faultOf(" ".repeat(157) + "dea"), 157);
        due(faultOf(" ".repeat(155) + "deaf;"), 160);
        due(faultOf(" ".repeat(160)), 160);
        due(faultOf(" ".repeat(159) + "!"), 159);
        due(faultOf("a".repeat(160)), 0);
        due(faultOf("ware " + "1".repeat(155)), 5);
        due(faultOf(" ".repeat(152) + "port 3 5"), NONE);
        due(faultOf(" ".repeat(153) + "port 3 "), 160);
        due(told(" ".repeat(152) + "port 3 5").rhyme(5, 2), 8);
    }

    private static void clauses() {
        sentence("CLAUSES with ; between, 1 to 14");
        for (int n = 1; n <= 14; n++) {
            due(faultOf(repeat("none", n)), NONE);
            VerseCustoms x = new VerseCustoms();
            due(tell(x, repeat("none", n)), n);
            due(faultOf(repeat("none", n) + ";"), n == 14 ? 69 : 5 * n);
        }
        sentence("behind the 14th no ; can stand");
        String all = repeat("none", 14);
        due(faultOf(all + "   "), NONE);
        due(faultOf(all + " ; "), 70);
        due(faultOf(all + ";none"), 69);
        due(faultOf(all + " none"), 70);
        due(faultOf(all + ";;"), 69);
        still(x -> write(x, all + ";none"), x -> x.customs(), NOT);
        still(x -> write(x, all + ";"), x -> x.customs(), NOT);
        VerseCustoms x = told(all);
        due(tell(x, all), 14);
        due(tell(x, repeat("none", 13) + ";customs"), 14);
        due(tell(x, repeat("none", 13) + ";rising"), 14);
        due(x.count(3), 1);
    }

    private static void emptyText() {
        sentence("an empty TEXT ends too soon");
        due(new VerseCustoms().fault(), 0);
        still(x -> { }, x -> x.customs(), NOT);
        still(x -> { busy(x); x.erase(); }, x -> x.fault(), 0);
        still(x -> { busy(x); x.erase(); }, x -> x.customs(), NOT);
        for (int n = 1; n <= 5; n++) due(faultOf(" ".repeat(n)), n);
        still(x -> write(x, "   "), x -> x.customs(), NOT);
        due(faultOf(";"), 0);
        due(faultOf(" ;deaf"), 1);
        due(faultOf("deaf;"), 5);
        due(faultOf("deaf; ;deaf"), 6);
        due(faultOf("deaf;;deaf"), 5);
    }

    private static void customsClause() {
        sentence("customs: all as at first");
        VerseCustoms x = made(Bench::busy);
        x.erase();
        tell(x, "falling;port 3 4;uses 4 9");
        due(tell(x, "free 3 3;port 2 5;customs"), 3);
        for (int what = 0; what <= 10; what++) due(x.count(what), 0);
        due(x.word(0, 0), UNKNOWN);
        due(x.ware(0, 0), UNKNOWN);
        due(x.clerk(0), UNKNOWN);
        for (int r = 0; r < 6; r++) {
            due(x.rhyme(r, 0), 0);
            due(x.rhyme(r, 1), 3);
            due(x.rhyme(r, 2), r == 0 ? 15 : 0);
        }
        due(tell(x, "deaf;rising;uses 2 7;port 1 3;ware 2 1;customs;slurring;ware 9 2;port 2 4;falling;elided 2 2 2"), 11);
        due(x.count(0), 1);
        due(x.word(0, 0), 1);
        due(x.count(1), 1);
        due(x.ware(0, 0), 9);
        due(x.count(2), 1);
        due(x.clerk(0), 1);
        due(x.count(3), 2);
        due(x.rhyme(0, 2), 11);
        due(x.rhyme(4, 2), 4);
        due(x.rhyme(2, 1), 3);
        due(tell(x, "customs;customs"), 2);
        due(x.count(0), 0);
        due(faultOf("customs 1"), 8);
        due(faultOf("custom"), 0);
    }

    private static void customsLeavesNothing() {
        sentence("customs: all as at first; plain ..: a WORD more");
        Calls most = y -> {
            tell(y, "falling;" + repeat("false 1 1 5", 9));
            tell(y, repeat("ware 1 1", 6) + ";slurring;slurring;slurring;port 1 5;port 3 4;uses 5 0;uses 0 0;uses 4 9");
            y.secret(1);
            due(y.canBe(1), 63);
            due(y.laden(12, 0), 6);
            due(y.year(), 6);
            lay(y, 0);
            due(y.altered(0, 0, 0), 0);
            due(y.shortest(0, 0, 1), 9);
            due(y.declare(0, 0), 1);
            y.keep(1);
            days(y, 3);
        };
        for (String text : new String[] {"none", "ware 5 0;strict", "plain 1 1 0;ware 1 0;strict", "free 2 0;ware 2 0;deaf"}) {
            Calls laid = y -> { tell(y, text); y.put(0); y.put(0); y.secret(1); };
            alike(y -> { most.on(y); write(y, "customs;"); laid.on(y); }, laid);
            alike(y -> { most.on(y); tell(y, "customs"); laid.on(y); }, laid);
        }
    }

    private static void smallLetters() {
        sentence("small letters a .. z");
        due(faultOf("deaf`"), 4);
        due(faultOf("deaf{"), 4);
        due(faultOf("deafa"), 0);
        due(faultOf("deafz"), 0);
        due(faultOf("adeaf"), 0);
        due(faultOf("zdeaf"), 0);
        due(faultOf("`deaf"), 0);
        due(faultOf("Deaf"), 0);
        due(faultOf("deaF"), 0);
        due(faultOf("deafA"), 4);
        due(faultOf("deafZ"), 4);
        for (String clause : new String[] {"strict", "slurring", "deaf", "none", "rising", "falling", "customs"}) {
            due(faultOf(clause), NONE);
            due(faultOf(clause.substring(0, clause.length() - 1)), 0);
            due(faultOf(clause + "s"), 0);
            due(faultOf(" " + clause.toUpperCase()), 1);
            due(faultOf(clause + " 1"), clause.length() + 1);
            due(faultOf(clause + "1"), clause.length());
            due(faultOf(clause + " " + clause), clause.length() + 1);
        }
    }

    private static void digits() {
        sentence("numbers of 1 or 2 digits");
        due(faultOf("uses 05 09"), NONE);
        due(faultOf("uses 00 00"), NONE);
        due(faultOf("uses 000 0"), 5);
        due(faultOf("uses 0 000"), 7);
        due(faultOf("ware 12 03"), NONE);
        due(faultOf("ware 120 3"), 5);
        due(faultOf("uses 0 " + "0".repeat(100)), 7);
        due(faultOf("uses 0 4294967296"), 7);
        due(faultOf("uses 0 4294967297"), 7);
        due(faultOf("uses 0 18446744073709551617"), 7);
        due(faultOf("uses 0 /"), 7);
        due(faultOf("uses 0 :"), 7);
        due(faultOf("uses 0 9/"), 8);
        due(faultOf("uses 0 9:"), 8);
        due(faultOf("uses 0 -1"), 7);
        due(faultOf("uses 0 +1"), 7);
        due(faultOf("uses 0 x"), 7);
        due(faultOf("uses 0 1x"), 8);
        due(told("uses 1 09").rhyme(1, 1), 9);
        due(told("ware 09 00").ware(0, 0), 9);
        due(told("ware 10 0").ware(0, 0), 10);
    }

    private static void blanks() {
        sentence("blanks (32) may stand ahead of, between and behind TOKENS");
        due(faultOf("   plain   2   1   0   ;   ware   4   3   ;   deaf   "), NONE);
        due(told("   plain   2   1   0   ;   ware   4   3   ;   deaf   ").ware(0, 1), 3);
        for (int letter = 0; letter < 256; letter++) {
            int due = letter == ' ' ? NONE : 4;
            boolean small = letter >= 'a' && letter <= 'z';
            due(faultOf("deaf" + (char) letter), letter == ';' ? 5 : small ? 0 : due);
            due(faultOf((char) letter + "deaf"), letter == ' ' ? NONE : 0);
            boolean digit = letter >= '0' && letter <= '9';
            if (!digit) due(faultOf("port 1" + (char) letter + "2"), letter == ' ' ? NONE : 6);
        }
        due(faultOf("de af"), 0);
        due(faultOf("uses 0 1 0"), 9);
    }

    private static void noBlanks() {
        sentence("none is needed but between two words, two numbers");
        due(faultOf("plain2 2 1;free1 0;ware4 0;uses1 1;port3 5;strict;none"), NONE);
        due(faultOf("deafstrict"), 0);
        due(faultOf("deaf strict"), 5);
        due(faultOf("port 12"), 5);
        due(faultOf("port12"), 4);
        due(faultOf("port1 2"), NONE);
        due(faultOf("ware12"), 6);
        due(faultOf("plain211"), 5);
        due(faultOf("plain2 11"), 7);
        due(faultOf("port1 2deaf"), 7);
        due(faultOf("port1 2;deaf"), NONE);
        due(told("ware12 3").ware(0, 0), 12);
    }

    private static void earlierTexts() {
        sentence("what earlier texts told stays");
        VerseCustoms x = told("plain 4 3 2;port 1 2;ware 7 1;slurring;rising;uses 2 0");
        due(tell(x, "elided 1 1 1;port 2 3;ware 8 2;deaf;uses 3 1"), 5);
        due(x.count(0), 2);
        due(x.word(0, 2), 3);
        due(x.word(1, 0), 1);
        due(x.ware(0, 0), 7);
        due(x.ware(1, 0), 8);
        due(x.clerk(0), 1);
        due(x.clerk(1), 2);
        due(x.count(3), 1);
        due(x.rhyme(2, 1), 0);
        due(x.rhyme(3, 1), 1);
        due(x.rhyme(2, 2), 2);
        due(x.rhyme(3, 2), 4);
    }

    private static void firstFault() {
        sentence("A FAULT is at the first TOKEN");
        due(faultOf("plain 9 9 9"), 6);
        due(faultOf("plain 1 9 9"), 8);
        due(faultOf("plain 1 1 9"), 10);
        due(faultOf("deaf;plain 1 1 9;sonnet"), 15);
        due(faultOf("deaf;sonnet;plain 9"), 5);
        due(faultOf("deaf,;"), 4);
        due(faultOf("plain ; 1"), 6);
        due(faultOf("plain 1 ;"), 8);
        due(faultOf("plain 1 1 ;"), 10);
        due(faultOf("port ;"), 5);
        due(faultOf("port 1 deaf"), 7);
        due(faultOf("plain plain"), 6);
        due(faultOf("1 deaf"), 0);
        due(faultOf("  42"), 2);
        due(faultOf("deaf  AB"), 6);
        due(faultOf("plain 1 1 0 0"), 12);
        due(faultOf("ware 1 0 0"), 9);
        sentence("a number out of its bounds, of more digits, also");
        due(faultOf("ware 99 0"), 5);
        due(faultOf("ware 001 0"), 5);
        due(faultOf("ware 1 99"), 7);
        due(faultOf("ware 1 000"), 7);
    }

    private static void endTooSoon() {
        sentence("or at the end, if it comes too soon");
        String[] clauses = {"plain 1 1 0", "elided 1 1 0", "false 1 1 0", "free 1 0", "port 0 0", "ware 1 0", "uses 0 0"};
        for (String clause : clauses) {
            due(faultOf(clause), NONE);
            for (int end = clause.indexOf(' '); end < clause.length(); end++) {
                String text = clause.substring(0, end);
                due(faultOf(text), end);
                due(faultOf(text + "  "), end + 2);
                due(faultOf("deaf;" + text), 5 + end);
                still(x -> write(x, "deaf;" + text), x -> x.customs(), NOT);
            }
        }
    }

    private static void inTheirOrder() {
        sentence("CLAUSES are done in their order.");
        VerseCustoms x = told("port 1 4;port 1 2;rising;falling;uses 1 1;uses 1 5;slurring;deaf;ware 3 0;ware 2 0;free 2 0;free 1 0");
        due(x.rhyme(2, 2), 2);
        due(x.rhyme(4, 2), 0);
        due(x.count(3), 2);
        due(x.rhyme(1, 1), 5);
        due(x.clerk(0), 1);
        due(x.clerk(1), 2);
        due(x.ware(0, 0), 3);
        due(x.ware(1, 0), 2);
        due(x.word(0, 1), 2);
        due(x.word(1, 1), 1);
        due(told("uses 1 1;customs").rhyme(1, 1), 3);
        due(told("customs;uses 1 1").rhyme(1, 1), 1);
    }

    private static void behindThem() {
        sentence("Behind them it is DAY 0, nothing was declared, paid, USED, THE LINE is empty, nothing is COUNTED,"
            + " nothing is kept or can be undone.");
        VerseCustoms x = made(Bench::busy);
        x.keep(1);
        x.erase();
        due(tell(x, "none"), 1);
        due(x.count(0), 4);
        due(x.count(4), 0);
        due(x.count(5), 0);
        due(x.count(6), 15);
        for (int w = 0; w < 4; w++) due(x.ware(w, 2), 0);
        for (int r = 0; r < 6; r++) due(x.rhyme(r, 0), 0);
        due(x.count(7), 0);
        due(x.line(0), OUTSIDE);
        due(x.count(8), 0);
        due(x.canBe(0), NOT);
        due(x.canBeWord(0, 0), NOT);
        due(x.counted(0, 0), NOT);
        due(x.back(0), NOT);
        due(x.back(1), NOT);
        due(x.count(9), 0);
        due(x.undo(), NOT);
        due(x.day(), 1);
        due(x.undo(), 0);
        due(x.undo(), NOT);
    }

    private static void erased() {
        sentence("THE TEXT is empty: how many letters it had.");
        VerseCustoms x = made(Bench::busy);
        due(x.erase(), 10);
        due(x.erase(), 0);
        due(x.count(10), 0);
        due(x.fault(), 0);
        due(x.count(4), 4);
        due(x.count(8), 2);
        still(y -> { }, y -> y.erase(), 0);
        still(y -> { busy(y); y.erase(); }, y -> y.erase(), 0);
        write(x, "d");
        x.erase();
        due(tell(x, "deafer"), NOT);
        x.erase();
        due(tell(x, "none"), 1);
    }

    private static void faultTold() {
        sentence("The place of the FAULT (the letter with which the TOKEN begins, or the length); NONE.");
        still(x -> x.fault(), 9);
        still(x -> write(x, "deaf;customs;strict"), x -> x.fault(), NONE);
        due(faultOf("sonnet"), 0);
        due(faultOf("   sonnet   "), 3);
        due(faultOf("plain   99   "), 8);
        due(faultOf("plain   1   "), 12);
        VerseCustoms x = new VerseCustoms();
        int[] places = {0, 0, 0, NONE, 5, 5, 5, 5, 5, NONE};
        String text = "deaf;false 1 1 0";
        for (int i = 0; i < 9; i++) {
            x.write(text.charAt(i));
            due(x.fault(), places[i]);
        }
        write(x, text.substring(9));
        due(x.fault(), NONE);
    }

    private static void notDone() {
        sentence("THE TEXT's CLAUSES are done, and it is empty then: how many there were. NOT: it has a FAULT.");
        still(x -> x.customs(), NOT);
        still(x -> { busy(x); x.erase(); write(x, "customs;deaf;rising;port 0 5;uses 0 0;none none"); }, x -> x.customs(), NOT);
        still(x -> { busy(x); x.erase(); write(x, "ware 1 1;free 1 6"); }, x -> x.customs(), NOT);
        still(x -> { busy(x); x.erase(); write(x, "falling;deaf"); }, x -> x.customs(), NOT);
        VerseCustoms x = made(Bench::busy);
        due(x.customs(), NOT);
        due(x.count(10), 10);
        x.erase();
        due(tell(x, "falling;port 0 5"), 2);
        due(x.count(10), 0);
        due(x.fault(), 0);
        due(x.customs(), NOT);
        due(x.count(3), 2);
    }

    private static void wordRefused() {
        sentence("Of a WORD: KIND (what 0), SYLLABLES (1), STRESS (2), RHYME (3). UNKNOWN; OUTSIDE.");
        int[][] words = {{0, 2, 2, 1}, {1, 3, 1, 0}, {2, 1, 1, 5}, {3, 2, 1, 1}};
        for (int w = 0; w < 4; w++) {
            int word = w;
            for (int what = 0; what < 4; what++) {
                int asked = what;
                still(x -> x.word(word, asked), words[w][what]);
            }
            for (int what : new int[] {-1, 4, 5, LEAST, MOST}) still(x -> x.word(word, what), OUTSIDE);
        }
        for (int what : new int[] {0, 3, -1, 4, LEAST, MOST}) {
            still(x -> x.word(4, what), UNKNOWN);
            still(x -> x.word(-1, what), UNKNOWN);
            still(x -> { }, x -> x.word(0, what), UNKNOWN);
            for (int far : FAR) due(made(Bench::busy).word(far, what), UNKNOWN);
        }
    }

    private static void wareRefused() {
        sentence("Of a WARE: WEIGHT (what 0), PORT (1), 0 not declared yet, 1 passed, 2 SEIZED, 3 in PROSE (2). UNKNOWN; OUTSIDE.");
        int[][] wares = {{5, 0, 2}, {3, 1, 3}, {4, 1, 1}, {2, 1, 0}};
        for (int w = 0; w < 4; w++) {
            int ware = w;
            for (int what = 0; what < 3; what++) {
                int asked = what;
                still(x -> x.ware(ware, asked), wares[w][what]);
            }
            for (int what : new int[] {-1, 3, 4, LEAST, MOST}) still(x -> x.ware(ware, what), OUTSIDE);
        }
        for (int what : new int[] {0, 2, -1, 3, LEAST, MOST}) {
            still(x -> x.ware(4, what), UNKNOWN);
            still(x -> x.ware(-1, what), UNKNOWN);
            still(x -> { }, x -> x.ware(0, what), UNKNOWN);
            for (int far : FAR) due(made(Bench::busy).ware(far, what), UNKNOWN);
        }
    }

    private static void clerkRefused() {
        sentence("The KIND of a CLERK. UNKNOWN.");
        for (int c = 0; c < 3; c++) {
            int clerk = c;
            still(x -> x.clerk(clerk), c);
        }
        still(x -> x.clerk(3), UNKNOWN);
        still(x -> x.clerk(-1), UNKNOWN);
        still(x -> { }, x -> x.clerk(0), UNKNOWN);
        for (int far : FAR) still(x -> x.clerk(far), UNKNOWN);
    }

    private static void rhymeRefused() {
        sentence("Of a RHYME: how often it was USED (what 0), can be (1), PORTS that have it, by bits (2). UNKNOWN; OUTSIDE.");
        int[][] rhymes = {{0, 3, 13}, {1, 2, 2}, {0, 3, 0}, {0, 3, 0}, {0, 3, 0}, {0, 3, 0}};
        for (int r = 0; r < 6; r++) {
            int rhyme = r;
            for (int what = 0; what < 3; what++) {
                int asked = what;
                still(x -> x.rhyme(rhyme, asked), rhymes[r][what]);
            }
            for (int what : new int[] {-1, 3, 4, LEAST, MOST}) still(x -> x.rhyme(rhyme, what), OUTSIDE);
        }
        for (int what : new int[] {0, 2, -1, 3, LEAST, MOST}) {
            still(x -> x.rhyme(6, what), UNKNOWN);
            still(x -> x.rhyme(-1, what), UNKNOWN);
            still(x -> { }, x -> x.rhyme(6, what), UNKNOWN);
            for (int far : FAR) due(made(Bench::busy).rhyme(far, what), UNKNOWN);
        }
    }

    private static void takenAs() {
        sentence("WORD (0); PLAIN (1) under it; ELIDED (2) is PLAIN; FALSE (3) is a WORD; FREE (4) is FALSE");
        String[] is = {"11000", "11100", "10010", "10011"};
        int[] ports = {2, 13, 15, 2};
        for (int w = 0; w < 4; w++) {
            int word = w;
            for (int k = 0; k < 5; k++) {
                int kind = k;
                still(x -> x.as(word, kind), is[w].charAt(k) == '1' ? ports[w] : NOT);
            }
        }
        sentence("it answers as what it is, whatever it is taken as");
        VerseCustoms x = told("false 1 1 2;free 1 2;free 1 3;plain 1 1 4;port 0 2;port 1 3;port 2 2;port 3 3");
        for (int kind : new int[] {0, 3}) due(x.as(0, kind), 15);
        for (int kind : new int[] {0, 3, 4}) due(x.as(1, kind), 5);
        for (int kind : new int[] {0, 3, 4}) due(x.as(2, kind), 10);
        for (int kind : new int[] {0, 1}) due(x.as(3, kind), 0);
    }

    private static void asRefused() {
        sentence("PORTS with which it RHYMES, by bits. UNKNOWN; OUTSIDE; NOT: it is none such.");
        for (int w = 0; w < 4; w++) {
            int word = w;
            for (int kind : new int[] {-1, 5, 6, LEAST, MOST, 32, 33}) still(x -> x.as(word, kind), OUTSIDE);
        }
        for (int kind : new int[] {0, 1, 2, 3, 4, -1, 5, LEAST, MOST}) {
            still(x -> x.as(4, kind), UNKNOWN);
            still(x -> x.as(-1, kind), UNKNOWN);
            still(x -> { }, x -> x.as(0, kind), UNKNOWN);
            for (int far : FAR) due(made(Bench::busy).as(far, kind), UNKNOWN);
        }
    }

    private static void clerkTakenAs() {
        sentence("CLERK (0); STRICT (1) under it; SLURRING (2) is a CLERK; DEAF (3) is STRICT.");
        String[] is = {"1100", "1010", "1101"};
        int[] counts = {8, 7, 8};
        Calls elided = x -> { busy(x); lay(x, 1, 0, 1); };
        for (int c = 0; c < 3; c++) {
            int clerk = c;
            for (int k = 0; k < 4; k++) {
                int kind = k;
                still(elided, x -> x.clerkAs(clerk, kind), is[c].charAt(k) == '1' ? counts[c] : NOT);
            }
        }
        for (int kind : new int[] {0, 2}) due(made(x -> { busy(x); x.wipe(); }).clerkAs(1, kind), 0);
    }

    private static void clerkAsRefused() {
        sentence("what he COUNTS of THE LINE. UNKNOWN; OUTSIDE; NOT: he is none such.");
        for (int c = 0; c < 3; c++) {
            int clerk = c;
            for (int kind : new int[] {-1, 4, 5, LEAST, MOST, 32, 33}) still(x -> x.clerkAs(clerk, kind), OUTSIDE);
        }
        for (int kind : new int[] {0, 1, 2, 3, -1, 4, LEAST, MOST}) {
            still(x -> x.clerkAs(3, kind), UNKNOWN);
            still(x -> x.clerkAs(-1, kind), UNKNOWN);
            still(x -> { }, x -> x.clerkAs(0, kind), UNKNOWN);
            for (int far : FAR) due(made(Bench::busy).clerkAs(far, kind), UNKNOWN);
        }
    }
}
