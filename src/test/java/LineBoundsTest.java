/** Promises 12 to 23, sentence by sentence: where the document names a boundary of the line and of days. */
public final class LineBoundsTest extends Bench {
    public static void main(String[] args) {
        sixWords();
        putRefused();
        wiped();
        placeOfTheLine();
        slurred();
        countsRefused();
        scansInMetre();
        scansEmpty();
        metreAsTold();
        rhymesWithPort();
        passesJust();
        deafClerk();
        emptyLine();
        passesRefused();
        oneWareADay();
        wornOut();
        wornByFalse();
        seized();
        prosePays();
        declaredOnce();
        declareRefused();
        proseRefused();
        lastDay();
        undone();
        eightUndone();
        undoGoesRound();
        undoWhat();
        undoRefused();
        kept();
        keepRefused();
        broughtBack();
        keptTwice();
        backRefused();
        keptSinceTheText();
        end();
    }

    private static void sixWords() {
        sentence("THE LINE is a row of WORDS, 6 at most.");
        VerseCustoms x = made(Bench::busy);
        x.wipe();
        for (int i = 0; i < 6; i++) {
            due(x.line(i), OUTSIDE);
            due(x.put(3 - i % 4), i + 1);
            due(x.count(7), i + 1);
        }
        for (int i = 0; i < 6; i++) due(x.line(i), 3 - i % 4);
        due(x.put(0), FULL);
        due(x.line(5), 2);
        due(x.line(6), OUTSIDE);
        due(x.wipe(), 6);
        for (int i = 0; i < 6; i++) due(x.put(0), i + 1);
        due(x.put(0), FULL);
    }

    private static void putRefused() {
        sentence("A WORD behind THE LINE: how many it has. UNKNOWN; FULL.");
        Calls full = x -> { busy(x); lay(x, 0, 1, 2, 3, 0, 1); };
        for (int word : new int[] {4, 9, -1}) {
            still(x -> x.put(word), UNKNOWN);
            still(full, x -> x.put(word), UNKNOWN);
        }
        for (int far : FAR) {
            still(x -> x.put(far), UNKNOWN);
            still(full, x -> x.put(far), UNKNOWN);
        }
        for (int word = 0; word < 4; word++) {
            int put = word;
            still(full, x -> x.put(put), FULL);
        }
        still(x -> { }, x -> x.put(0), UNKNOWN);
        due(made(x -> { busy(x); lay(x, 0, 1, 2, 3, 0); }).put(3), 6);
    }

    private static void wiped() {
        sentence("THE LINE is empty: how many it had.");
        for (int n = 0; n <= 6; n++) {
            VerseCustoms x = made(Bench::busy);
            x.wipe();
            for (int i = 0; i < n; i++) x.put(0);
            due(x.wipe(), n);
            due(x.count(7), 0);
            due(x.line(0), OUTSIDE);
            due(x.wipe(), 0);
            due(x.count(9), 4);
        }
        still(x -> { busy(x); x.wipe(); }, x -> x.wipe(), 0);
        still(x -> { }, x -> x.wipe(), 0);
    }

    private static void placeOfTheLine() {
        sentence("Place i of THE LINE. OUTSIDE: not so many.");
        Calls three = x -> { busy(x); lay(x, 3, 0, 2); };
        still(three, x -> x.line(0), 3);
        still(three, x -> x.line(1), 0);
        still(three, x -> x.line(2), 2);
        for (int i : new int[] {3, 5, 6, -1}) still(three, x -> x.line(i), OUTSIDE);
        for (int far : FAR) still(three, x -> x.line(far), OUTSIDE);
        still(x -> { }, x -> x.line(0), OUTSIDE);
        Calls longer = x -> { busy(x); lay(x, 3, 0, 2, 1, 1, 1); lay(x, 0); };
        still(longer, x -> x.line(0), 0);
        still(longer, x -> x.line(1), OUTSIDE);
    }

    private static void slurred() {
        sentence("a SLURRING one counts one fewer for each ELIDED WORD behind which another WORD stands"
            + " (one of one SYLLABLE counts none then)");
        VerseCustoms x = told("elided 1 1 0;elided 4 1 0;plain 2 1 0;false 1 1 0;free 3 0;strict;slurring;deaf");
        int[][] lines = {{0}, {1}, {0, 0}, {1, 1}, {2, 0}, {0, 2}, {0, 3}, {0, 4}, {2, 3, 4}, {0, 0, 0, 0, 0, 0},
            {1, 1, 1, 1, 1, 1}, {0, 2, 1, 3, 0, 4}, {2, 2, 2, 2, 2, 2}};
        int[] all = {1, 4, 2, 8, 3, 3, 2, 4, 6, 6, 24, 12, 12};
        int[] slurred = {1, 4, 1, 7, 3, 2, 1, 3, 6, 1, 19, 9, 12};
        for (int i = 0; i < lines.length; i++) {
            lay(x, lines[i]);
            due(x.counts(0), all[i]);
            due(x.counts(1), slurred[i]);
            due(x.counts(2), all[i]);
        }
        x.wipe();
        for (int c = 0; c < 3; c++) due(x.counts(c), 0);
    }

    private static void countsRefused() {
        sentence("What a CLERK COUNTS of THE LINE. UNKNOWN.");
        for (int c = 0; c < 3; c++) {
            int clerk = c;
            still(x -> x.counts(clerk), 4);
        }
        still(x -> x.counts(3), UNKNOWN);
        still(x -> x.counts(-1), UNKNOWN);
        still(x -> { }, x -> x.counts(0), UNKNOWN);
        for (int far : FAR) still(x -> x.counts(far), UNKNOWN);
    }

    private static void scansInMetre() {
        sentence("by RISING if each WORD (but FREE ones) has its STRESS on an even one of its SYLLABLES"
            + " (all those told, the first of THE LINE is 1), by FALLING on an odd one; by NONE always.");
        String[] kinds = {"plain", "elided", "false", "free"};
        for (String kind : kinds) {
            boolean free = kind.equals("free");
            for (int ahead = 0; ahead <= 4; ahead++) {
                for (int t = 1; t <= 4; t++) {
                    VerseCustoms x = told("free " + Math.max(ahead, 1) + " 0;" + kind + " 4 " + (free ? "" : t + " ") + "0");
                    if (ahead == 0) lay(x, 1);
                    else lay(x, 0, 1);
                    boolean even = (ahead + t) % 2 == 0;
                    due(x.scans(), 1);
                    tell(x, "rising");
                    if (ahead == 0) lay(x, 1);
                    else lay(x, 0, 1);
                    due(x.scans(), free || even ? 1 : 0);
                    tell(x, "falling");
                    if (ahead == 0) lay(x, 1);
                    else lay(x, 0, 1);
                    due(x.scans(), free || !even ? 1 : 0);
                }
            }
        }
        VerseCustoms x = told("plain 4 4 0;plain 4 3 0;rising");
        lay(x, 0, 0, 0, 0, 0, 0);
        due(x.scans(), 1);
        lay(x, 0, 0, 0, 0, 0, 1);
        due(x.scans(), 0);
        lay(x, 1, 0, 0, 0, 0, 0);
        due(x.scans(), 0);
    }

    private static void scansEmpty() {
        sentence("1 THE LINE SCANS, 0.");
        for (String metre : new String[] {"none", "rising", "falling"}) {
            still(x -> tell(x, metre), x -> x.scans(), 1);
            still(x -> { tell(x, metre + ";free 1 0"); lay(x, 0, 0, 0, 0, 0, 0); }, x -> x.scans(), 1);
        }
        still(x -> { }, x -> x.scans(), 1);
        still(x -> { tell(x, "rising;plain 1 1 0"); lay(x, 0); }, x -> x.scans(), 0);
        still(x -> { tell(x, "falling;plain 1 1 0"); lay(x, 0); }, x -> x.scans(), 1);
        still(x -> { tell(x, "falling;plain 1 1 0"); lay(x, 0, 0); }, x -> x.scans(), 0);
    }

    private static void metreAsTold() {
        sentence("all those told");
        VerseCustoms x = told("elided 1 1 0;plain 1 1 0;ware 1 0;ware 2 0;slurring;strict;rising");
        lay(x, 0, 1);
        due(x.counts(0), 1);
        due(x.scans(), 0);
        due(x.passes(0, 0), 0);
        tell(x, "elided 2 2 0;plain 2 2 0;ware 3 0");
        lay(x, 2, 3);
        due(x.counts(0), 3);
        due(x.scans(), 1);
        due(x.passes(2, 0), 1);
        due(x.passes(2, 1), 0);
    }

    private static void rhymesWithPort() {
        sentence("It RHYMES with a PORT, if its last WORD has that PORT's RHYME, or is FALSE.");
        VerseCustoms x = told("plain 1 1 2;elided 1 1 2;false 1 1 0;free 1 2;port 1 2;port 2 3;ware 1 0;ware 1 1;ware 1 2;strict");
        int[][] passes = {{0, 1, 0}, {0, 1, 0}, {1, 1, 1}, {0, 1, 0}};
        for (int w = 0; w < 4; w++) {
            lay(x, w);
            for (int ware = 0; ware < 3; ware++) due(x.passes(ware, 0), passes[w][ware]);
        }
        x = told("plain 1 1 2;false 1 1 0;plain 1 1 1;port 0 2;ware 2 0;ware 6 0;strict");
        lay(x, 2, 0);
        due(x.passes(0, 0), 1);
        lay(x, 0, 2);
        due(x.passes(0, 0), 0);
        lay(x, 1, 2);
        due(x.passes(0, 0), 0);
        lay(x, 2, 2, 2, 2, 2, 0);
        due(x.passes(1, 0), 1);
        lay(x, 0, 0, 0, 0, 1, 2);
        due(x.passes(1, 0), 0);
    }

    private static void passesJust() {
        sentence("if he COUNTS just its WEIGHT, it SCANS and RHYMES with its PORT");
        for (int weight = 1; weight <= 12; weight++) {
            VerseCustoms x = told("plain 2 1 0;plain 1 1 0;ware " + weight + " 0;strict");
            for (int n = 1; n <= 12; n++) {
                x.wipe();
                for (int i = 0; i < n / 2; i++) x.put(0);
                if (n % 2 == 1 && n < 12) x.put(1);
                due(x.passes(0, 0), n == weight ? 1 : 0);
            }
        }
        VerseCustoms x = told("plain 4 1 0;ware 12 0;strict");
        lay(x, 0, 0, 0);
        due(x.passes(0, 0), 1);
        lay(x, 0, 0, 0, 0);
        due(x.passes(0, 0), 0);
        lay(x, 0, 0, 0, 0, 0, 0);
        due(x.passes(0, 0), 0);
        x = told("elided 3 1 0;plain 4 1 1;ware 11 0;ware 12 0;slurring;strict");
        lay(x, 1, 0, 0, 0);
        due(x.counts(0), 11);
        due(x.passes(0, 0), 1);
        due(x.passes(0, 1), 0);
    }

    private static void deafClerk() {
        sentence("a DEAF one does not ask whether it RHYMES");
        VerseCustoms x = told("plain 2 2 4;elided 2 2 4;ware 4 0;ware 3 0;strict;slurring;deaf;rising");
        lay(x, 1, 0);
        due(x.passes(0, 0), 0);
        due(x.passes(1, 1), 0);
        due(x.passes(0, 2), 1);
        due(x.passes(1, 2), 0);
        tell(x, "falling");
        lay(x, 1, 0);
        due(x.passes(0, 2), 0);
    }

    private static void emptyLine() {
        sentence("empty it does not PASS");
        VerseCustoms x = told("elided 1 1 0;ware 1 0;ware 12 0;strict;slurring;deaf");
        for (int w = 0; w < 2; w++) for (int c = 0; c < 3; c++) due(x.passes(w, c), 0);
        due(x.declare(0, 2), 0);
        due(x.ware(0, 2), 2);
        due(x.count(5), 0);
        due(x.count(4), 1);
        for (int r = 0; r < 6; r++) due(x.rhyme(r, 0), 0);
        lay(x, 0);
        x.wipe();
        due(x.declare(1, 1), 0);
        due(x.ware(1, 2), 2);
    }

    private static void passesRefused() {
        sentence("1 THE LINE PASSES, 0. UNKNOWN.");
        still(x -> x.passes(0, 0), 0);
        still(x -> x.passes(2, 0), 1);
        still(x -> x.passes(2, 1), 1);
        still(x -> x.passes(4, 0), UNKNOWN);
        still(x -> x.passes(-1, 0), UNKNOWN);
        still(x -> x.passes(0, 3), UNKNOWN);
        still(x -> x.passes(0, -1), UNKNOWN);
        still(x -> tell(x, "ware 1 0"), x -> x.passes(0, 0), UNKNOWN);
        still(x -> tell(x, "strict"), x -> x.passes(0, 0), UNKNOWN);
        for (int far : FAR) {
            still(x -> x.passes(far, 0), UNKNOWN);
            still(x -> x.passes(0, far), UNKNOWN);
            due(made(Bench::busy).passes(far, far), UNKNOWN);
        }
    }

    private static void oneWareADay() {
        sentence("THE LINE is DECLARED for a WARE to a CLERK: each DAY one WARE.");
        VerseCustoms x = told("plain 1 1 0;ware 1 0;ware 2 0;ware 1 0;ware 3 0;uses 0 9;strict");
        lay(x, 0);
        due(x.declare(2, 0), 1);
        due(x.count(4), 1);
        due(x.declare(1, 0), 0);
        due(x.count(4), 2);
        due(x.prose(3), 9);
        sentence("Then the next DAY comes.");
        due(x.count(4), 3);
        due(x.declare(0, 0), 1);
        due(x.count(4), 4);
        due(x.count(5), 11);
        due(x.count(6), 0);
        due(x.count(7), 1);
        due(x.rhyme(0, 0), 2);
    }

    private static void wornOut() {
        sentence("the RHYME of its last WORD is not worn out (it was USED as often as it can be)");
        String wares = repeat("ware 1 0", 6);
        for (int n = 0; n <= 9; n++) {
            VerseCustoms x = told("plain 1 1 4;port 0 4;uses 4 " + n + ";" + wares + ";strict;deaf");
            lay(x, 0);
            for (int w = 0; w < 6; w++) {
                due(x.passes(w, 0), 1);
                due(x.declare(w, w % 2), w < n ? 1 : 0);
                due(x.ware(w, 2), w < n ? 1 : 2);
                due(x.rhyme(4, 0), Math.min(w + 1, n));
                due(x.count(5), Math.min(w + 1, n));
            }
            for (int r = 0; r < 6; r++) if (r != 4) due(x.rhyme(r, 0), 0);
        }
        VerseCustoms x = told("plain 1 1 4;port 0 4;" + wares + ";strict");
        lay(x, 0);
        for (int w = 0; w < 6; w++) due(x.declare(w, 0), w < 3 ? 1 : 0);
        x = told("plain 1 1 4;plain 1 1 3;uses 4 0;ware 2 0;ware 2 0;deaf");
        lay(x, 0, 1);
        due(x.declare(0, 0), 2);
        due(x.rhyme(3, 0), 1);
        due(x.rhyme(4, 0), 0);
        lay(x, 1, 0);
        due(x.declare(1, 0), 0);
    }

    private static void wornByFalse() {
        sentence("not of a FALSE WORD, which is never worn out");
        VerseCustoms x = told("false 1 1 4;free 1 4;port 0 4;uses 4 0;" + repeat("ware 1 0", 6) + ";strict;deaf");
        for (int w = 0; w < 4; w++) {
            lay(x, 0);
            due(x.declare(w, w % 2), 1);
            due(x.rhyme(4, 0), 0);
        }
        lay(x, 1);
        due(x.declare(4, 0), 0);
        due(x.declare(5, 1), 0);
        sentence("it RHYMES, and wears out, as told, though");
        x = told("free 1 4;port 1 4;uses 4 1;ware 1 0;ware 1 1;ware 1 1;strict");
        lay(x, 0);
        due(x.passes(0, 0), 0);
        due(x.passes(1, 0), 1);
        due(x.as(0, 4), 2);
        due(x.declare(1, 0), 1);
        due(x.rhyme(4, 0), 1);
        due(x.declare(2, 0), 0);
        due(x.rhyme(4, 0), 1);
    }

    private static void seized() {
        sentence("if it does not, the WARE is SEIZED.");
        String told = "plain 1 1 0;plain 1 1 1;ware 1 0;ware 12 0;strict;rising";
        VerseCustoms x = told(told);
        lay(x, 0);
        due(x.declare(0, 0), 0);
        x = told(told + ";none");
        lay(x, 1);
        due(x.declare(0, 0), 0);
        due(x.ware(0, 2), 2);
        lay(x, 0);
        due(x.declare(1, 0), 0);
        due(x.ware(1, 2), 2);
        due(x.count(5), 0);
        due(x.rhyme(0, 0), 0);
        due(x.rhyme(1, 0), 0);
        due(x.count(6), 0);
        due(x.count(9), 2);
        sentence("It is DECLARED: what is paid; 0: SEIZED.");
        x = told("plain 4 1 0;ware 12 0;strict");
        lay(x, 0, 0, 0);
        due(x.declare(0, 0), 12);
        due(x.count(5), 12);
    }

    private static void prosePays() {
        sentence("In PROSE it pays 3 times its WEIGHT.");
        for (int weight = 1; weight <= 12; weight++) {
            VerseCustoms x = told("ware " + weight + " 0;uses 0 0");
            due(x.prose(0), 3 * weight);
            due(x.count(5), 3 * weight);
            due(x.ware(0, 2), 3);
            due(x.rhyme(0, 0), 0);
            due(x.count(4), 1);
        }
        VerseCustoms x = told(repeat("ware 12 0", 6));
        for (int w = 5; w >= 0; w--) due(x.prose(w), 36);
        due(x.count(5), 216);
        due(x.count(6), 0);
    }

    private static void declaredOnce() {
        sentence("Each WARE can be declared once.");
        for (int w = 0; w < 3; w++) {
            int ware = w;
            for (int clerk = 0; clerk < 3; clerk++) {
                int c = clerk;
                still(x -> x.declare(ware, c), NOT);
            }
            still(x -> x.prose(ware), NOT);
        }
        VerseCustoms x = told("plain 1 1 0;ware 1 0;strict");
        lay(x, 0);
        x.prose(0);
        x.undo();
        due(x.declare(0, 0), 1);
        x.undo();
        due(x.prose(0), 3);
        due(x.declare(0, 0), NOT);
    }

    private static void declareRefused() {
        sentence("It is DECLARED: what is paid; 0: SEIZED. UNKNOWN; NOT: the WARE was declared; FULL: it is DAY 99.");
        Calls late = x -> { busy(x); days(x, 95); };
        due(made(late).count(4), 99);
        for (Calls when : new Calls[] {Bench::busy, late}) {
            for (int ware : new int[] {4, -1, LEAST, MOST}) still(when, x -> x.declare(ware, 0), UNKNOWN);
            for (int clerk : new int[] {3, -1, LEAST, MOST}) {
                for (int ware = 0; ware < 5; ware++) {
                    int w = ware;
                    still(when, x -> x.declare(w, clerk), UNKNOWN);
                }
            }
            for (int ware = 0; ware < 3; ware++) {
                int w = ware;
                still(when, x -> x.declare(w, 0), NOT);
            }
        }
        for (int c = 0; c < 3; c++) {
            int clerk = c;
            still(late, x -> x.declare(3, clerk), FULL);
        }
        for (int far : FAR) {
            still(x -> x.declare(far, 0), UNKNOWN);
            still(x -> x.declare(3, far), UNKNOWN);
        }
        still(x -> tell(x, "ware 1 0"), x -> x.declare(0, 0), UNKNOWN);
        still(x -> tell(x, "strict"), x -> x.declare(0, 0), UNKNOWN);
    }

    private static void proseRefused() {
        sentence("A WARE is declared in PROSE: what is paid. UNKNOWN; NOT; FULL.");
        Calls late = x -> { busy(x); days(x, 95); };
        for (Calls when : new Calls[] {Bench::busy, late}) {
            for (int ware : new int[] {4, 5, 6, -1, LEAST, MOST}) still(when, x -> x.prose(ware), UNKNOWN);
            for (int ware = 0; ware < 3; ware++) {
                int w = ware;
                still(when, x -> x.prose(w), NOT);
            }
        }
        still(late, x -> x.prose(3), FULL);
        still(x -> { }, x -> x.prose(0), UNKNOWN);
        for (int far : FAR) still(x -> x.prose(far), UNKNOWN);
    }

    private static void lastDay() {
        sentence("A DAY goes by: the next one. FULL: it is DAY 99.");
        VerseCustoms x = made(Bench::busy);
        for (int d = 5; d <= 99; d++) {
            due(x.day(), d);
            due(x.count(4), d);
        }
        due(x.day(), FULL);
        due(x.count(4), 99);
        still(y -> { busy(y); days(y, 95); }, y -> y.day(), FULL);
        still(y -> { busy(y); days(y, 95); y.undo(); y.day(); }, y -> y.day(), FULL);
        Calls eve = y -> { busy(y); days(y, 94); };
        due(made(eve).day(), 99);
        x = made(eve);
        due(x.declare(3, 0), 0);
        due(x.count(4), 99);
        due(x.day(), FULL);
        x = made(eve);
        due(x.prose(3), 6);
        due(x.count(4), 99);
        due(x.prose(3), NOT);
        x = made(y -> { busy(y); y.keep(1); days(y, 95); });
        due(x.back(1), 4);
        due(x.day(), 5);
        x = made(y -> { busy(y); days(y, 95); });
        due(x.keep(1), 99);
        due(x.back(1), 99);
        due(x.day(), FULL);
        due(x.declare(3, 0), FULL);
    }

    private static void undone() {
        sentence("The latest declare(), prose(), day() is undone");
        VerseCustoms x = made(Bench::busy);
        due(x.undo(), 3);
        due(x.count(4), 3);
        due(x.ware(0, 2), 2);
        due(x.undo(), 2);
        due(x.count(4), 2);
        due(x.ware(0, 2), 0);
        due(x.ware(1, 2), 3);
        due(x.count(5), 13);
        due(x.undo(), 1);
        due(x.ware(1, 2), 0);
        due(x.count(5), 4);
        due(x.rhyme(1, 0), 1);
        due(x.undo(), 0);
        due(x.ware(2, 2), 0);
        due(x.count(5), 0);
        due(x.count(4), 0);
        due(x.rhyme(1, 0), 0);
        due(x.undo(), NOT);
        due(x.count(6), 15);
        due(x.prose(0), 15);
        due(x.count(9), 1);
        due(x.undo(), 0);
        due(x.ware(0, 2), 0);
    }

    private static void eightUndone() {
        sentence("the last 8 can be");
        for (int n = 0; n <= 12; n++) {
            VerseCustoms x = new VerseCustoms();
            days(x, n);
            due(x.count(9), Math.min(n, 8));
            for (int left = Math.min(n, 8) - 1; left >= 0; left--) due(x.undo(), left);
            due(x.undo(), NOT);
            due(x.count(4), Math.max(n - 8, 0));
            due(x.count(9), 0);
        }
        VerseCustoms x = told(repeat("ware 2 0", 6));
        for (int w = 0; w < 6; w++) x.prose(w);
        days(x, 3);
        for (int i = 0; i < 8; i++) x.undo();
        due(x.undo(), NOT);
        due(x.count(6), 62);
        due(x.count(5), 6);
    }

    private static void undoGoesRound() {
        sentence("how many can be undone yet");
        VerseCustoms x = told("ware 3 0");
        for (int round = 0; round < 12; round++) {
            int day = x.count(4);
            days(x, 5);
            due(x.prose(0), 9);
            due(x.undo(), x.count(9));
            due(x.ware(0, 2), 0);
            for (int i = 0; i < 3; i++) x.undo();
            due(x.count(4), day + 2);
        }
        days(x, 5);
        for (int left = 7; left >= 0; left--) due(x.undo(), left);
        due(x.undo(), NOT);
        due(x.count(4), 21);
        due(x.count(6), 1);
        for (int n = 0; n <= 9; n++) {
            VerseCustoms y = told("ware 3 0");
            days(y, n);
            if (n % 2 == 0) due(tell(y, "none"), 1);
            y.keep(0);
            due(y.back(0), n % 2 == 0 ? 0 : n);
            due(y.undo(), NOT);
            int day = y.count(4);
            days(y, 10);
            for (int left = 7; left >= 0; left--) {
                due(y.undo(), left);
                due(y.count(4), day + left + 2);
            }
            due(y.undo(), NOT);
        }
    }

    private static void undoWhat() {
        sentence("also one by which nothing became other");
        VerseCustoms x = told("ware 2 0;strict");
        due(x.declare(0, 0), 0);
        due(x.count(9), 1);
        due(x.undo(), 0);
        x.day();
        for (int i = 0; i < 3; i++) {
            due(x.prose(1), UNKNOWN);
            due(x.declare(0, 1), UNKNOWN);
        }
        due(x.count(9), 1);
        due(x.undo(), 0);
        due(x.count(4), 0);
        x = made(Bench::busy);
        lay(x, 3);
        x.keep(1);
        x.secret(3);
        x.counted(2, 5);
        write(x, ";");
        due(x.count(9), 4);
        due(x.undo(), 3);
        due(x.line(0), 3);
        due(x.count(7), 1);
        due(x.count(8), 1);
        due(x.count(10), 11);
        due(x.back(1), 4);
        due(x.count(6), 8);
    }

    private static void undoRefused() {
        sentence("how many can be undone yet. NOT: none.");
        still(x -> { }, x -> x.undo(), NOT);
        still(x -> { busy(x); for (int i = 0; i < 4; i++) x.undo(); }, x -> x.undo(), NOT);
        still(x -> { busy(x); x.back(0); }, x -> x.undo(), NOT);
        still(x -> { busy(x); x.erase(); tell(x, "none"); }, x -> x.undo(), NOT);
        still(x -> { days(x, 99); for (int i = 0; i < 8; i++) x.undo(); }, x -> x.undo(), NOT);
        due(made(x -> { days(x, 99); x.day(); x.day(); }).undo(), 7);
    }

    private static void kept() {
        sentence("All as it is (but THE TEXT, THE LINE, COUNTED, what can be undone) is kept (k 0, 1): the DAY. UNKNOWN: no such k.");
        VerseCustoms x = made(Bench::busy);
        due(x.keep(1), 4);
        due(x.count(9), 4);
        due(x.prose(3), 6);
        lay(x, 3, 3, 3);
        x.secret(3);
        x.counted(0, 9);
        write(x, "x");
        due(x.back(1), 4);
        due(x.ware(3, 2), 0);
        due(x.ware(0, 2), 2);
        due(x.count(5), 13);
        due(x.rhyme(1, 0), 1);
        due(x.count(7), 3);
        due(x.count(8), 1);
        due(x.canBe(0), 1);
        due(x.count(10), 11);
        due(x.count(9), 0);
        due(x.back(0), 0);
        due(x.ware(0, 2), 0);
        due(x.count(5), 0);
        due(x.count(6), 15);
        due(x.rhyme(1, 0), 0);
        due(x.count(7), 3);
        x = new VerseCustoms();
        due(x.keep(0), 0);
        due(x.keep(1), 0);
        days(x, 7);
        due(x.keep(0), 7);
    }

    private static void keepRefused() {
        sentence("UNKNOWN: no such k.");
        Calls both = x -> { busy(x); x.keep(1); x.day(); };
        for (int k : new int[] {-1, 2, 3}) {
            still(x -> x.keep(k), UNKNOWN);
            still(both, x -> x.keep(k), UNKNOWN);
            still(both, x -> x.back(k), UNKNOWN);
        }
        for (int far : FAR) {
            still(x -> x.keep(far), UNKNOWN);
            still(both, x -> x.keep(far), UNKNOWN);
        }
    }

    private static void broughtBack() {
        sentence("It is as it was kept, nothing can be undone: the DAY.");
        VerseCustoms x = made(Bench::busy);
        due(x.back(0), 0);
        due(x.count(9), 0);
        due(x.undo(), NOT);
        due(x.day(), 1);
        due(x.undo(), 0);
        due(x.undo(), NOT);
        due(x.prose(3), 6);
        due(x.declare(2, 0), 4);
        due(x.back(0), 0);
        due(x.count(6), 15);
        due(x.count(5), 0);
        due(x.rhyme(1, 0), 0);
        due(x.back(0), 0);
        due(x.undo(), NOT);
    }

    private static void keptTwice() {
        sentence("is kept (k 0, 1)");
        VerseCustoms x = told("ware 2 0;ware 3 0");
        x.keep(0);
        x.day();
        x.keep(1);
        x.prose(0);
        due(x.back(0), 0);
        due(x.count(6), 3);
        due(x.back(1), 1);
        due(x.count(6), 3);
        x.prose(1);
        due(x.keep(0), 2);
        x.undo();
        due(x.count(6), 3);
        due(x.back(0), 2);
        due(x.count(6), 1);
        due(x.count(5), 9);
        due(x.back(1), 1);
        due(x.count(5), 0);
        due(x.back(0), 2);
        x.prose(0);
        due(x.back(0), 2);
        due(x.count(6), 1);
    }

    private static void backRefused() {
        sentence("the DAY. UNKNOWN; NOT: nothing was kept since the last text.");
        still(x -> x.back(1), NOT);
        still(x -> x.back(2), UNKNOWN);
        still(x -> x.back(-1), UNKNOWN);
        still(x -> { }, x -> x.back(0), NOT);
        still(x -> { }, x -> x.back(1), NOT);
        still(x -> { }, x -> x.back(2), UNKNOWN);
        still(x -> { days(x, 2); x.keep(1); x.day(); }, x -> x.back(0), NOT);
        for (int far : FAR) still(x -> x.back(far), UNKNOWN);
    }

    private static void keptSinceTheText() {
        sentence("NOT: nothing was kept since the last text.");
        Calls both = x -> { busy(x); x.keep(1); x.day(); x.erase(); };
        still(x -> { both.on(x); tell(x, "none"); }, x -> x.back(0), NOT);
        still(x -> { both.on(x); tell(x, "none"); }, x -> x.back(1), NOT);
        still(x -> { both.on(x); tell(x, "none"); x.keep(0); x.day(); }, x -> x.back(1), NOT);
        still(x -> { both.on(x); tell(x, "none"); x.keep(1); x.day(); }, x -> x.back(0), NOT);
        VerseCustoms x = made(both);
        due(tell(x, "nonesuch"), NOT);
        due(x.back(0), 0);
        due(x.back(1), 4);
        x.erase();
        due(x.back(0), 0);
        due(tell(x, "none"), 1);
        days(x, 2);
        due(x.keep(1), 2);
        x.day();
        due(x.back(1), 2);
        due(x.back(0), NOT);
    }
}
