/** Promises 24 to 32, sentence by sentence: where the document names a boundary of what is foretold. */
public final class ForetoldBoundsTest extends Bench {
    public static void main(String[] args) {
        fourWordsAtMost();
        asOftenAsOneLikes();
        firstOfSeveral();
        firstInMetre();
        howManyPass();
        noneShortest();
        wearNotAsked();
        shortestRefused();
        shortestWordPlaces();
        shortestWordRefused();
        everyClerk();
        forAllRefused();
        hidden();
        hiddenThatScan();
        hiddenRefused();
        altered();
        alteredFirst();
        alteredNone();
        alteredRefused();
        ladenBears();
        ladenSets();
        ladenAll();
        ladenRefused();
        leftByRhymes();
        leftOnce();
        leftPorts();
        leftRefused();
        oddsOfLines();
        oddsLowest();
        oddsRefused();
        yearInVerse();
        yearWear();
        yearByNumbers();
        yearFirstClerk();
        yearRefused();
        end();
    }

    // ---- shortest

    private static void fourWordsAtMost() {
        sentence("a LINE of the fewest WORDS, 4 at most");
        for (int weight = 1; weight <= 12; weight++) {
            VerseCustoms x = told("plain 1 1 0;ware " + weight + " 0;strict;slurring;deaf");
            for (int c = 0; c < 3; c++) {
                due(x.shortest(0, c, 0), weight <= 4 ? weight : NONE);
                due(x.shortest(0, c, 1), weight <= 4 ? 1 : NONE);
                for (int i = 0; i < 6; i++) due(x.shortestWord(0, c, i), weight <= 4 && i < weight ? 0 : NONE);
            }
            x = told("plain 3 1 0;ware " + weight + " 0;strict");
            due(x.shortest(0, 0, 0), weight % 3 == 0 ? weight / 3 : NONE);
            x = told("elided 4 1 0;ware " + weight + " 0;slurring");
            due(x.shortest(0, 0, 0), weight == 4 ? 1 : weight == 7 ? 2 : weight == 10 ? 3 : NONE);
            x = told("elided 3 1 0;ware " + weight + " 0;slurring");
            due(x.shortest(0, 0, 0), weight % 2 == 1 && weight > 1 && weight < 10 ? weight / 2 : NONE);
            x = told("elided 1 1 0;ware " + weight + " 0;slurring");
            due(x.shortest(0, 0, 0), weight == 1 ? 1 : NONE);
        }
        VerseCustoms x = told("elided 1 1 0;plain 1 1 0;ware 2 0;slurring");
        due(x.shortest(0, 0, 0), 2);
        due(x.shortest(0, 0, 1), 2);
        due(x.shortestWord(0, 0, 0), 1);
    }

    private static void asOftenAsOneLikes() {
        sentence("each as often as one likes");
        VerseCustoms x = told("plain 3 1 1;plain 3 1 0;ware 12 0;strict");
        due(x.shortest(0, 0, 0), 4);
        for (int i = 0; i < 3; i++) due(x.shortestWord(0, 0, i), 0);
        due(x.shortestWord(0, 0, 3), 1);
        due(x.shortestWord(0, 0, 4), NONE);
        due(x.shortest(0, 0, 1), 8);
    }

    private static void firstOfSeveral() {
        sentence("of several the first (by WORDS)");
        VerseCustoms x = told("plain 2 1 1;plain 1 1 0;plain 2 1 0;plain 1 1 1;ware 3 0;ware 4 1;port 1 1;ware 2 0;strict;deaf");
        due(x.shortest(0, 0, 0), 2);
        due(x.shortestWord(0, 0, 0), 0);
        due(x.shortestWord(0, 0, 1), 1);
        due(x.shortest(0, 0, 1), 4);
        due(x.shortestWord(1, 0, 0), 0);
        due(x.shortestWord(1, 0, 1), 0);
        due(x.shortestWord(2, 0, 0), 2);
        due(x.shortestWord(2, 1, 0), 0);
        due(x.shortest(2, 1, 1), 2);
        x = told("plain 1 1 0;plain 2 2 0;free 1 0;plain 2 1 0;ware 4 0;strict;rising");
        due(x.shortest(0, 0, 0), 2);
        due(x.shortestWord(0, 0, 0), 1);
        due(x.shortestWord(0, 0, 1), 1);
        due(x.shortest(0, 0, 1), 1);
        tell(x, "falling");
        due(x.shortest(0, 0, 1), 1);
        due(x.shortestWord(0, 0, 0), 3);
        due(x.shortestWord(0, 0, 1), 3);
    }

    private static void firstInMetre() {
        sentence("a LINE of the fewest WORDS, 4 at most, each as often as one likes, that PASSES; of several the first (by WORDS)");
        VerseCustoms x = told("plain 3 2 0;plain 3 1 0;plain 1 1 0;ware 6 0;ware 9 0;ware 12 0;ware 7 0;strict;rising");
        int[][] first = {{0, 1}, {0, 1, 0}, {0, 1, 0, 1}, {0, 2, 0}};
        for (int ware = 0; ware < 4; ware++) {
            due(x.shortest(ware, 0, 0), first[ware].length);
            for (int i = 0; i < first[ware].length; i++) due(x.shortestWord(ware, 0, i), first[ware][i]);
        }
        lay(x, 1, 1);
        due(x.altered(0, 0, NONE), 1);
        due(x.altered(0, 0, 0), 0);
        due(x.altered(0, 0, 1), 1);
        lay(x, 2, 2, 2);
        due(x.altered(3, 0, NONE), 2);
        due(x.altered(3, 0, 0), 0);
        due(x.altered(3, 0, 1), 2);
        due(x.altered(3, 0, 2), 0);
        tell(x, "falling");
        for (int i = 0; i < 4; i++) due(x.shortestWord(2, 0, i), 1 - i % 2);
    }

    private static void howManyPass() {
        sentence("how many LINES of that length PASS");
        VerseCustoms x = told(repeat("plain 1 1 0", 9) + ";ware 4 0;ware 1 0;ware 3 0;strict");
        due(x.shortest(0, 0, 1), 6561);
        due(x.shortest(1, 0, 1), 9);
        due(x.shortest(2, 0, 1), 729);
        due(x.forAll(0, 1), 6561);
        tell(x, "falling");
        due(x.shortest(1, 0, 1), 9);
        due(x.shortest(2, 0, 1), NONE);
        x = told("plain 1 1 0;plain 3 1 0;plain 2 1 0;ware 3 0;ware 4 0;strict");
        due(x.shortest(0, 0, 0), 1);
        due(x.shortest(0, 0, 1), 1);
        due(x.shortest(1, 0, 0), 2);
        due(x.shortest(1, 0, 1), 3);
    }

    private static void noneShortest() {
        sentence("how many WORDS (what 0), how many such LINES (1); NONE.");
        for (String told : new String[] {"ware 1 0;strict", "plain 2 1 0;ware 1 0;strict", "plain 1 1 1;ware 1 0;strict",
            "plain 1 1 0;ware 1 0;strict;rising", "plain 2 2 0;ware 2 0;strict;falling", "plain 2 1 0;ware 10 0;strict"}) {
            still(x -> tell(x, told), x -> x.shortest(0, 0, 0), NONE);
            still(x -> tell(x, told), x -> x.shortest(0, 0, 1), NONE);
            still(x -> tell(x, told), x -> x.shortestWord(0, 0, 0), NONE);
            still(x -> tell(x, told), x -> x.forAll(0, 0), NONE);
            still(x -> tell(x, told), x -> x.forAll(0, 1), NONE);
        }
        VerseCustoms x = told("plain 1 1 1;ware 1 0;strict;deaf");
        due(x.shortest(0, 0, 0), NONE);
        due(x.shortest(0, 1, 0), 1);
    }

    private static void wearNotAsked() {
        sentence("FORETOLD (nothing changes; wear is not asked but where told).");
        Calls worn = x -> { tell(x, "plain 2 1 0;ware 4 0;ware 2 0;uses 0 0;strict;deaf"); lay(x, 0); };
        still(worn, x -> x.shortest(0, 0, 0), 2);
        still(worn, x -> x.shortest(0, 1, 1), 1);
        still(worn, x -> x.shortestWord(0, 0, 1), 0);
        still(worn, x -> x.forAll(0, 0), 2);
        still(worn, x -> x.altered(1, 0, NONE), 0);
        still(worn, x -> x.odds(0, 0, 2, 0), 1);
        still(worn, x -> x.laden(4, 0), 6);
        still(worn, x -> x.passes(1, 0), 1);
        still(worn, x -> x.left(0), 0);
        still(worn, x -> x.year(), 18);
        for (int ware = 0; ware < 4; ware++) {
            int w = ware;
            still(x -> x.shortest(w, 0, 0), new int[] {2, 2, 2, 1}[w]);
            still(x -> x.forAll(w, 0), new int[] {2, 2, 2, 1}[w]);
        }
        still(x -> x.hidden(4), 3);
        still(x -> x.altered(1, 0, NONE), 1);
        still(x -> x.laden(7, 1), 6);
        still(x -> x.laden(7, 2), 9);
        still(x -> x.odds(2, 0, 2, 0), 5);
        still(x -> x.odds(2, 0, 2, 1), 16);
        still(x -> x.left(1), 0);
        still(x -> x.year(), 2);
    }

    private static void shortestRefused() {
        sentence("SHORTEST: how many WORDS (what 0), how many such LINES (1); NONE. UNKNOWN; OUTSIDE.");
        for (int what : new int[] {0, 1, 2, -1, LEAST, MOST}) {
            for (int none : new int[] {4, -1, LEAST, MOST}) still(x -> x.shortest(none, 0, what), UNKNOWN);
            for (int none : new int[] {3, -1, LEAST, MOST}) still(x -> x.shortest(0, none, what), UNKNOWN);
            still(x -> { }, x -> x.shortest(0, 0, what), UNKNOWN);
            still(x -> tell(x, "ware 1 0"), x -> x.shortest(0, 0, what), UNKNOWN);
            still(x -> tell(x, "deaf"), x -> x.shortest(0, 0, what), UNKNOWN);
            if (what != 0 && what != 1) still(x -> x.shortest(0, 0, what), OUTSIDE);
        }
        for (int far : FAR) {
            still(x -> x.shortest(0, 0, far), OUTSIDE);
            due(made(Bench::busy).shortest(far, far, far), UNKNOWN);
        }
    }

    private static void shortestWordPlaces() {
        sentence("SHORTEST: the WORD at place i of the first; NONE: there are not so many, there is none.");
        int[] places = {0, 1, 2, 3, 4, 5, 6, 100, MOST};
        Calls four = x -> tell(x, "plain 3 1 0;ware 12 0;ware 11 0;ware 3 0;strict");
        for (int i : places) {
            still(four, x -> x.shortestWord(0, 0, i), i < 4 ? 0 : NONE);
            still(four, x -> x.shortestWord(1, 0, i), NONE);
            still(four, x -> x.shortestWord(2, 0, i), i < 1 ? 0 : NONE);
        }
        VerseCustoms x = made(four);
        due(x.shortestWord(0, 0, 3), 0);
        due(x.shortestWord(1, 0, 0), NONE);
        due(x.shortestWord(2, 0, 1), NONE);
    }

    private static void shortestWordRefused() {
        sentence("there is none. UNKNOWN; OUTSIDE: i below 0.");
        for (int i : new int[] {0, 4, -1, LEAST, MOST}) {
            for (int none : new int[] {4, -1, LEAST, MOST}) still(x -> x.shortestWord(none, 0, i), UNKNOWN);
            for (int none : new int[] {3, -1, LEAST, MOST}) still(x -> x.shortestWord(0, none, i), UNKNOWN);
            still(x -> { }, x -> x.shortestWord(0, 0, i), UNKNOWN);
        }
        for (int i : new int[] {-1, -2, LEAST}) {
            still(x -> x.shortestWord(0, 0, i), OUTSIDE);
            still(x -> tell(x, "ware 1 0;deaf"), x -> x.shortestWord(0, 0, i), OUTSIDE);
        }
    }

    // ---- for all

    private static void everyClerk() {
        sentence("FOR ALL: likewise such that it PASSES every CLERK (there are some).");
        String words = "elided 2 1 1;plain 2 1 0;plain 2 1 1;elided 4 1 0;ware 4 0;ware 2 0;ware 10 0;ware 9 0;";
        VerseCustoms x = told(words + "strict");
        for (int ware = 0; ware < 4; ware++) {
            for (int what = 0; what < 2; what++) due(x.forAll(ware, what), x.shortest(ware, 0, what));
        }
        due(x.forAll(0, 0), 1);
        due(x.forAll(2, 0), 3);
        due(x.forAll(2, 1), 3 + 3 + 1);
        due(x.forAll(3, 0), NONE);
        x = told(words + "slurring");
        due(x.forAll(2, 0), 3);
        due(x.forAll(2, 1), 1);
        x = told(words + "slurring;strict");
        due(x.forAll(0, 0), 1);
        due(x.forAll(2, 0), 4);
        due(x.forAll(2, 1), 8);
        due(x.forAll(3, 0), NONE);
        x = told(words + "deaf");
        due(x.forAll(1, 1), 3);
        due(x.forAll(0, 1), 1);
        x = told(words + "deaf;deaf;strict");
        due(x.forAll(1, 1), 1);
        x = told(words + "deaf;deaf;slurring");
        due(x.forAll(1, 1), 1);
        x = told("elided 2 1 0;ware 3 0;deaf;slurring");
        due(x.forAll(0, 0), NONE);
        due(x.shortest(0, 1, 0), 2);
    }

    private static void forAllRefused() {
        sentence("NONE. UNKNOWN; OUTSIDE; NOT: there are no CLERKS.");
        Calls noClerks = x -> tell(x, "plain 1 1 0;ware 1 0;ware 2 0");
        for (int what : new int[] {0, 1, 2, -1, LEAST, MOST}) {
            for (int none : new int[] {4, -1, LEAST, MOST}) {
                still(x -> x.forAll(none, what), UNKNOWN);
                still(noClerks, x -> x.forAll(none, what), UNKNOWN);
            }
            still(x -> { }, x -> x.forAll(0, what), UNKNOWN);
            boolean told = what == 0 || what == 1;
            still(noClerks, x -> x.forAll(1, what), told ? NOT : OUTSIDE);
            if (!told) still(x -> x.forAll(0, what), OUTSIDE);
        }
        for (int far : FAR) still(x -> x.forAll(0, far), OUTSIDE);
    }

    // ---- hidden

    private static void hidden() {
        sentence("the most by which what is told of a LINE's SYLLABLES is above what a SLURRING CLERK COUNTS,"
            + " of LINES of n WORDS (1 .. 4) that SCAN");
        for (int s = 1; s <= 4; s++) {
            VerseCustoms x = told("plain 4 1 0;elided " + s + " 1 0");
            for (int n = 1; n <= 4; n++) due(x.hidden(n), n - 1);
        }
        for (String word : new String[] {"plain 4 1 0", "false 4 1 0", "free 4 0"}) {
            VerseCustoms x = told(word + ";strict;slurring");
            for (int n = 1; n <= 4; n++) due(x.hidden(n), 0);
        }
        VerseCustoms x = told("elided 2 2 0;rising");
        for (int n = 1; n <= 4; n++) due(x.hidden(n), n - 1);
    }

    private static void hiddenThatScan() {
        sentence("none SCANS.");
        for (String told : new String[] {"none", "plain 2 1 0;rising", "elided 1 1 0;rising", "elided 4 4 0;falling"}) {
            for (int n = 1; n <= 4; n++) {
                int words = n;
                still(x -> tell(x, told), x -> x.hidden(words), NONE);
            }
        }
        VerseCustoms x = told("elided 1 1 0;falling");
        due(x.hidden(1), 0);
        for (int n = 2; n <= 4; n++) due(x.hidden(n), NONE);
        x = told("elided 1 1 0;plain 3 2 0;falling");
        due(x.hidden(1), 0);
        due(x.hidden(2), 1);
        due(x.hidden(3), 1);
        due(x.hidden(4), 2);
        x = told("elided 1 1 0;free 2 0;falling");
        due(x.hidden(2), 1);
        due(x.hidden(3), 1);
        tell(x, "rising");
        due(x.hidden(2), 0);
        due(x.hidden(4), 0);
        tell(x, "free 1 0");
        due(x.hidden(2), 0);
        due(x.hidden(3), 1);
        due(x.hidden(4), 1);
    }

    private static void hiddenRefused() {
        sentence("HIDDEN; NONE. OUTSIDE.");
        for (int n : new int[] {0, 5, 6, -1}) {
            still(x -> x.hidden(n), OUTSIDE);
            still(x -> { }, x -> x.hidden(n), OUTSIDE);
        }
        for (int far : FAR) still(x -> x.hidden(far), OUTSIDE);
        for (int n = 1; n <= 4; n++) {
            int words = n;
            still(x -> { }, x -> x.hidden(words), NONE);
            still(x -> x.hidden(words), words - 1);
        }
    }

    // ---- altered

    private static void altered() {
        sentence("the fewest WORDS of THE LINE to be changed for others, in their places, so that it PASSES a CLERK for a WARE");
        String told = "plain 1 1 1;plain 2 1 0;ware ";
        for (int n = 1; n <= 6; n++) {
            for (int weight = 1; weight <= 12; weight++) {
                VerseCustoms x = told(told + weight + " 0;strict;deaf");
                for (int i = 0; i < n; i++) x.put(0);
                boolean can = weight > n && weight <= 2 * n;
                due(x.altered(0, 0, NONE), can ? weight - n : NONE);
                due(x.altered(0, 1, NONE), can || weight == n ? weight - n : NONE);
                for (int i = 0; i <= n; i++) due(x.altered(0, 0, i), !can || i == n ? NONE : i >= 2 * n - weight ? 1 : 0);
            }
        }
        VerseCustoms x = told("elided 2 1 0;plain 2 1 0;ware 7 0;ware 12 0;slurring;strict");
        lay(x, 0, 0, 0, 0, 0, 0);
        due(x.altered(0, 0, NONE), 0);
        due(x.altered(1, 0, NONE), 5);
        due(x.altered(1, 1, NONE), 0);
        due(x.altered(1, 0, 4), 1);
        due(x.altered(1, 0, 5), 0);
        lay(x, 1, 1, 1, 1, 1, 1);
        due(x.altered(0, 0, NONE), 5);
        due(x.altered(0, 0, 0), 0);
        due(x.altered(0, 0, 5), 1);
    }

    private static void alteredFirst() {
        sentence("of several LINES the first; none.");
        VerseCustoms x = told("plain 1 1 0;plain 2 1 0;plain 2 1 0;ware 4 0;ware 3 0;strict");
        lay(x, 2, 2, 2);
        due(x.altered(0, 0, NONE), 2);
        int[] first = {0, 0, 2, NONE};
        for (int i = 0; i < 4; i++) due(x.altered(0, 0, i), first[i]);
        lay(x, 0, 0, 0);
        due(x.altered(0, 0, NONE), 1);
        first = new int[] {0, 0, 1, NONE};
        for (int i = 0; i < 4; i++) due(x.altered(0, 0, i), first[i]);
        lay(x, 2, 0);
        due(x.altered(1, 0, NONE), 0);
        due(x.altered(1, 0, 0), 2);
        due(x.altered(1, 0, 1), 0);
        lay(x, 1);
        due(x.altered(1, 0, NONE), NONE);
        due(x.altered(1, 0, 0), NONE);
        x = told("plain 2 1 0;plain 2 2 0;free 2 0;ware 4 0;strict;rising");
        lay(x, 0, 0);
        due(x.altered(0, 0, NONE), 2);
        due(x.altered(0, 0, 0), 1);
        due(x.altered(0, 0, 1), 1);
        lay(x, 2, 0);
        due(x.altered(0, 0, NONE), 1);
        due(x.altered(0, 0, 0), 2);
        due(x.altered(0, 0, 1), 1);
    }

    private static void alteredNone() {
        sentence("ALTERED: how many (i NONE), the WORD at place i of the first; NONE: there is none, not so many.");
        int[] places = {-1, 0, 1, 2, 5, 6, 100, MOST};
        for (int i : places) {
            still(x -> { busy(x); x.wipe(); }, x -> x.altered(0, 0, i), NONE);
            still(x -> { busy(x); lay(x, 0, 0, 0, 0, 0, 0); }, x -> x.altered(0, 0, i), NONE);
            still(x -> x.altered(2, 0, i), i == NONE || i == 0 || i == 1 ? 0 : NONE);
            still(x -> { busy(x); lay(x, 3); }, x -> x.altered(3, 0, i), i == NONE ? 0 : i == 0 ? 3 : NONE);
            still(x -> { busy(x); lay(x, 1); }, x -> x.altered(3, 0, i), i == NONE ? 1 : i == 0 ? 0 : NONE);
        }
        VerseCustoms x = told("free 2 0;ware 12 0;strict");
        for (int n = 1; n <= 6; n++) {
            x.put(0);
            due(x.altered(0, 0, NONE), n == 6 ? 0 : NONE);
            due(x.altered(0, 0, n - 1), n == 6 ? 0 : NONE);
            due(x.altered(0, 0, n), NONE);
        }
    }

    private static void alteredRefused() {
        sentence("not so many. UNKNOWN; OUTSIDE: i below NONE.");
        for (int i : new int[] {-1, 0, 9, -2, LEAST, MOST}) {
            for (int none : new int[] {4, -1, LEAST, MOST}) still(x -> x.altered(none, 0, i), UNKNOWN);
            for (int none : new int[] {3, -1, LEAST, MOST}) still(x -> x.altered(0, none, i), UNKNOWN);
            still(x -> { }, x -> x.altered(0, 0, i), UNKNOWN);
        }
        for (int i : new int[] {-2, -3, LEAST}) {
            still(x -> x.altered(0, 0, i), OUTSIDE);
            still(x -> { busy(x); x.wipe(); }, x -> x.altered(0, 0, i), OUTSIDE);
        }
    }

    // ---- laden

    private static void ladenBears() {
        sentence("WARES for two SHIPS that bear h each (1 .. 72): the most WEIGHT that both carry together");
        for (int weight = 1; weight <= 12; weight++) {
            VerseCustoms x = told("ware " + weight + " 0");
            for (int h = 1; h <= 13; h++) {
                due(x.laden(h, 0), h >= weight ? weight : 0);
                due(x.laden(h, 1), 0);
                due(x.laden(h, 2), h >= weight ? 1 : 0);
            }
            x = told("ware " + weight + " 0;ware " + weight + " 0");
            due(x.laden(weight, 0), 2 * weight);
            due(x.laden(weight, 1), 1);
            due(x.laden(weight, 2), 2);
            due(x.laden(2 * weight, 1), 0);
            due(x.laden(2 * weight, 2), 3);
        }
        VerseCustoms x = told(repeat("ware 12 0", 6));
        for (int h = 1; h <= 72; h++) due(x.laden(h, 0), Math.min(72, h / 12 * 24));
        due(x.laden(71, 1), 1);
        due(x.laden(71, 2), 62);
        due(x.laden(72, 1), 0);
        due(x.laden(72, 2), 63);
    }

    private static void ladenSets() {
        sentence("the set of the first one, of several the least; that of the second one, the least for it");
        VerseCustoms x = told("ware 3 0;ware 3 0;ware 3 0;ware 5 0");
        due(x.laden(3, 0), 6);
        due(x.laden(3, 1), 1);
        due(x.laden(3, 2), 2);
        due(x.laden(5, 0), 8);
        due(x.laden(5, 1), 1);
        due(x.laden(5, 2), 8);
        due(x.laden(6, 0), 11);
        due(x.laden(6, 1), 3);
        due(x.laden(6, 2), 8);
        due(x.laden(8, 0), 14);
        due(x.laden(8, 1), 3);
        due(x.laden(8, 2), 12);
        x = told("ware 5 0;ware 3 0;ware 3 0;ware 3 0");
        due(x.laden(5, 1), 1);
        due(x.laden(5, 2), 2);
        due(x.laden(6, 1), 1);
        due(x.laden(6, 2), 6);
    }

    private static void ladenAll() {
        sentence("LADEN: WEIGHT (what 0), the set of the first SHIP (1), of the second (2).");
        for (int h : new int[] {1, 9, 72}) {
            for (int what = 0; what < 3; what++) {
                int asked = what;
                still(x -> { }, x -> x.laden(h, asked), 0);
            }
        }
        still(x -> x.laden(72, 0), 14);
        still(x -> x.laden(72, 1), 0);
        still(x -> x.laden(72, 2), 15);
        still(x -> x.laden(1, 0), 0);
        still(x -> x.laden(1, 1), 0);
        still(x -> x.laden(1, 2), 0);
    }

    private static void ladenRefused() {
        sentence("of the second (2). OUTSIDE: h, what.");
        for (int h : new int[] {0, 73, 74, -1, LEAST, MOST}) {
            for (int what = 0; what < 3; what++) {
                int asked = what;
                still(x -> x.laden(h, asked), OUTSIDE);
                still(x -> { }, x -> x.laden(h, asked), OUTSIDE);
            }
        }
        for (int what : new int[] {-1, 3, 4, LEAST, MOST}) {
            for (int h : new int[] {1, 72, 0, 73}) still(x -> x.laden(h, what), OUTSIDE);
        }
        for (int far : FAR) {
            still(x -> x.laden(far, 0), OUTSIDE);
            still(x -> x.laden(9, far), OUTSIDE);
        }
    }

    // ---- left

    private static void leftByRhymes() {
        sentence("how many WARES that were not declared can be yet, each by the RHYME of its PORT once, as often as these can be USED");
        for (int wares = 1; wares <= 6; wares++) {
            for (int uses = 0; uses <= 9; uses++) {
                VerseCustoms x = told(repeat("ware 1 1", wares) + ";port 1 2;uses 2 " + uses + ";uses 0 0");
                due(x.left(0), Math.min(wares, uses));
            }
        }
        VerseCustoms x = told("port 1 2;port 2 2;ware 1 1;ware 1 2;ware 1 1;ware 1 2;ware 1 0;ware 1 3");
        due(x.left(0), 5);
        tell(x, "uses 2 1;uses 0 1");
        due(x.left(0), 2);
        tell(x, "port 2 5");
        due(x.left(0), 4);
    }

    private static void leftOnce() {
        sentence("LEFT: WARES (what 0), PORTS (1).");
        VerseCustoms x = told("plain 1 1 2;false 1 1 2;port 1 2;" + repeat("ware 1 1", 5) + ";uses 2 2;uses 0 0;strict");
        due(x.left(0), 2);
        due(x.left(1), 13);
        lay(x, 1);
        x.declare(0, 0);
        due(x.left(0), 2);
        lay(x, 0);
        due(x.declare(1, 0), 1);
        due(x.left(0), 1);
        due(x.left(1), 13);
        due(x.declare(2, 0), 1);
        due(x.left(0), 0);
        due(x.left(1), 15);
        x.undo();
        due(x.left(0), 1);
        x.prose(2);
        x.prose(3);
        due(x.left(0), 1);
        x.prose(4);
        due(x.left(0), 0);
        due(x.left(1), 13);
        still(y -> { }, y -> y.left(0), 0);
        still(y -> { }, y -> y.left(1), 0);
        still(y -> { busy(y); days(y, 95); }, y -> y.left(0), 1);
    }

    private static void leftPorts() {
        sentence("PORTS whose RHYME is worn out, by bits");
        VerseCustoms x = told("port 0 5;port 1 1;port 2 5;port 3 3;uses 5 0");
        due(x.left(1), 5);
        tell(x, "uses 3 0");
        due(x.left(1), 13);
        tell(x, "uses 1 0;uses 5 9");
        due(x.left(1), 10);
        tell(x, "uses 1 1;uses 3 1");
        due(x.left(1), 0);
        x = told("deaf;plain 1 1 5;port 3 5;ware 1 0;ware 1 0;uses 5 2");
        lay(x, 0);
        due(x.declare(0, 0), 1);
        due(x.left(1), 0);
        due(x.declare(1, 0), 1);
        due(x.left(1), 8);
        due(x.rhyme(5, 0), 2);
    }

    private static void leftRefused() {
        sentence("LEFT: WARES (what 0), PORTS (1). OUTSIDE.");
        for (int what : new int[] {2, 3, -1}) still(x -> { }, x -> x.left(what), OUTSIDE);
        for (int what : new int[] {2, 3, -1}) still(x -> x.left(what), OUTSIDE);
        for (int far : FAR) still(x -> x.left(far), OUTSIDE);
        still(x -> x.left(0), 1);
    }

    // ---- odds

    private static void oddsOfLines() {
        sentence("ODDS that a LINE of n WORDS (1 .. 4), each alike likely, PASSES a CLERK for a WARE.");
        VerseCustoms x = told("plain 1 1 0;plain 1 1 1;plain 1 1 1;ware 1 0;ware 2 0;ware 3 0;ware 4 0;ware 5 0;strict;deaf");
        for (int n = 1; n <= 4; n++) {
            for (int ware = 0; ware < 5; ware++) {
                boolean can = ware + 1 == n;
                due(x.odds(ware, 0, n, 0), can ? 1 : 0);
                due(x.odds(ware, 0, n, 1), can ? 3 : 1);
                due(x.odds(ware, 1, n, 0), can ? 1 : 0);
                due(x.odds(ware, 1, n, 1), 1);
            }
        }
        x = told("elided 2 1 0;plain 1 1 1;ware 3 0;ware 4 0;slurring");
        due(x.odds(0, 0, 2, 0), 1);
        due(x.odds(0, 0, 2, 1), 2);
        due(x.odds(0, 0, 3, 0), 0);
        due(x.odds(0, 0, 3, 1), 1);
        due(x.odds(1, 0, 3, 0), 1);
        due(x.odds(1, 0, 3, 1), 2);
    }

    private static void oddsLowest() {
        sentence("Parts are told in lowest terms: above (part 0), below (1).");
        VerseCustoms x = told(repeat("plain 1 1 0", 8) + ";plain 1 1 1;ware 4 0;ware 12 0;port 1 1;ware 4 1;strict");
        due(x.odds(0, 0, 4, 0), 8);
        due(x.odds(0, 0, 4, 1), 9);
        due(x.odds(1, 0, 4, 0), 0);
        due(x.odds(1, 0, 4, 1), 1);
        due(x.odds(2, 0, 4, 0), 1);
        due(x.odds(2, 0, 4, 1), 9);
        tell(x, "falling");
        due(x.odds(0, 0, 4, 0), 0);
        due(x.odds(0, 0, 4, 1), 1);
        x = told("plain 1 1 0;plain 2 1 0;" + repeat("plain 3 1 1", 7) + ";ware 5 0;strict");
        due(x.odds(0, 0, 4, 0), 4);
        due(x.odds(0, 0, 4, 1), 6561);
        x = told("plain 1 1 0;plain 1 1 0;plain 2 1 0;plain 3 1 0;ware 2 0;ware 3 0;strict");
        due(x.odds(0, 0, 2, 0), 1);
        due(x.odds(0, 0, 2, 1), 4);
        due(x.odds(1, 0, 3, 0), 1);
        due(x.odds(1, 0, 3, 1), 8);
        due(x.odds(1, 0, 1, 1), 4);
    }

    private static void oddsRefused() {
        sentence("ODDS. UNKNOWN; OUTSIDE: n, part; NOT: there are no WORDS.");
        Calls noWords = x -> tell(x, "ware 1 0;ware 2 0;ware 3 0;ware 4 0;strict;deaf;slurring");
        for (Calls when : new Calls[] {Bench::busy, noWords}) {
            for (int n : new int[] {1, 4, 0, 5, LEAST, MOST}) {
                for (int none : new int[] {4, -1, LEAST, MOST}) still(when, x -> x.odds(none, 0, n, 0), UNKNOWN);
                for (int none : new int[] {3, -1, LEAST, MOST}) still(when, x -> x.odds(0, none, n, 2), UNKNOWN);
            }
            for (int n : new int[] {0, 5, -1, LEAST, MOST}) {
                still(when, x -> x.odds(0, 0, n, 0), OUTSIDE);
                still(when, x -> x.odds(0, 0, n, 1), OUTSIDE);
            }
            for (int part : new int[] {2, -1, LEAST, MOST}) {
                still(when, x -> x.odds(0, 0, 1, part), OUTSIDE);
                still(when, x -> x.odds(0, 0, 4, part), OUTSIDE);
            }
        }
        for (int n = 1; n <= 4; n++) {
            int words = n;
            still(noWords, x -> x.odds(0, 0, words, 0), NOT);
            still(noWords, x -> x.odds(3, 2, words, 1), NOT);
        }
        still(x -> { }, x -> x.odds(0, 0, 1, 0), UNKNOWN);
    }

    // ---- year

    private static void yearInVerse() {
        sentence("YEAR: what all WARES that were not declared pay");
        VerseCustoms x = told("plain 3 1 0;plain 1 1 0;" + repeat("ware 6 0", 3) + ";ware 11 0;ware 12 0;uses 0 9;strict");
        due(x.year(), 18 + 33 + 12);
        x.prose(3);
        due(x.year(), 30);
        x.declare(0, 0);
        due(x.year(), 24);
        lay(x, 0, 0);
        due(x.declare(1, 0), 6);
        due(x.year(), 18);
        x.prose(2);
        x.prose(4);
        due(x.year(), 0);
        due(told("strict;plain 1 1 0").year(), 0);
        due(told("strict;" + repeat("ware 12 0", 6)).year(), 216);
        due(told("plain 3 1 0;uses 0 9;strict;" + repeat("ware 12 0", 6)).year(), 72);
        due(made(y -> { busy(y); days(y, 95); }).year(), 2);
    }

    private static void yearWear() {
        sentence("whose last RHYME is not worn out (by their numbers; wear goes on), else in PROSE");
        for (int uses = 0; uses <= 9; uses++) {
            String told = "plain 1 1 4;port 0 4;uses 4 " + uses + ";" + repeat("ware 1 0", 6) + ";strict";
            VerseCustoms x = told(told);
            due(x.year(), 18 - 2 * Math.min(uses, 6));
            due(x.year(), 18 - 2 * Math.min(uses, 6));
            due(x.rhyme(4, 0), 0);
            lay(x, 0);
            x.declare(5, 0);
            due(x.year(), 15 - 2 * Math.min(Math.max(uses - 1, 0), 5));
            x.declare(4, 0);
            due(x.year(), 12 - 2 * Math.min(Math.max(uses - 2, 0), 4));
        }
        VerseCustoms x = told("false 1 1 4;free 1 4;port 0 4;uses 4 0;" + repeat("ware 1 0", 6) + ";strict");
        due(x.year(), 6);
        x = told("free 1 4;false 1 1 4;port 0 4;uses 4 2;" + repeat("ware 1 0", 6) + ";strict");
        due(x.year(), 2 + 12);
    }

    private static void yearByNumbers() {
        sentence("by their numbers; wear goes on");
        VerseCustoms x = told("plain 1 1 0;uses 0 2;ware 4 0;ware 5 0;ware 3 0;ware 2 0;ware 1 0;strict");
        due(x.year(), 4 + 15 + 3 + 6 + 3);
        x.prose(0);
        due(x.year(), 15 + 3 + 2 + 3);
        x = told("plain 1 1 0;plain 1 1 1;port 1 1;uses 0 1;uses 1 1;ware 2 0;ware 2 1;ware 3 0;ware 3 1;strict");
        due(x.year(), 2 + 2 + 9 + 9);
    }

    private static void yearFirstClerk() {
        sentence("each declared in verse while there is a SHORTEST for it and CLERK 0");
        String told = "elided 2 1 0;plain 4 1 1;ware 3 0;ware 4 0;";
        due(told(told + "strict;slurring").year(), 9 + 4);
        due(told(told + "slurring;strict").year(), 3 + 4);
        due(told(told + "deaf;slurring").year(), 9 + 4);
        VerseCustoms x = told("elided 2 1 0;plain 4 1 1;ware 4 0;ware 4 1;uses 1 1;deaf;strict");
        due(x.year(), 4 + 12);
        due(told("elided 2 1 0;plain 4 1 1;ware 4 0;ware 4 1;uses 1 1;strict").year(), 4 + 4);
        due(told("plain 1 1 0;ware 4 0;ware 5 0;strict;rising").year(), 12 + 15);
        due(told("plain 1 1 0;ware 4 0;ware 5 0;strict").year(), 4 + 15);
    }

    private static void yearRefused() {
        sentence("YEAR. NOT: there are no CLERKS.");
        still(x -> { }, x -> x.year(), NOT);
        still(x -> { tell(x, "plain 1 1 0;ware 1 0"); lay(x, 0); x.day(); }, x -> x.year(), NOT);
        still(x -> tell(x, "deaf"), x -> x.year(), 0);
        still(x -> { busy(x); x.erase(); tell(x, "customs"); }, x -> x.year(), NOT);
    }
}
