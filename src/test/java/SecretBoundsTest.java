/** Promises 33 to 37, sentence by sentence: where the document names a boundary of what was counted, and of count. */
public final class SecretBoundsTest extends Bench {
    public static void main(String[] args) {
        secretOfOneToThree();
        nothingCounted();
        secretRefused();
        sixCounted();
        countedSoMany();
        countedNot();
        countedRefused();
        canBeAllLines();
        canBeSo();
        canBeNoMetre();
        waresThatPass();
        noClerkZero();
        canBeRefused();
        firstLine();
        sharedWords();
        canBeWordPlaces();
        noneAnyMore();
        canBeWordRefused();
        countsOfAll();
        countRefused();
        lastCalls();
        end();
    }

    private static void secretOfOneToThree() {
        sentence("of one secret LINE of n WORDS (told with the first; 1 .. 3)");
        VerseCustoms x = told("plain 1 1 0;plain 2 1 0");
        for (int n = 1; n <= 3; n++) {
            due(x.secret(n), 0);
            due(x.canBe(0), 1 << n);
            for (int i = 0; i < 4; i++) due(x.canBeWord(i, 0), i < n ? 0 : NONE);
        }
        due(x.secret(1), 0);
        due(x.canBe(0), 2);
        x = told(repeat("free 4 0", 9) + ";strict");
        x.secret(3);
        due(x.canBe(0), 729);
        x.counted(0, 12);
        due(x.canBe(0), 729);
        x.counted(0, 24);
        due(x.canBe(0), 0);
    }

    private static void nothingCounted() {
        sentence("The secret LINE has n WORDS, nothing is COUNTED of it: how many there were.");
        VerseCustoms x = told("free 2 0;strict");
        due(x.secret(2), 0);
        for (int had = 0; had <= 6; had++) {
            for (int i = 0; i < had; i++) due(x.counted(0, 3), i + 1);
            due(x.canBe(0), had == 0 ? 1 : 0);
            due(x.secret(2), had);
            due(x.count(8), 0);
            due(x.canBe(0), 1);
        }
        due(x.counted(0, 4), 1);
        due(x.canBe(0), 1);
        due(x.secret(2), 1);
        still(y -> { busy(y); y.secret(1); }, y -> y.secret(1), 0);
    }

    private static void secretRefused() {
        sentence("how many there were. OUTSIDE: n.");
        for (int n : new int[] {0, 4, 5, -1}) {
            still(x -> x.secret(n), OUTSIDE);
            still(x -> { }, x -> x.secret(n), OUTSIDE);
            still(x -> tell(x, "free 1 0;strict"), x -> x.secret(n), OUTSIDE);
        }
        for (int far : FAR) still(x -> x.secret(far), OUTSIDE);
        due(made(x -> x.secret(0)).canBe(0), NOT);
    }

    private static void sixCounted() {
        sentence("COUNTED, 6 at most");
        Calls six = x -> { busy(x); for (int i = 0; i < 4; i++) x.counted(0, 4); };
        VerseCustoms x = made(Bench::busy);
        for (int i = 3; i <= 6; i++) due(x.counted(0, 4), i);
        due(x.counted(0, 4), FULL);
        due(x.count(8), 6);
        for (int many : new int[] {0, 4, 24}) {
            for (int c = 0; c < 3; c++) {
                int clerk = c;
                still(six, y -> y.counted(clerk, many), FULL);
            }
        }
        still(six, y -> y.counted(3, 4), UNKNOWN);
        still(six, y -> y.counted(-1, 25), UNKNOWN);
        still(six, y -> y.counted(0, 25), OUTSIDE);
        still(six, y -> y.counted(0, -1), OUTSIDE);
        due(x.secret(2), 6);
        due(x.counted(0, 4), 1);
        x = told("plain 1 1 0;plain 2 1 0;strict");
        x.secret(1);
        for (int i = 0; i < 5; i++) x.counted(0, 1);
        due(x.canBe(0), 1);
        due(x.counted(0, 2), 6);
        due(x.canBe(0), 0);
    }

    private static void countedSoMany() {
        sentence("a CLERK (by number) COUNTED so many (0 .. 24)");
        for (int many = 0; many <= 24; many++) {
            VerseCustoms x = told("elided 1 1 0;plain 4 1 0;strict;slurring");
            x.secret(3);
            due(x.counted(0, many), 1);
            due(x.canBe(0), many == 3 || many == 12 ? 1 : many == 6 || many == 9 ? 3 : 0);
            due(x.counted(1, 24), 2);
            due(x.canBe(0), 0);
        }
        for (int many : new int[] {-1, 25, 26, LEAST, MOST}) {
            for (int c = 0; c < 3; c++) {
                int clerk = c;
                still(x -> x.counted(clerk, many), OUTSIDE);
            }
        }
        for (int far : FAR) still(x -> x.counted(0, far), OUTSIDE);
        due(made(Bench::busy).counted(0, 0), 3);
        due(made(Bench::busy).counted(0, 24), 3);
    }

    private static void countedNot() {
        sentence("NOT: no secret() since the last text");
        Calls none = x -> tell(x, "free 2 0;strict");
        still(none, x -> x.counted(0, 4), NOT);
        still(none, x -> x.counted(0, 25), OUTSIDE);
        still(none, x -> x.counted(0, -1), OUTSIDE);
        still(none, x -> x.counted(1, 4), UNKNOWN);
        still(none, x -> x.counted(1, 25), UNKNOWN);
        Calls again = x -> { busy(x); x.erase(); tell(x, "none"); };
        still(again, x -> x.counted(0, 4), NOT);
        still(again, x -> x.canBe(0), NOT);
        still(again, x -> x.canBeWord(0, 0), NOT);
        still(x -> { none.on(x); x.secret(0); x.secret(4); }, x -> x.counted(0, 4), NOT);
        VerseCustoms x = made(Bench::busy);
        x.erase();
        due(tell(x, "nonesuch"), NOT);
        due(x.counted(0, 4), 3);
        due(x.back(0), 0);
        due(x.undo(), NOT);
        due(x.counted(0, 4), 4);
        x.erase();
        due(x.counted(0, 4), 5);
    }

    private static void countedRefused() {
        sentence("COUNTED: how many. UNKNOWN; OUTSIDE; NOT: no secret() since the last text; FULL.");
        for (int clerk : new int[] {3, 4, -1}) {
            for (int many : new int[] {0, 24, 25, -1}) {
                still(x -> x.counted(clerk, many), UNKNOWN);
                still(x -> { }, x -> x.counted(clerk, many), UNKNOWN);
            }
        }
        for (int far : FAR) {
            still(x -> x.counted(far, 4), UNKNOWN);
            due(made(Bench::busy).counted(far, far), UNKNOWN);
        }
        still(x -> { }, x -> x.counted(0, 0), UNKNOWN);
        still(x -> x.secret(1), x -> x.counted(0, 0), UNKNOWN);
    }

    private static void canBeAllLines() {
        sentence("CAN BE: LINES by which all is so: how many");
        for (int n = 1; n <= 3; n++) {
            int words = n;
            still(x -> x.secret(words), x -> x.canBe(0), 0);
            still(x -> x.secret(words), x -> x.canBe(1), 0);
            still(x -> { tell(x, "deaf;ware 1 0"); x.secret(words); }, x -> x.canBe(0), 0);
            still(x -> { tell(x, "deaf;ware 1 0"); x.secret(words); }, x -> x.canBeWord(0, 0), NONE);
            still(x -> { tell(x, "free 1 0"); x.secret(words); }, x -> x.canBe(0), 1);
            still(x -> { tell(x, repeat("free 1 0", 9)); x.secret(words); }, x -> x.canBe(0), n == 1 ? 9 : n == 2 ? 81 : 729);
        }
    }

    private static void canBeSo() {
        sentence("by which all is so");
        VerseCustoms x = told("elided 2 1 0;plain 2 1 0;plain 1 1 0;strict;slurring;deaf");
        x.secret(2);
        due(x.canBe(0), 9);
        x.counted(0, 4);
        due(x.canBe(0), 4);
        x.counted(2, 4);
        due(x.canBe(0), 4);
        x.counted(1, 3);
        due(x.canBe(0), 2);
        x.counted(1, 3);
        due(x.canBe(0), 2);
        x.counted(2, 3);
        due(x.canBe(0), 0);
        x.secret(1);
        x.counted(1, 2);
        due(x.canBe(0), 2);
        x.counted(0, 2);
        due(x.canBe(0), 2);
        x.counted(0, 0);
        due(x.canBe(0), 0);
        x.secret(3);
        x.counted(1, 3);
        due(x.canBe(0), 4);
        x.counted(0, 5);
        due(x.canBe(0), 1);
        due(x.canBeWord(0, 1), 0);
        due(x.canBeWord(1, 1), 0);
        due(x.canBeWord(2, 1), 2);
    }

    private static void canBeNoMetre() {
        sentence("LINES by which all is so");
        VerseCustoms x = told("plain 1 1 0;strict;rising;ware 2 0");
        x.secret(2);
        x.counted(0, 2);
        due(x.canBe(0), 1);
        due(x.canBeWord(1, 1), 0);
        due(x.canBe(1), 0);
    }

    private static void waresThatPass() {
        sentence("WARES for which some of these PASSES CLERK 0");
        String told = "elided 2 1 0;plain 2 1 1;port 1 1;ware 2 0;ware 2 1;ware 4 0;ware 4 1;ware 3 0;ware 3 1;";
        VerseCustoms x = told(told + "strict;slurring");
        x.secret(2);
        due(x.canBe(1), 12);
        x.counted(1, 3);
        due(x.canBe(1), 12);
        x.counted(1, 4);
        due(x.canBe(1), 0);
        x.secret(1);
        due(x.canBe(1), 3);
        x.secret(3);
        due(x.canBe(1), 0);
        x = told(told + "slurring;strict");
        x.secret(2);
        due(x.canBe(1), 60);
        x.counted(1, 4);
        due(x.canBe(1), 60);
        x.counted(0, 4);
        due(x.canBe(1), 12);
        x = told("plain 1 1 3;" + repeat("ware 1 0", 6) + ";deaf;uses 3 0");
        x.secret(1);
        due(x.canBe(1), 63);
        x.prose(0);
        x.declare(1, 0);
        due(x.canBe(1), 63);
        x.counted(0, 1);
        due(x.canBe(1), 63);
        x.counted(0, 2);
        due(x.canBe(1), 0);
    }

    private static void noClerkZero() {
        sentence("CAN BE: how many (what 0), WARES, by bits (1).");
        Calls noClerk = x -> { tell(x, "free 1 0;ware 1 0"); x.secret(1); };
        still(noClerk, x -> x.canBe(0), 1);
        still(noClerk, x -> x.canBe(1), 0);
        still(x -> { tell(x, "free 1 0;deaf"); x.secret(1); }, x -> x.canBe(1), 0);
        still(x -> { tell(x, "free 1 0;ware 1 0;deaf"); x.secret(1); }, x -> x.canBe(1), 1);
    }

    private static void canBeRefused() {
        sentence("WARES, by bits (1). OUTSIDE; NOT: as counted().");
        Calls none = x -> tell(x, "free 2 0;strict");
        for (int what : new int[] {2, 3, -1}) {
            still(x -> x.canBe(what), OUTSIDE);
            still(none, x -> x.canBe(what), OUTSIDE);
            still(x -> { }, x -> x.canBe(what), OUTSIDE);
        }
        for (int far : FAR) still(x -> x.canBe(far), OUTSIDE);
        for (int what = 0; what < 2; what++) {
            int asked = what;
            still(none, x -> x.canBe(asked), NOT);
            still(x -> { }, x -> x.canBe(asked), NOT);
            still(x -> { busy(x); x.erase(); tell(x, "none"); }, x -> x.canBe(asked), NOT);
        }
        still(x -> x.canBe(0), 5);
    }

    private static void firstLine() {
        sentence("how many; the first; WORDS that stand at a place in all of these, or none");
        VerseCustoms x = told("plain 3 1 0;plain 1 1 0;plain 2 1 0;plain 2 1 0;strict");
        x.secret(2);
        x.counted(0, 4);
        due(x.canBe(0), 6);
        due(x.canBeWord(0, 0), 0);
        due(x.canBeWord(1, 0), 1);
        x.secret(2);
        x.counted(0, 3);
        due(x.canBe(0), 4);
        due(x.canBeWord(0, 0), 1);
        due(x.canBeWord(1, 0), 2);
        x.secret(3);
        x.counted(0, 7);
        due(x.canBeWord(0, 0), 0);
        due(x.canBeWord(1, 0), 0);
        due(x.canBeWord(2, 0), 1);
        x.secret(1);
        x.counted(0, 2);
        due(x.canBeWord(0, 0), 2);
    }

    private static void sharedWords() {
        sentence("WORDS that stand at a place in all of these, or none");
        VerseCustoms x = told("elided 1 1 0;plain 1 1 0;plain 3 1 0;strict;slurring");
        x.secret(3);
        x.counted(0, 9);
        for (int i = 0; i < 3; i++) due(x.canBeWord(i, 1), 2);
        x.secret(3);
        x.counted(0, 7);
        x.counted(1, 6);
        due(x.canBe(0), 2);
        int[] shared = {NONE, NONE, 2};
        for (int i = 0; i < 3; i++) due(x.canBeWord(i, 1), shared[i]);
        int[] first = {0, 2, 2};
        for (int i = 0; i < 3; i++) due(x.canBeWord(i, 0), first[i]);
        x.secret(2);
        x.counted(1, 3);
        x.counted(0, 4);
        due(x.canBe(0), 1);
        due(x.canBeWord(0, 1), 0);
        due(x.canBeWord(1, 1), 2);
        x.secret(2);
        x.counted(0, 2);
        x.counted(1, 1);
        due(x.canBe(0), 2);
        due(x.canBeWord(0, 1), 0);
        due(x.canBeWord(1, 1), NONE);
        due(x.canBeWord(1, 0), 0);
        x.secret(1);
        due(x.canBeWord(0, 1), NONE);
    }

    private static void canBeWordPlaces() {
        sentence("NONE: there is none, not so many, not the same.");
        for (int i : new int[] {0, 1, 2, 3, 5, 6, 100, MOST}) {
            Calls one = x -> { tell(x, "plain 1 1 0;plain 3 1 0;strict"); x.secret(2); x.counted(0, 6); };
            still(one, x -> x.canBeWord(i, 0), i < 2 ? 1 : NONE);
            still(one, x -> x.canBeWord(i, 1), i < 2 ? 1 : NONE);
            Calls two = x -> { tell(x, "plain 1 1 0;plain 3 1 0;strict"); x.secret(2); x.counted(0, 4); };
            still(two, x -> x.canBeWord(i, 0), i < 2 ? i : NONE);
            still(two, x -> x.canBeWord(i, 1), NONE);
            Calls none = x -> { tell(x, "plain 1 1 0;plain 3 1 0;strict"); x.secret(2); x.counted(0, 5); };
            still(none, x -> x.canBeWord(i, 0), NONE);
            still(none, x -> x.canBeWord(i, 1), NONE);
            Calls three = x -> { tell(x, "plain 1 1 0;strict"); x.secret(3); };
            still(three, x -> x.canBeWord(i, 1), i < 3 ? 0 : NONE);
        }
        VerseCustoms x = told("plain 1 1 0;plain 3 1 0;strict");
        x.secret(3);
        due(x.canBeWord(2, 0), 0);
        x.secret(1);
        due(x.canBeWord(1, 0), NONE);
        due(x.canBeWord(2, 1), NONE);
    }

    private static void noneAnyMore() {
        sentence("NONE: there is none");
        VerseCustoms x = told("plain 1 1 0;plain 3 1 0;ware 6 0;strict");
        x.secret(2);
        x.counted(0, 6);
        for (int i = 0; i < 2; i++) for (int all = 0; all < 2; all++) due(x.canBeWord(i, all), 1);
        due(x.canBe(1), 1);
        x.counted(0, 2);
        for (int i = 0; i < 2; i++) for (int all = 0; all < 2; all++) due(x.canBeWord(i, all), NONE);
        due(x.canBe(0), 0);
        due(x.canBe(1), 0);
    }

    private static void canBeWordRefused() {
        sentence("not the same. OUTSIDE: i below 0, all; NOT: as counted().");
        Calls none = x -> tell(x, "free 2 0;strict");
        for (Calls when : new Calls[] {Bench::busy, none, x -> { }}) {
            for (int all : new int[] {0, 1, 2, -1}) {
                for (int i : new int[] {-1, -2, LEAST}) still(when, x -> x.canBeWord(i, all), OUTSIDE);
            }
            for (int i : new int[] {0, 1, 9, MOST}) {
                for (int all : new int[] {2, 3, -1, LEAST, MOST}) still(when, x -> x.canBeWord(i, all), OUTSIDE);
            }
        }
        for (int far : FAR) still(x -> x.canBeWord(0, far), OUTSIDE);
        for (int i : new int[] {0, 1, 9, MOST}) {
            still(none, x -> x.canBeWord(i, 0), NOT);
            still(x -> { }, x -> x.canBeWord(i, 1), NOT);
        }
    }

    private static void countsOfAll() {
        sentence("0 WORDS, 1 WARES, 2 CLERKS, 3 METRE, 4 the DAY, 5 what was paid, 6 WARES not declared, by bits,"
            + " 7 WORDS of THE LINE, 8 COUNTED, 9 how many can be undone, 10 letters of THE TEXT.");
        int[] all = {4, 4, 3, 0, 4, 13, 8, 2, 2, 4, 10};
        for (int what = 0; what <= 10; what++) {
            int asked = what;
            still(x -> x.count(asked), all[what]);
            still(x -> { }, x -> x.count(asked), 0);
        }
        VerseCustoms x = told("falling;" + repeat("free 1 0", 9));
        tell(x, repeat("ware 12 0", 6) + ";deaf;deaf;deaf");
        due(x.count(6), 63);
        for (int w = 0; w < 6; w++) {
            x.prose(w);
            due(x.count(6), 63 - (2 << w) + 1);
        }
        days(x, 93);
        for (int i = 0; i < 6; i++) x.put(i);
        x.secret(3);
        for (int i = 0; i < 6; i++) x.counted(0, i);
        write(x, "x".repeat(160));
        int[] most = {9, 6, 3, 2, 99, 216, 0, 6, 6, 8, 160};
        for (int what = 0; what <= 10; what++) due(x.count(what), most[what]);
    }

    private static void countRefused() {
        sentence("10 letters of THE TEXT. OUTSIDE.");
        for (int what : new int[] {-1, 11, 12}) {
            still(x -> x.count(what), OUTSIDE);
            still(x -> { }, x -> x.count(what), OUTSIDE);
        }
        for (int far : FAR) still(x -> x.count(far), OUTSIDE);
    }

    private static void lastCalls() {
        sentence("An object is used for at most 512 calls after it has been made");
        VerseCustoms x = new VerseCustoms();
        for (int i = 0; i < 127; i++) {
            due(x.day(), 1);
            due(x.write(' '), 1);
            due(x.undo(), 0);
            due(x.erase(), 1);
        }
        due(x.undo(), NOT);
        due(x.day(), 1);
        due(x.undo(), 0);
        due(x.count(4), 0);
    }
}
