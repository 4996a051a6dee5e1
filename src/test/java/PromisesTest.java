/** Each promise of ../shared/DOC.md: ordinary inputs, the edges that it names, wrong inputs. */
public final class PromisesTest {
    private static final int NONE = -1, UNKNOWN = -2, OUTSIDE = -3, NOT = -4, FULL = -5;
    private static final int[] FAR = {Integer.MIN_VALUE, -2, -1, 99, Integer.MAX_VALUE};

    private static int wrong = 0, promise = 0, nth = 0;

    public static void main(String[] args) {
        newObject();
        write();
        erase();
        faultAtTokens();
        faultAtNumbers();
        faultAtEnds();
        faultAtTooMany();
        customs();
        customsForgets();
        word();
        ware();
        clerk();
        rhyme();
        as();
        clerkAs();
        putWipeLine();
        counts();
        scans();
        passes();
        declare();
        declareWornOut();
        prose();
        day();
        undo();
        keepAndBack();
        shortest();
        shortestWord();
        forAll();
        hidden();
        altered();
        laden();
        left();
        odds();
        year();
        secret();
        counted();
        canBe();
        canBeWord();
        count();
        System.out.println(wrong == 0 ? "all promises hold" : wrong + " answers are not as due");
        if (wrong != 0) System.exit(1);
    }

    private static void promise(int number) {
        promise = number;
        nth = 0;
    }

    private static void due(int answer, int due) {
        nth++;
        if (answer == due) return;
        wrong++;
        System.out.println("promise " + promise + ", check " + nth + ": answered " + answer + ", due is " + due);
    }

    private static void write(VerseCustoms x, String text) {
        for (int i = 0; i < text.length(); i++) x.write(text.charAt(i));
    }

    private static int tell(VerseCustoms x, String text) {
        write(x, text);
        return x.customs();
    }

    private static VerseCustoms told(String text) {
        VerseCustoms x = new VerseCustoms();
        if (tell(x, text) < 1) throw new IllegalStateException("a test's text has a fault: " + text);
        return x;
    }

    private static int faultOf(String text) {
        VerseCustoms x = new VerseCustoms();
        write(x, text);
        return x.fault();
    }

    private static void lay(VerseCustoms x, int... words) {
        x.wipe();
        for (int word : words) x.put(word);
    }

    private static void newObject() {
        promise(1);
        VerseCustoms x = new VerseCustoms();
        for (int what = 0; what <= 10; what++) due(x.count(what), 0);
        due(x.word(0, 0), UNKNOWN);
        due(x.ware(0, 0), UNKNOWN);
        due(x.clerk(0), UNKNOWN);
        for (int r = 0; r < 6; r++) {
            due(x.rhyme(r, 0), 0);
            due(x.rhyme(r, 1), 3);
            due(x.rhyme(r, 2), r == 0 ? 15 : 0);
        }
        due(x.back(0), NOT);
        due(x.canBe(0), NOT);
    }

    private static void write() {
        promise(2);
        VerseCustoms x = new VerseCustoms();
        due(x.write(0), 1);
        due(x.write(255), 2);
        due(x.write(-1), OUTSIDE);
        due(x.write(256), OUTSIDE);
        due(x.count(10), 2);
        for (int i = 3; i <= 160; i++) due(x.write('a'), i);
        due(x.write('a'), FULL);
        due(x.write(256), OUTSIDE);
        due(x.count(10), 160);
    }

    private static void erase() {
        promise(3);
        VerseCustoms x = new VerseCustoms();
        due(x.erase(), 0);
        write(x, "strict");
        due(x.erase(), 6);
        due(x.count(10), 0);
        due(x.erase(), 0);
        for (int i = 0; i < 160; i++) x.write(' ');
        due(x.erase(), 160);
        due(x.write('d'), 1);
    }

    private static void faultAtTokens() {
        promise(4);
        due(faultOf("deaf"), NONE);
        due(faultOf("  deaf  "), NONE);
        due(faultOf("plain2 2 1;free1 0"), NONE);
        due(faultOf("plain 02 01 05 ; none"), NONE);
        due(faultOf("sonnet"), 0);
        due(faultOf(" deafs"), 1);
        due(faultOf("dea"), 0);
        due(faultOf("Deaf"), 0);
        due(faultOf("deaf strict"), 5);
        due(faultOf("deaf 1"), 5);
        due(faultOf("deaf,strict"), 4);
        due(faultOf("deaf\tstrict"), 4);
        due(faultOf("deaf\u00e9"), 4);
        due(faultOf("1"), 0);
        due(faultOf("; deaf"), 0);
        due(faultOf("deaf ;; deaf"), 6);
        due(faultOf("plain 1;"), 7);
        due(faultOf("plain 1 -1 2"), 8);
        due(faultOf("plain strict"), 6);
    }

    private static void faultAtNumbers() {
        promise(4);
        nth = 100;
        due(faultOf("plain 0 1 1"), 6);
        due(faultOf("plain 5 1 1"), 6);
        due(faultOf("plain 4 4 5"), NONE);
        due(faultOf("plain 2 0 1"), 8);
        due(faultOf("elided 2 3 1"), 9);
        due(faultOf("false 2 2 6"), 10);
        due(faultOf("free 4 5"), NONE);
        due(faultOf("free 5 5"), 5);
        due(faultOf("free 4 6"), 7);
        due(faultOf("free 2 2 2"), 9);
        due(faultOf("port 3 5"), NONE);
        due(faultOf("port 4 5"), 5);
        due(faultOf("port 3 6"), 7);
        due(faultOf("ware 12 3"), NONE);
        due(faultOf("ware 13 3"), 5);
        due(faultOf("ware 0 3"), 5);
        due(faultOf("ware 1 4"), 7);
        due(faultOf("ware 012 3"), 5);
        due(faultOf("ware 99999999999 3"), 5);
        due(faultOf("uses 5 9"), NONE);
        due(faultOf("uses 0 0"), NONE);
        due(faultOf("uses 6 0"), 5);
        due(faultOf("uses 5 10"), 7);
    }

    private static void faultAtEnds() {
        promise(4);
        nth = 200;
        due(faultOf(""), 0);
        due(faultOf("   "), 3);
        due(faultOf("deaf;"), 5);
        due(faultOf("deaf; "), 6);
        due(faultOf("plain 2 2"), 9);
        due(faultOf("port 1  "), 8);
        due(faultOf("uses"), 4);
    }

    private static void faultAtTooMany() {
        promise(4);
        nth = 300;
        String none13 = "none;none;none;none;none;none;none;none;none;none;none;none;none";
        due(faultOf(none13 + ";none"), NONE);
        due(faultOf(none13 + ";none;none"), 69);
        due(faultOf(none13 + ";none none"), 70);
        due(faultOf("deaf;deaf;deaf;deaf"), 15);
        due(faultOf("deaf;deaf;deaf;customs;deaf"), NONE);
        String nine = "free1 0;free1 0;free1 0;free1 0;free1 0;free1 0;free1 0;free1 0;free1 0";
        due(faultOf(nine), NONE);
        due(faultOf(nine + "; plain 9"), 73);
        String six = "ware1 0;ware1 0;ware1 0;ware1 0;ware1 0;ware1 0";
        due(faultOf(six + ";ware1 0"), 48);
        VerseCustoms x = told(nine);
        write(x, "deaf;free 1 0");
        due(x.fault(), 5);
        due(x.fault(), 5);
        x.erase();
        write(x, "customs;free 1 0");
        due(x.fault(), NONE);
        due(x.count(0), 9);
    }

    private static void customs() {
        promise(5);
        VerseCustoms x = new VerseCustoms();
        due(x.customs(), NOT);
        due(tell(x, "plain 2 1 3;elided 4 4 0;false 1 1 5;free 3 2;port 2 3;ware 7 2;slurring;rising;uses 3 9"), 9);
        due(x.count(10), 0);
        due(x.customs(), NOT);
        due(x.count(0), 4);
        due(x.count(1), 1);
        due(x.count(2), 1);
        due(x.count(3), 1);
        due(x.rhyme(3, 2), 4);
        due(x.rhyme(0, 2), 11);
        due(x.rhyme(3, 1), 9);
        due(tell(x, "deaf;ware 1 0;deafer"), NOT);
        due(x.count(10), 20);
        due(x.count(2), 1);
        x.erase();
        due(tell(x, "falling;plain 1 1 1"), 2);
        due(x.count(0), 5);
        due(x.count(3), 2);
        due(x.rhyme(3, 1), 9);
        due(tell(x, "strict;customs;plain 1 1 1"), 3);
        due(x.count(0), 1);
        due(x.count(1), 0);
        due(x.count(2), 0);
        due(x.count(3), 0);
        due(x.rhyme(0, 2), 15);
        due(x.rhyme(3, 1), 3);
    }

    private static void customsForgets() {
        promise(5);
        nth = 100;
        VerseCustoms x = told("plain 2 1 0;ware 2 0;ware 1 0;strict");
        lay(x, 0);
        due(x.declare(0, 0), 2);
        x.prose(1);
        x.keep(0);
        x.keep(1);
        x.secret(2);
        x.counted(0, 4);
        due(tell(x, "rising"), 1);
        for (int what = 4; what <= 10; what++) due(x.count(what), what == 6 ? 3 : 0);
        due(x.rhyme(0, 0), 0);
        due(x.ware(0, 2), 0);
        due(x.undo(), NOT);
        due(x.back(0), NOT);
        due(x.back(1), NOT);
        due(x.counted(0, 0), NOT);
        due(x.canBe(0), NOT);
        due(x.canBeWord(0, 0), NOT);
    }

    private static void word() {
        promise(6);
        VerseCustoms x = told("plain 3 2 1;elided 4 4 0;false 1 1 5;free 3 2");
        int[][] words = {{0, 3, 2, 1}, {1, 4, 4, 0}, {2, 1, 1, 5}, {3, 3, 1, 2}};
        for (int w = 0; w < 4; w++) {
            for (int what = 0; what < 4; what++) due(x.word(w, what), words[w][what]);
        }
        due(x.word(4, 0), UNKNOWN);
        due(x.word(4, 4), UNKNOWN);
        due(x.word(0, 4), OUTSIDE);
        due(x.word(0, -1), OUTSIDE);
        for (int far : FAR) due(x.word(far, 0), UNKNOWN);
    }

    private static void ware() {
        promise(7);
        VerseCustoms x = told("ware 12 3;ware 1 0;ware 5 2;strict;free 1 0");
        due(x.ware(0, 0), 12);
        due(x.ware(0, 1), 3);
        due(x.ware(0, 2), 0);
        due(x.ware(2, 0), 5);
        due(x.ware(2, 1), 2);
        x.declare(0, 0);
        due(x.ware(0, 2), 2);
        x.put(0);
        x.declare(1, 0);
        due(x.ware(1, 2), 1);
        x.prose(2);
        due(x.ware(2, 2), 3);
        due(x.ware(3, 0), UNKNOWN);
        due(x.ware(0, 3), OUTSIDE);
        due(x.ware(0, -1), OUTSIDE);
        for (int far : FAR) due(x.ware(far, 9), UNKNOWN);
    }

    private static void clerk() {
        promise(8);
        VerseCustoms x = told("deaf;slurring;strict");
        due(x.clerk(0), 2);
        due(x.clerk(1), 1);
        due(x.clerk(2), 0);
        due(x.clerk(3), UNKNOWN);
        for (int far : FAR) due(x.clerk(far), UNKNOWN);
    }

    private static void rhyme() {
        promise(9);
        VerseCustoms x = told("port 1 4;port 3 4;uses 4 1;uses 0 0;plain 2 1 4;ware 2 1;strict");
        due(x.rhyme(4, 2), 10);
        due(x.rhyme(0, 2), 5);
        due(x.rhyme(4, 1), 1);
        due(x.rhyme(0, 1), 0);
        due(x.rhyme(5, 1), 3);
        due(x.rhyme(4, 0), 0);
        lay(x, 0);
        x.declare(0, 0);
        due(x.rhyme(4, 0), 1);
        due(x.rhyme(6, 0), UNKNOWN);
        due(x.rhyme(6, 3), UNKNOWN);
        due(x.rhyme(0, 3), OUTSIDE);
        due(x.rhyme(0, -1), OUTSIDE);
        for (int far : FAR) due(x.rhyme(far, 0), UNKNOWN);
    }

    private static void as() {
        promise(10);
        VerseCustoms x = told("plain 1 1 2;elided 1 1 2;false 1 1 2;free 1 2;port 1 2;port 3 2");
        int[] ports = {10, 10, 15, 10};
        String[] kinds = {"ab", "abc", "ad", "ade"};
        for (int w = 0; w < 4; w++) {
            for (int k = 0; k < 5; k++) due(x.as(w, k), kinds[w].indexOf('a' + k) >= 0 ? ports[w] : NOT);
        }
        due(x.as(4, 0), UNKNOWN);
        due(x.as(4, 5), UNKNOWN);
        due(x.as(0, 5), OUTSIDE);
        due(x.as(0, -1), OUTSIDE);
        for (int far : FAR) due(x.as(far, 0), UNKNOWN);
    }

    private static void clerkAs() {
        promise(11);
        VerseCustoms x = told("strict;slurring;deaf;elided 3 1 0");
        lay(x, 0, 0);
        int[] counts = {6, 5, 6};
        String[] kinds = {"ab", "ac", "abd"};
        for (int c = 0; c < 3; c++) {
            for (int k = 0; k < 4; k++) due(x.clerkAs(c, k), kinds[c].indexOf('a' + k) >= 0 ? counts[c] : NOT);
        }
        due(x.clerkAs(3, 0), UNKNOWN);
        due(x.clerkAs(3, 4), UNKNOWN);
        due(x.clerkAs(0, 4), OUTSIDE);
        due(x.clerkAs(0, -1), OUTSIDE);
        for (int far : FAR) due(x.clerkAs(far, 0), UNKNOWN);
    }

    private static void putWipeLine() {
        promise(12);
        VerseCustoms x = told("plain 1 1 0;plain 2 1 0;plain 3 1 0");
        for (int i = 0; i < 6; i++) due(x.put(i % 3), i + 1);
        due(x.put(0), FULL);
        due(x.put(3), UNKNOWN);
        for (int far : FAR) due(x.put(far), UNKNOWN);
        due(x.count(7), 6);
        promise(14);
        for (int i = 0; i < 6; i++) due(x.line(i), i % 3);
        due(x.line(6), OUTSIDE);
        for (int far : FAR) due(x.line(far), OUTSIDE);
        promise(13);
        due(x.wipe(), 6);
        due(x.wipe(), 0);
        due(x.line(0), OUTSIDE);
        due(x.put(2), 1);
        due(x.line(0), 2);
        due(x.line(1), OUTSIDE);
    }

    private static void counts() {
        promise(15);
        VerseCustoms x = told("elided 1 1 0;elided 4 4 0;plain 2 1 0;strict;slurring;deaf");
        due(x.counts(0), 0);
        due(x.counts(1), 0);
        lay(x, 0);
        due(x.counts(1), 1);
        lay(x, 0, 1, 2, 1);
        due(x.counts(0), 11);
        due(x.counts(1), 9);
        due(x.counts(2), 11);
        lay(x, 1, 1, 1, 1, 1, 1);
        due(x.counts(0), 24);
        due(x.counts(1), 19);
        due(x.counts(3), UNKNOWN);
        for (int far : FAR) due(x.counts(far), UNKNOWN);
    }

    private static void scans() {
        promise(16);
        VerseCustoms x = told("plain 2 2 0;plain 1 1 0;elided 2 1 0;free 1 0;false 2 1 0");
        lay(x, 0, 1, 2);
        due(x.scans(), 1);
        tell(x, "rising");
        due(x.scans(), 1);
        lay(x, 0, 0);
        due(x.scans(), 1);
        lay(x, 0, 1);
        due(x.scans(), 0);
        lay(x, 3, 1, 0);
        due(x.scans(), 1);
        lay(x, 4);
        due(x.scans(), 0);
        lay(x, 3, 2, 1);
        due(x.scans(), 1);
        lay(x, 3, 1, 1);
        due(x.scans(), 0);
        lay(x, 3, 2, 4);
        due(x.scans(), 1);
        tell(x, "falling");
        due(x.scans(), 1);
        lay(x, 3, 2, 4);
        due(x.scans(), 0);
        lay(x, 1, 0);
        due(x.scans(), 1);
        lay(x, 1, 1);
        due(x.scans(), 0);
        lay(x, 2, 1);
        due(x.scans(), 1);
        tell(x, "none");
        lay(x, 1, 1);
        due(x.scans(), 1);
    }

    private static void passes() {
        promise(17);
        VerseCustoms x = told("plain 2 2 1;elided 2 2 0;false 2 2 3;free 2 3;port 0 1;ware 4 0;ware 3 0;strict;slurring;deaf;rising");
        due(x.passes(0, 0), 0);
        lay(x, 1, 0);
        due(x.passes(0, 0), 1);
        due(x.passes(0, 1), 0);
        due(x.passes(0, 2), 1);
        due(x.passes(1, 0), 0);
        due(x.passes(1, 1), 1);
        lay(x, 0, 1);
        due(x.passes(0, 0), 0);
        due(x.passes(0, 2), 1);
        lay(x, 0, 2);
        due(x.passes(0, 0), 1);
        lay(x, 0, 3);
        due(x.passes(0, 0), 0);
        due(x.passes(0, 2), 1);
        tell(x, "falling");
        lay(x, 0, 0);
        due(x.passes(0, 2), 0);
        due(x.passes(2, 0), UNKNOWN);
        due(x.passes(0, 3), UNKNOWN);
        for (int far : FAR) {
            due(x.passes(far, 0), UNKNOWN);
            due(x.passes(0, far), UNKNOWN);
        }
    }

    private static void declare() {
        promise(18);
        VerseCustoms x = told("plain 2 1 0;ware 4 0;ware 2 0;ware 2 0;strict");
        lay(x, 0, 0);
        due(x.declare(0, 0), 4);
        due(x.count(4), 1);
        due(x.count(5), 4);
        due(x.rhyme(0, 0), 1);
        due(x.count(7), 2);
        due(x.declare(0, 0), NOT);
        due(x.declare(1, 0), 0);
        due(x.ware(1, 2), 2);
        due(x.rhyme(0, 0), 1);
        due(x.count(4), 2);
        due(x.count(5), 4);
        due(x.declare(1, 0), NOT);
        due(x.declare(3, 0), UNKNOWN);
        due(x.declare(0, 1), UNKNOWN);
        for (int far : FAR) due(x.declare(far, far), UNKNOWN);
        for (int day = 3; day <= 99; day++) x.day();
        due(x.declare(2, 0), FULL);
        due(x.declare(0, 0), NOT);
        due(x.ware(2, 2), 0);
        x.undo();
        lay(x, 0);
        due(x.declare(2, 0), 2);
        due(x.count(4), 99);
    }

    private static void declareWornOut() {
        promise(18);
        nth = 100;
        VerseCustoms x = told("plain 1 1 2;false 1 1 2;free 1 2;port 0 2;uses 2 1;ware 1 0;ware 1 0;ware 1 0;ware 1 0;strict;deaf");
        lay(x, 1);
        due(x.declare(0, 0), 1);
        due(x.rhyme(2, 0), 0);
        lay(x, 2);
        due(x.declare(1, 0), 1);
        due(x.rhyme(2, 0), 1);
        lay(x, 0);
        due(x.passes(2, 0), 1);
        due(x.declare(2, 1), 0);
        due(x.rhyme(2, 0), 1);
        lay(x, 1);
        due(x.declare(3, 0), 1);
        due(x.count(5), 3);
        x.undo();
        x.undo();
        lay(x, 2);
        due(x.declare(2, 0), 0);
        x = told("plain 1 1 5;uses 5 0;ware 1 0;deaf");
        lay(x, 0);
        due(x.declare(0, 0), 0);
        x = told("plain 1 1 5;ware 1 0;deaf");
        lay(x, 0);
        due(x.declare(0, 0), 1);
        due(x.rhyme(5, 0), 1);
    }

    private static void prose() {
        promise(19);
        VerseCustoms x = told("ware 12 0;ware 1 0;ware 7 3");
        due(x.prose(0), 36);
        due(x.ware(0, 2), 3);
        due(x.count(4), 1);
        due(x.prose(0), NOT);
        due(x.prose(1), 3);
        due(x.count(5), 39);
        due(x.rhyme(0, 0), 0);
        due(x.prose(3), UNKNOWN);
        for (int far : FAR) due(x.prose(far), UNKNOWN);
        for (int day = 3; day <= 99; day++) x.day();
        due(x.prose(2), FULL);
        due(x.prose(0), NOT);
        due(x.count(6), 4);
    }

    private static void day() {
        promise(20);
        VerseCustoms x = new VerseCustoms();
        for (int day = 1; day <= 99; day++) due(x.day(), day);
        due(x.day(), FULL);
        due(x.count(4), 99);
        due(x.count(9), 8);
        x.undo();
        due(x.day(), 99);
    }

    private static void undo() {
        promise(21);
        VerseCustoms x = told("plain 2 1 0;ware 2 0;ware 5 0;strict");
        due(x.undo(), NOT);
        lay(x, 0);
        x.declare(0, 0);
        x.prose(1);
        x.day();
        x.put(0);
        due(x.count(9), 3);
        due(x.undo(), 2);
        due(x.count(4), 2);
        due(x.undo(), 1);
        due(x.ware(1, 2), 0);
        due(x.count(5), 2);
        due(x.undo(), 0);
        due(x.ware(0, 2), 0);
        due(x.rhyme(0, 0), 0);
        due(x.count(5), 0);
        due(x.count(4), 0);
        due(x.count(7), 2);
        due(x.undo(), NOT);
        x.declare(0, 0);
        due(x.ware(0, 2), 2);
        x.declare(0, 0);
        due(x.undo(), 0);
        due(x.ware(0, 2), 0);
        for (int i = 0; i < 10; i++) x.day();
        for (int i = 7; i >= 0; i--) due(x.undo(), i);
        due(x.undo(), NOT);
        due(x.count(4), 2);
    }

    private static void keepAndBack() {
        promise(22);
        VerseCustoms x = told("plain 2 1 0;ware 2 0;ware 5 0;strict");
        due(x.keep(0), 0);
        lay(x, 0);
        x.declare(0, 0);
        due(x.keep(1), 1);
        due(x.count(9), 1);
        due(x.keep(2), UNKNOWN);
        for (int far : FAR) due(x.keep(far), UNKNOWN);
        promise(23);
        x.prose(1);
        x.secret(2);
        x.counted(0, 4);
        x.write('a');
        x.put(0);
        due(x.back(0), 0);
        due(x.count(5), 0);
        due(x.count(6), 3);
        due(x.rhyme(0, 0), 0);
        due(x.count(9), 0);
        due(x.undo(), NOT);
        due(x.count(7), 2);
        due(x.count(8), 1);
        due(x.count(10), 1);
        x.day();
        due(x.back(1), 1);
        due(x.rhyme(0, 0), 1);
        due(x.ware(0, 2), 1);
        due(x.count(5), 2);
        due(x.count(9), 0);
        due(x.back(1), 1);
        x.day();
        due(x.keep(1), 2);
        x.day();
        due(x.back(1), 2);
        due(x.back(0), 0);
        due(x.back(2), UNKNOWN);
        for (int far : FAR) due(x.back(far), UNKNOWN);
        x.erase();
        tell(x, "none");
        due(x.back(0), NOT);
        due(x.back(1), NOT);
        due(x.keep(1), 0);
        due(x.back(0), NOT);
        due(x.back(1), 0);
    }

    /** Words: 0 of two syllables, 1 of one, 2 of one that rhymes with port 1, 3 elided. */
    private static VerseCustoms someWords() {
        return told("plain 2 1 0;plain 1 1 0;plain 1 1 1;elided 3 1 0;port 1 1;ware 3 0;ware 12 1;ware 12 0;strict;slurring");
    }

    private static void shortest() {
        promise(24);
        VerseCustoms x = someWords();
        due(x.shortest(0, 0, 0), 1);
        due(x.shortest(0, 0, 1), 1);
        due(x.shortest(1, 0, 0), NONE);
        due(x.shortest(1, 0, 1), NONE);
        due(x.shortest(2, 0, 0), 4);
        due(x.shortest(2, 0, 1), 1);
        due(x.shortest(2, 1, 0), NONE);
        due(x.shortest(0, 1, 1), 1);
        due(x.shortest(3, 0, 0), UNKNOWN);
        due(x.shortest(0, 2, 0), UNKNOWN);
        due(x.shortest(3, 0, 5), UNKNOWN);
        due(x.shortest(0, 0, 2), OUTSIDE);
        due(x.shortest(0, 0, -1), OUTSIDE);
        x = told("plain 1 1 0;plain 2 1 0;ware 3 0;strict;uses 0 0");
        due(x.shortest(0, 0, 0), 2);
        due(x.shortest(0, 0, 1), 2);
        tell(x, "falling");
        due(x.shortest(0, 0, 1), 1);
        due(x.shortestWord(0, 0, 0), 1);
        x = told("plain 3 1 0;plain 3 1 1;free 3 2;false 3 1 5;ware 12 0;deaf;strict");
        due(x.shortest(0, 0, 1), 256);
        due(x.shortest(0, 1, 1), 128);
        x = told("ware 1 0;strict");
        due(x.shortest(0, 0, 0), NONE);
    }

    private static void shortestWord() {
        promise(25);
        VerseCustoms x = told("plain 1 1 0;plain 2 1 0;elided 4 1 0;ware 3 0;ware 12 0;ware 11 0;strict;slurring");
        due(x.shortestWord(0, 0, 0), 0);
        due(x.shortestWord(0, 0, 1), 1);
        due(x.shortestWord(0, 0, 2), NONE);
        due(x.shortestWord(0, 0, Integer.MAX_VALUE), NONE);
        due(x.shortestWord(1, 0, 0), 2);
        due(x.shortestWord(1, 1, 0), 1);
        due(x.shortestWord(1, 1, 1), 2);
        due(x.shortestWord(1, 1, 2), 2);
        due(x.shortestWord(1, 1, 3), 2);
        due(x.shortestWord(1, 1, 4), NONE);
        due(x.shortestWord(2, 0, 0), 0);
        due(x.shortestWord(2, 0, 1), 1);
        due(x.shortestWord(2, 0, 2), 2);
        due(x.shortestWord(2, 0, 3), 2);
        due(x.shortestWord(0, 0, -1), OUTSIDE);
        due(x.shortestWord(3, 0, -1), UNKNOWN);
        due(x.shortestWord(0, 2, 0), UNKNOWN);
        tell(x, "port 0 5");
        due(x.shortestWord(0, 0, 0), NONE);
    }

    private static void forAll() {
        promise(26);
        VerseCustoms x = someWords();
        due(x.forAll(0, 0), 1);
        due(x.forAll(0, 1), 1);
        due(x.forAll(2, 0), NONE);
        due(x.forAll(2, 1), NONE);
        due(x.forAll(3, 0), UNKNOWN);
        due(x.forAll(0, 2), OUTSIDE);
        due(x.forAll(0, -1), OUTSIDE);
        x = told("elided 2 1 0;plain 2 1 1;ware 4 0;strict;slurring;deaf");
        due(x.shortest(0, 0, 1), 2);
        due(x.forAll(0, 0), 2);
        due(x.forAll(0, 1), 1);
        x = told("elided 2 1 0;plain 2 1 1;ware 4 0;deaf;deaf");
        due(x.forAll(0, 1), 4);
        x = told("elided 2 1 0;ware 4 0");
        due(x.forAll(0, 0), NOT);
        due(x.forAll(0, 2), OUTSIDE);
        due(x.forAll(1, 2), UNKNOWN);
    }

    private static void hidden() {
        promise(27);
        VerseCustoms x = told("elided 1 1 0;plain 2 1 0");
        for (int n = 1; n <= 4; n++) due(x.hidden(n), n - 1);
        due(x.hidden(0), OUTSIDE);
        due(x.hidden(5), OUTSIDE);
        for (int far : FAR) due(x.hidden(far), OUTSIDE);
        tell(x, "falling");
        due(x.hidden(1), 0);
        due(x.hidden(2), 0);
        due(x.hidden(3), 0);
        tell(x, "rising");
        due(x.hidden(1), NONE);
        due(x.hidden(4), NONE);
        tell(x, "free 1 0");
        due(x.hidden(1), 0);
        due(x.hidden(2), 0);
        due(x.hidden(3), 1);
        due(x.hidden(4), 1);
        due(new VerseCustoms().hidden(1), NONE);
    }

    private static void altered() {
        promise(28);
        VerseCustoms x = told("plain 1 1 0;plain 2 1 0;plain 2 1 1;port 1 1;ware 4 0;ware 6 0;ware 12 1;strict;deaf");
        due(x.altered(0, 0, NONE), NONE);
        due(x.altered(0, 0, 0), NONE);
        lay(x, 1, 1);
        due(x.altered(0, 0, NONE), 0);
        due(x.altered(0, 0, 0), 1);
        due(x.altered(0, 0, 1), 1);
        due(x.altered(0, 0, 2), NONE);
        due(x.altered(1, 0, NONE), NONE);
        due(x.altered(1, 0, 0), NONE);
        lay(x, 2, 2, 2);
        due(x.altered(0, 0, NONE), 2);
        due(x.altered(0, 0, 0), 0);
        due(x.altered(0, 0, 1), 2);
        due(x.altered(0, 0, 2), 0);
        due(x.altered(0, 1, NONE), 2);
        due(x.altered(1, 0, NONE), 1);
        due(x.altered(1, 0, 2), 1);
        due(x.altered(1, 1, NONE), 0);
        lay(x, 0, 0, 0, 0, 0, 0);
        due(x.altered(2, 0, NONE), 6);
        due(x.altered(2, 0, 4), 1);
        due(x.altered(2, 0, 5), 2);
        due(x.altered(2, 0, 6), NONE);
        due(x.altered(2, 0, Integer.MAX_VALUE), NONE);
        due(x.altered(1, 1, NONE), 0);
        due(x.altered(0, 0, NONE), NONE);
        due(x.altered(0, 0, -2), OUTSIDE);
        due(x.altered(3, 0, -2), UNKNOWN);
        due(x.altered(0, 2, 0), UNKNOWN);
        due(x.count(7), 6);
        due(x.line(0), 0);
    }

    private static void laden() {
        promise(29);
        VerseCustoms x = told("ware 5 0;ware 4 0;ware 3 0;ware 3 0");
        due(x.laden(8, 0), 15);
        due(x.laden(8, 1), 5);
        due(x.laden(8, 2), 10);
        due(x.laden(6, 0), 11);
        due(x.laden(6, 1), 1);
        due(x.laden(6, 2), 12);
        due(x.laden(2, 0), 0);
        due(x.laden(2, 1), 0);
        due(x.laden(2, 2), 0);
        due(x.laden(72, 0), 15);
        due(x.laden(72, 1), 0);
        due(x.laden(72, 2), 15);
        x.prose(0);
        due(x.laden(72, 0), 15);
        due(x.laden(0, 0), OUTSIDE);
        due(x.laden(73, 0), OUTSIDE);
        due(x.laden(8, 3), OUTSIDE);
        due(x.laden(8, -1), OUTSIDE);
        due(new VerseCustoms().laden(1, 2), 0);
        x = told("ware 12 0;ware 12 0;ware 12 0;ware 12 0;ware 12 0;ware 12 0");
        due(x.laden(36, 0), 72);
        due(x.laden(36, 1), 7);
        due(x.laden(36, 2), 56);
        due(x.laden(24, 1), 3);
        due(x.laden(24, 2), 12);
    }

    private static void left() {
        promise(30);
        VerseCustoms x = told("port 1 1;port 2 1;uses 0 1;uses 1 2;ware 1 0;ware 1 0;ware 1 1;ware 2 2;ware 1 2;free 1 0;false 1 1 1;strict");
        due(x.left(0), 3);
        due(x.left(1), 0);
        lay(x, 0);
        due(x.declare(0, 0), 1);
        due(x.left(0), 2);
        due(x.left(1), 9);
        lay(x, 1);
        due(x.declare(2, 0), 1);
        due(x.left(0), 2);
        x.prose(3);
        due(x.left(0), 1);
        x.declare(4, 0);
        due(x.left(0), 0);
        due(x.left(1), 9);
        due(x.left(2), OUTSIDE);
        for (int far : FAR) due(x.left(far), OUTSIDE);
        x = told("uses 0 0;ware 1 0");
        due(x.left(0), 0);
        due(x.left(1), 15);
    }

    private static void odds() {
        promise(31);
        VerseCustoms x = told("plain 1 1 0;plain 1 1 1;plain 2 1 0;ware 2 0;ware 12 0;strict;deaf");
        due(x.odds(0, 0, 1, 0), 1);
        due(x.odds(0, 0, 1, 1), 3);
        due(x.odds(0, 0, 2, 0), 2);
        due(x.odds(0, 0, 2, 1), 9);
        due(x.odds(0, 1, 2, 0), 4);
        due(x.odds(0, 1, 2, 1), 9);
        due(x.odds(1, 0, 4, 0), 0);
        due(x.odds(1, 0, 4, 1), 1);
        due(x.odds(2, 0, 1, 0), UNKNOWN);
        due(x.odds(0, 2, 9, 0), UNKNOWN);
        due(x.odds(0, 0, 0, 0), OUTSIDE);
        due(x.odds(0, 0, 5, 0), OUTSIDE);
        due(x.odds(0, 0, 1, 2), OUTSIDE);
        due(x.odds(0, 0, 1, -1), OUTSIDE);
        x = told("plain 1 1 0;plain 1 1 1;ware 4 0;strict");
        due(x.odds(0, 0, 4, 0), 1);
        due(x.odds(0, 0, 4, 1), 2);
        x = told("plain 1 1 0;ware 1 0;strict");
        due(x.odds(0, 0, 1, 0), 1);
        due(x.odds(0, 0, 1, 1), 1);
        x = told("ware 1 0;strict");
        due(x.odds(0, 0, 1, 0), NOT);
        due(x.odds(0, 0, 5, 0), OUTSIDE);
        due(x.odds(0, 1, 1, 0), UNKNOWN);
    }

    private static void year() {
        promise(32);
        VerseCustoms x = told("plain 2 1 0;ware 2 0;ware 12 0;ware 4 0;ware 6 0;uses 0 2;strict");
        due(x.year(), 2 + 36 + 4 + 18);
        due(x.year(), 60);
        due(x.rhyme(0, 0), 0);
        x.prose(0);
        due(x.year(), 36 + 4 + 6);
        lay(x, 0, 0);
        x.declare(2, 0);
        due(x.year(), 36 + 6);
        tell(x, "false 2 1 5");
        lay(x, 0);
        due(x.year(), 2 + 36 + 4 + 18);
        tell(x, "uses 0 0");
        due(x.year(), 6 + 36 + 12 + 18);
        x = told("false 2 1 5;free 1 0;ware 2 0;ware 1 0;ware 1 0;uses 5 0;uses 0 1;strict");
        due(x.year(), 2 + 1 + 3);
        due(told("strict").year(), 0);
        due(told("ware 1 0").year(), NOT);
    }

    private static void secret() {
        promise(33);
        VerseCustoms x = told("plain 1 1 0;strict");
        due(x.secret(3), 0);
        x.counted(0, 1);
        x.counted(0, 2);
        due(x.secret(4), OUTSIDE);
        due(x.secret(0), OUTSIDE);
        for (int far : FAR) due(x.secret(far), OUTSIDE);
        due(x.count(8), 2);
        due(x.secret(1), 2);
        due(x.count(8), 0);
        due(x.canBe(0), 1);
        due(x.secret(2), 0);
        due(x.canBeWord(1, 0), 0);
    }

    private static void counted() {
        promise(34);
        VerseCustoms x = told("plain 1 1 0;strict");
        due(x.counted(0, 1), NOT);
        due(x.counted(0, 25), OUTSIDE);
        due(x.counted(1, 25), UNKNOWN);
        x.secret(2);
        due(x.counted(0, 0), 1);
        due(x.counted(0, 24), 2);
        for (int i = 3; i <= 6; i++) due(x.counted(0, 1), i);
        due(x.counted(0, 1), FULL);
        due(x.counted(0, 25), OUTSIDE);
        due(x.counted(0, -1), OUTSIDE);
        due(x.counted(1, 1), UNKNOWN);
        due(x.count(8), 6);
        for (int far : FAR) due(x.counted(far, 1), UNKNOWN);
    }

    private static void canBe() {
        promise(35);
        VerseCustoms x = told("elided 2 1 0;plain 1 1 1;plain 2 1 1;port 1 1;ware 4 0;ware 4 1;ware 3 1;strict;slurring");
        due(x.canBe(0), NOT);
        due(x.canBe(2), OUTSIDE);
        due(x.canBe(-1), OUTSIDE);
        x.secret(2);
        due(x.canBe(0), 9);
        due(x.canBe(1), 7);
        x.counted(0, 4);
        due(x.canBe(0), 4);
        due(x.canBe(1), 3);
        x.counted(1, 3);
        due(x.canBe(0), 2);
        due(x.canBe(1), 3);
        x.counted(1, 4);
        due(x.canBe(0), 0);
        due(x.canBe(1), 0);
        x.secret(3);
        due(x.canBe(0), 27);
        x = told("plain 4 2 0;ware 4 0;rising");
        x.secret(1);
        due(x.canBe(0), 1);
        due(x.canBe(1), 0);
        tell(x, "falling;strict");
        x.secret(1);
        x.counted(0, 4);
        due(x.canBe(0), 1);
        due(x.canBe(1), 0);
    }

    private static void canBeWord() {
        promise(36);
        VerseCustoms x = told("elided 2 1 0;plain 1 1 1;plain 2 1 1;strict;slurring");
        due(x.canBeWord(0, 0), NOT);
        due(x.canBeWord(-1, 0), OUTSIDE);
        due(x.canBeWord(0, 2), OUTSIDE);
        due(x.canBeWord(0, -1), OUTSIDE);
        x.secret(2);
        due(x.canBeWord(0, 0), 0);
        due(x.canBeWord(0, 1), NONE);
        x.counted(0, 4);
        x.counted(1, 3);
        due(x.canBeWord(0, 0), 0);
        due(x.canBeWord(0, 1), 0);
        due(x.canBeWord(1, 0), 0);
        due(x.canBeWord(1, 1), NONE);
        due(x.canBeWord(2, 0), NONE);
        due(x.canBeWord(2, 1), NONE);
        due(x.canBeWord(Integer.MAX_VALUE, 1), NONE);
        x.secret(2);
        x.counted(0, 3);
        x.counted(1, 3);
        due(x.canBeWord(0, 0), 1);
        due(x.canBeWord(0, 1), NONE);
        due(x.canBeWord(1, 0), 0);
        x.counted(1, 5);
        due(x.canBeWord(0, 0), NONE);
        due(x.canBeWord(0, 1), NONE);
    }

    private static void count() {
        promise(37);
        VerseCustoms x = told("plain 2 1 0;plain 1 1 0;ware 2 0;ware 5 0;ware 1 0;strict;falling");
        lay(x, 0);
        x.declare(0, 0);
        x.day();
        x.secret(2);
        x.counted(0, 3);
        write(x, "none");
        int[] all = {2, 3, 1, 2, 2, 2, 6, 1, 1, 2, 4};
        for (int what = 0; what <= 10; what++) due(x.count(what), all[what]);
        due(x.count(11), OUTSIDE);
        for (int far : FAR) due(x.count(far), OUTSIDE);
    }
}
