import java.io.IOException;
import java.nio.file.Files;
import java.nio.file.Path;
import java.util.ArrayList;
import java.util.List;

/** What the boundary tests share: the document's sentences, answers that are due, and twins that tell what changed. */
abstract class Bench {
    static final int NONE = -1, UNKNOWN = -2, OUTSIDE = -3, NOT = -4, FULL = -5;
    static final int LEAST = Integer.MIN_VALUE, MOST = Integer.MAX_VALUE;
    /** No number of the document is one of these. */
    static final int[] FAR = {LEAST, LEAST + 1, -256, -6, -5, -4, -3, -2, 257, 65536, MOST - 1, MOST};

    /** Calls by which an object becomes what a test needs. */
    interface Calls {
        void on(VerseCustoms x);
    }

    /** The call that is looked at. */
    interface Call {
        int on(VerseCustoms x);
    }

    private interface Look {
        void at(VerseCustoms x, List<Integer> seen);
    }

    private static final String DOC = document();
    /** Each with an object of its own, so that none is used for more than 512 calls. */
    private static final List<Look> LOOKS = List.of(Bench::lookAtAll, Bench::lookAtThePast, Bench::lookAtTheKept,
        Bench::lookAtTheText, Bench::lookAhead);

    private static String sentence = "";
    private static int nth = 0, wrong = 0;

    private static String document() {
        try {
            return Files.readString(Path.of("../shared/DOC.md")).replaceAll("\\s+", " ");
        } catch (IOException e) {
            throw new IllegalStateException("the document is not there", e);
        }
    }

    /** The checks that follow are of this sentence, which must be the document's own. */
    static void sentence(String words) {
        sentence = words;
        nth = 0;
        if (!DOC.contains(words)) fail("the document does not say this");
    }

    private static void fail(String what) {
        wrong++;
        if (wrong <= 50) System.out.println("\"" + sentence + "\", check " + nth + ": " + what);
    }

    static void due(int answer, int due) {
        nth++;
        if (answer != due) fail("answered " + answer + ", due is " + due);
    }

    static void end() {
        System.out.println(wrong == 0 ? "all boundaries hold" : wrong + " answers are not as due");
        if (wrong != 0) System.exit(1);
    }

    // ---- objects

    static void write(VerseCustoms x, String text) {
        for (int i = 0; i < text.length(); i++) {
            if (x.write(text.charAt(i)) < 1) throw new IllegalStateException("a test's text is too long: " + text);
        }
    }

    static int tell(VerseCustoms x, String text) {
        write(x, text);
        return x.customs();
    }

    static VerseCustoms told(String text) {
        VerseCustoms x = new VerseCustoms();
        if (tell(x, text) < 1) throw new IllegalStateException("a test's text has a fault: " + text);
        return x;
    }

    static VerseCustoms made(Calls calls) {
        VerseCustoms x = new VerseCustoms();
        calls.on(x);
        return x;
    }

    static void lay(VerseCustoms x, int... words) {
        x.wipe();
        for (int word : words) x.put(word);
    }

    static void days(VerseCustoms x, int n) {
        for (int i = 0; i < n; i++) x.day();
    }

    static String repeat(String clause, int n) {
        StringBuilder text = new StringBuilder();
        for (int i = 0; i < n; i++) text.append(i == 0 ? "" : ";").append(clause);
        return text.toString();
    }

    static int faultOf(String text) {
        VerseCustoms x = new VerseCustoms();
        write(x, text);
        return x.fault();
    }

    /** Of all there is something: four words, four wares of which one is open, each sort of clerk, a line, days. */
    static void busy(VerseCustoms x) {
        tell(x, "plain 2 2 1;elided 3 1 0;false 1 1 5;free 2 1;port 1 1;ware 5 0;ware 3 1;ware 4 1;ware 2 1;uses 1 2;"
            + "strict;slurring;deaf");
        lay(x, 0, 0);
        x.keep(0);
        x.declare(2, 0);
        x.prose(1);
        x.declare(0, 0);
        x.day();
        x.secret(2);
        x.counted(0, 4);
        x.counted(1, 4);
        write(x, "ware 1 1;p");
    }

    // ---- twins

    /** The call answers so, and nothing changes: what was asked cannot be told from what was not. */
    static void still(Calls before, Call call, int due) {
        for (Look look : LOOKS) {
            VerseCustoms asked = made(before), spared = made(before);
            due(call.on(asked), due);
            compare(look, asked, spared);
        }
    }

    /** Likewise behind all that busy() does. */
    static void still(Call call, int due) {
        still(Bench::busy, call, due);
    }

    /** Behind these calls an object cannot be told from one behind those. */
    static void alike(Calls these, Calls those) {
        for (Look look : LOOKS) {
            nth++;
            compare(look, made(these), made(those));
        }
    }

    private static void compare(Look look, VerseCustoms x, VerseCustoms y) {
        List<Integer> seen = new ArrayList<>(), due = new ArrayList<>();
        look.at(x, seen);
        look.at(y, due);
        if (!seen.equals(due)) fail("not alike: " + seen + ", due is " + due);
    }

    private static void lookAtAll(VerseCustoms x, List<Integer> seen) {
        for (int what = 0; what <= 10; what++) seen.add(x.count(what));
        seen.add(x.fault());
        for (int w = 0; w < x.count(0); w++) for (int what = 0; what < 4; what++) seen.add(x.word(w, what));
        for (int w = 0; w < x.count(1); w++) for (int what = 0; what < 3; what++) seen.add(x.ware(w, what));
        for (int r = 0; r < 6; r++) for (int what = 0; what < 3; what++) seen.add(x.rhyme(r, what));
        for (int i = 0; i < 6; i++) seen.add(x.line(i));
        seen.add(x.scans());
        for (int c = 0; c < x.count(2); c++) {
            seen.add(x.clerk(c));
            seen.add(x.counts(c));
            for (int w = 0; w < x.count(1); w++) seen.add(x.passes(w, c));
        }
        for (int what = 0; what < 2; what++) {
            seen.add(x.left(what));
            seen.add(x.canBe(what));
            for (int i = 0; i < 3; i++) seen.add(x.canBeWord(i, what));
            seen.add(x.shortest(0, 0, what));
        }
        for (int i = -1; i < 3; i++) seen.add(x.altered(0, 0, i));
        seen.add(x.year());
        for (int what = 0; what < 3; what++) for (int h : new int[] {5, 12, 72}) seen.add(x.laden(h, what));
        seen.add(x.hidden(2));
        seen.add(x.odds(0, 0, 2, 0));
        seen.add(x.forAll(0, 1));
    }

    private static void lookAtDays(VerseCustoms x, List<Integer> seen) {
        for (int what = 4; what <= 9; what++) seen.add(x.count(what));
        for (int w = 0; w < 6; w++) seen.add(x.ware(w, 2));
        for (int r = 0; r < 6; r++) seen.add(x.rhyme(r, 0));
    }

    private static void lookAtThePast(VerseCustoms x, List<Integer> seen) {
        int yet = 0;
        for (int i = 0; i < 9 && yet >= 0; i++) {
            yet = x.undo();
            seen.add(yet);
            lookAtDays(x, seen);
        }
    }

    private static void lookAtTheKept(VerseCustoms x, List<Integer> seen) {
        for (int k = 0; k < 2; k++) {
            seen.add(x.back(k));
            lookAtDays(x, seen);
        }
    }

    private static void lookAtTheText(VerseCustoms x, List<Integer> seen) {
        seen.add(x.write(' '));
        seen.add(x.fault());
        seen.add(x.customs());
        lookAtAll(x, seen);
    }

    private static void lookAhead(VerseCustoms x, List<Integer> seen) {
        seen.add(x.put(0));
        seen.add(x.counted(0, 1));
        seen.add(x.day());
        seen.add(x.declare(3, 0));
        seen.add(x.prose(0));
        seen.add(x.undo());
        seen.add(x.keep(1));
        seen.add(x.secret(1));
        lookAtAll(x, seen);
    }
}
