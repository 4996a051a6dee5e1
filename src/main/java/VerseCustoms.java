import java.util.Arrays;

/** Customs at which cargo is declared in verse. ../shared/DOC.md tells what each call answers. */
public final class VerseCustoms {
    public static final int NONE = -1, UNKNOWN = -2, OUTSIDE = -3, NOT = -4, FULL = -5;

    private static final int MOST_WORDS = 9, MOST_WARES = 6, MOST_CLERKS = 3, PORTS = 4, RHYMES = 6;
    private static final int MOST_SYLLABLES = 4, HEAVIEST = 12, WEIGHTS = HEAVIEST + 1;
    private static final int MOST_USES = 9, USES_AT_FIRST = 3;
    private static final int MOST_LETTERS = 160, MOST_CLAUSES = 14, MOST_NUMBERS = 3, LETTERS = 256;
    private static final int LONGEST_LINE = 6, LONGEST_VERSE = 4, LONGEST_SECRET = 3;
    private static final int MOST_UNDONE = 8, KEPT = 2, LAST_DAY = 99, PROSE_PRICE = 3;
    private static final int LARGEST_SHIP = 72, MOST_COUNTED = 6, MOST_TOLD = LONGEST_LINE * MOST_SYLLABLES;

    /** Kinds of words; the clauses that tell them have the same numbers. */
    private static final int PLAIN = 0, ELIDED = 1, FALSE = 2, FREE = 3;
    private static final int SLURRING = 1, DEAF = 2;
    private static final int NO_METRE = 0, RISING = 1;

    /** Clauses: those of words are 0 .. FREE, those of clerks and metres follow in the order of their kinds. */
    private static final int STRICT_CLAUSE = 4, NONE_CLAUSE = 7, CUSTOMS_CLAUSE = 10;
    private static final int PORT_CLAUSE = 11, WARE_CLAUSE = 12, CLAUSES = 14;

    /** What has become of a ware. */
    private static final int OPEN = 0, PASSED = 1, SEIZED = 2, IN_PROSE = 3;

    /** For each kind that a word or a clerk is, the kinds as which it can be taken, by bits. */
    private static final int[] WORD_IS = {0b00011, 0b00111, 0b01001, 0b11001};
    private static final int[] CLERK_IS = {0b0011, 0b0101, 0b1011};
    private static final int WORD_KINDS = 5, CLERK_KINDS = 4;

    private final Told told = new Told();
    private final Text text = new Text();
    private final Days days = new Days();
    private final Line line = new Line();
    private final Demand demand = new Demand(told);
    private final Endings endings = new Endings(told, demand, line);
    private final Hiding hiding = new Hiding(told);
    private final Ships ships = new Ships(told);
    private final Secret secret = new Secret(told);
    private final int[] usedInYear = new int[RHYMES];

    public VerseCustoms() {
    }

    // ---- what is told

    public int write(int letter) {
        if (letter < 0 || letter >= LETTERS) return OUTSIDE;
        if (text.length >= MOST_LETTERS) return FULL;
        return text.add(letter);
    }

    public int erase() {
        return text.clear();
    }

    public int fault() {
        return text.read(told);
    }

    public int customs() {
        if (text.read(told) != NONE) return NOT;
        for (int i = 0; i < text.clauses; i++) text.obey(i, told);
        int done = text.clauses;
        text.clear();
        days.begin();
        line.clear();
        secret.forget();
        return done;
    }

    public int word(int word, int what) {
        if (!told.isWord(word)) return UNKNOWN;
        switch (what) {
            case 0: return at(told.kinds, word);
            case 1: return at(told.syllables, word);
            case 2: return at(told.stresses, word);
            case 3: return at(told.rhymes, word);
            default: return OUTSIDE;
        }
    }

    public int ware(int ware, int what) {
        if (!told.isWare(ware)) return UNKNOWN;
        switch (what) {
            case 0: return at(told.weights, ware);
            case 1: return at(told.warePorts, ware);
            case 2: return days.fateOf(ware);
            default: return OUTSIDE;
        }
    }

    public int clerk(int clerk) {
        if (!told.isClerk(clerk)) return UNKNOWN;
        return at(told.clerkKinds, clerk);
    }

    public int rhyme(int rhyme, int what) {
        if (rhyme < 0 || rhyme >= RHYMES) return UNKNOWN;
        switch (what) {
            case 0: return days.usesOf(rhyme);
            case 1: return at(told.uses, rhyme);
            case 2: return told.portsOf(rhyme);
            default: return OUTSIDE;
        }
    }

    public int as(int word, int kind) {
        if (!told.isWord(word)) return UNKNOWN;
        if (kind < 0 || kind >= WORD_KINDS) return OUTSIDE;
        if (!hasBit(at(WORD_IS, at(told.kinds, word)), kind)) return NOT;
        return told.portsRhymedBy(word);
    }

    public int clerkAs(int clerk, int kind) {
        if (!told.isClerk(clerk)) return UNKNOWN;
        if (kind < 0 || kind >= CLERK_KINDS) return OUTSIDE;
        if (!hasBit(at(CLERK_IS, at(told.clerkKinds, clerk)), kind)) return NOT;
        return told.countBy(clerk, line);
    }

    // ---- the line, days

    public int put(int word) {
        if (!told.isWord(word)) return UNKNOWN;
        if (line.length >= LONGEST_LINE) return FULL;
        return line.add(word);
    }

    public int wipe() {
        return line.clear();
    }

    public int line(int i) {
        if (i < 0 || i >= line.length) return OUTSIDE;
        return line.wordAt(i);
    }

    public int counts(int clerk) {
        if (!told.isClerk(clerk)) return UNKNOWN;
        return told.countBy(clerk, line);
    }

    public int scans() {
        return told.isInMetre(line) ? 1 : 0;
    }

    public int passes(int ware, int clerk) {
        if (!areKnown(ware, clerk)) return UNKNOWN;
        return told.admits(line, ware, clerk) ? 1 : 0;
    }

    public int declare(int ware, int clerk) {
        if (!areKnown(ware, clerk)) return UNKNOWN;
        if (days.fateOf(ware) != OPEN) return NOT;
        if (days.areOver()) return FULL;
        days.remember();
        int wearing = told.rhymeWornBy(line.lastWord());
        if (!told.admits(line, ware, clerk) || told.isWorn(wearing, days.usesOf(wearing))) {
            return days.settle(ware, SEIZED, 0);
        }
        days.use(wearing);
        return days.settle(ware, PASSED, at(told.weights, ware));
    }

    public int prose(int ware) {
        if (!told.isWare(ware)) return UNKNOWN;
        if (days.fateOf(ware) != OPEN) return NOT;
        if (days.areOver()) return FULL;
        days.remember();
        return days.settle(ware, IN_PROSE, PROSE_PRICE * at(told.weights, ware));
    }

    public int day() {
        if (days.areOver()) return FULL;
        days.remember();
        return days.pass();
    }

    public int undo() {
        if (days.undoable == 0) return NOT;
        return days.takeBack();
    }

    public int keep(int k) {
        if (k < 0 || k >= KEPT) return UNKNOWN;
        return days.store(k);
    }

    public int back(int k) {
        if (k < 0 || k >= KEPT) return UNKNOWN;
        if (!days.isStored(k)) return NOT;
        return days.restore(k);
    }

    // ---- foretold

    public int shortest(int ware, int clerk, int what) {
        if (!areKnown(ware, clerk)) return UNKNOWN;
        if (what < 0 || what > 1) return OUTSIDE;
        demand.ask(ware, clerk);
        return fewestOrHowMany(what);
    }

    public int shortestWord(int ware, int clerk, int i) {
        if (!areKnown(ware, clerk)) return UNKNOWN;
        if (i < 0) return OUTSIDE;
        demand.ask(ware, clerk);
        endings.findFirst(endings.fewestWords());
        return endings.first.wordAt(i);
    }

    public int forAll(int ware, int what) {
        if (!told.isWare(ware)) return UNKNOWN;
        if (what < 0 || what > 1) return OUTSIDE;
        if (told.clerks == 0) return NOT;
        demand.askForAll(ware);
        return fewestOrHowMany(what);
    }

    public int hidden(int n) {
        if (n < 1 || n > LONGEST_VERSE) return OUTSIDE;
        return hiding.most(n);
    }

    public int altered(int ware, int clerk, int i) {
        if (!areKnown(ware, clerk)) return UNKNOWN;
        if (i < NONE) return OUTSIDE;
        demand.ask(ware, clerk);
        int fewest = endings.fewestChanges();
        if (i == NONE || fewest == NONE) return fewest;
        endings.findFirst(line.length);
        return endings.first.wordAt(i);
    }

    public int laden(int h, int what) {
        if (h < 1 || h > LARGEST_SHIP || what < 0 || what > 2) return OUTSIDE;
        ships.load(h);
        if (what == 0) return ships.carried;
        return what == 1 ? ships.firstSet : ships.secondSet;
    }

    public int left(int what) {
        if (what == 0) return waresThatRhymesAllow();
        if (what == 1) return portsWornOut();
        return OUTSIDE;
    }

    public int odds(int ware, int clerk, int n, int part) {
        if (!areKnown(ware, clerk)) return UNKNOWN;
        if (n < 1 || n > LONGEST_VERSE || part < 0 || part > 1) return OUTSIDE;
        if (told.words == 0) return NOT;
        demand.ask(ware, clerk);
        int above = endings.linesOf(n);
        int below = told.linesOf(n);
        int common = commonDivisor(above, below);
        if (common == 0) return NONE;
        return part == 0 ? above / common : below / common;
    }

    public int year() {
        if (told.clerks == 0) return NOT;
        for (int r = 0; r < RHYMES; r++) usedInYear[r] = days.usesOf(r);
        int paid = 0;
        for (int ware = 0; ware < told.wares; ware++) {
            if (days.fateOf(ware) == OPEN) paid += paidInYear(ware);
        }
        return paid;
    }

    // ---- what was counted

    public int secret(int n) {
        if (n < 1 || n > LONGEST_SECRET) return OUTSIDE;
        return secret.begin(n);
    }

    public int counted(int clerk, int many) {
        if (!told.isClerk(clerk)) return UNKNOWN;
        if (many < 0 || many > MOST_TOLD) return OUTSIDE;
        if (secret.length == 0) return NOT;
        if (secret.claims >= MOST_COUNTED) return FULL;
        return secret.add(clerk, many);
    }

    public int canBe(int what) {
        if (what < 0 || what > 1) return OUTSIDE;
        if (secret.length == 0) return NOT;
        secret.solve();
        return what == 0 ? secret.found : secret.wares;
    }

    public int canBeWord(int i, int all) {
        if (i < 0 || all < 0 || all > 1) return OUTSIDE;
        if (secret.length == 0) return NOT;
        secret.solve();
        return all == 0 ? secret.first.wordAt(i) : secret.shared.wordAt(i);
    }

    public int count(int what) {
        switch (what) {
            case 0: return told.words;
            case 1: return told.wares;
            case 2: return told.clerks;
            case 3: return told.metre;
            case 4: return days.today();
            case 5: return days.paid();
            case 6: return openWares();
            case 7: return line.length;
            case 8: return secret.claims;
            case 9: return days.undoable;
            case 10: return text.length;
            default: return OUTSIDE;
        }
    }

    // ---- helpers of the calls

    private boolean areKnown(int ware, int clerk) {
        return told.isWare(ware) && told.isClerk(clerk);
    }

    private int fewestOrHowMany(int what) {
        int fewest = endings.fewestWords();
        if (what == 0 || fewest == NONE) return fewest;
        return endings.linesOf(fewest);
    }

    private int openWares() {
        int set = 0;
        for (int ware = 0; ware < told.wares; ware++) {
            if (days.fateOf(ware) == OPEN) set |= 1 << ware;
        }
        return set;
    }

    /** Each ware has one rhyme only, so the rhymes do not compete: each serves what it can. */
    private int waresThatRhymesAllow() {
        int all = 0;
        for (int r = 0; r < RHYMES; r++) {
            int wanted = 0;
            for (int ware = 0; ware < told.wares; ware++) {
                if (days.fateOf(ware) == OPEN && told.rhymeOfPort(at(told.warePorts, ware)) == r) wanted++;
            }
            all += Math.min(wanted, Math.max(0, at(told.uses, r) - days.usesOf(r)));
        }
        return all;
    }

    private int portsWornOut() {
        int set = 0;
        for (int port = 0; port < PORTS; port++) {
            int rhyme = told.rhymeOfPort(port);
            if (told.isWorn(rhyme, days.usesOf(rhyme))) set |= 1 << port;
        }
        return set;
    }

    private int paidInYear(int ware) {
        int weight = at(told.weights, ware);
        demand.ask(ware, 0);
        endings.findFirst(endings.fewestWords());
        if (endings.first.length == 0) return PROSE_PRICE * weight;
        int wearing = told.rhymeWornBy(endings.first.lastWord());
        if (told.isWorn(wearing, at(usedInYear, wearing))) return PROSE_PRICE * weight;
        if (wearing >= 0 && wearing < RHYMES) usedInYear[wearing]++;
        return weight;
    }

    private static int commonDivisor(int a, int b) {
        for (int step = 0; step < 100 && b != 0; step++) {
            int rest = a % b;
            a = b;
            b = rest;
        }
        return a;
    }

    private static boolean hasBit(int set, int bit) {
        return ((set >> bit) & 1) == 1;
    }

    /** Looks at an index before it is used, since many come from what was stored. */
    private static int at(int[] row, int i) {
        return i >= 0 && i < row.length ? row[i] : 0;
    }

    /** A row of words. */
    private static final class Line {
        final int[] places = new int[LONGEST_LINE];
        int length;

        int add(int word) {
            if (length < LONGEST_LINE) {
                places[length] = word;
                length++;
            }
            return length;
        }

        int clear() {
            int had = length;
            length = 0;
            return had;
        }

        int wordAt(int i) {
            return i >= 0 && i < length && i < LONGEST_LINE ? places[i] : NONE;
        }

        int lastWord() {
            return wordAt(length - 1);
        }

        void copy(Line other) {
            System.arraycopy(other.places, 0, places, 0, LONGEST_LINE);
            length = other.length;
        }
    }

    /** What the texts told, and how lines are judged by it. */
    private static final class Told {
        final int[] kinds = new int[MOST_WORDS], syllables = new int[MOST_WORDS];
        final int[] stresses = new int[MOST_WORDS], rhymes = new int[MOST_WORDS];
        final int[] portRhymes = new int[PORTS];
        final int[] weights = new int[MOST_WARES], warePorts = new int[MOST_WARES];
        final int[] clerkKinds = new int[MOST_CLERKS];
        final int[] uses = new int[RHYMES];
        int words, wares, clerks, metre;

        Told() {
            Arrays.fill(uses, USES_AT_FIRST);
        }

        void reset() {
            words = 0;
            wares = 0;
            clerks = 0;
            metre = NO_METRE;
            Arrays.fill(portRhymes, 0);
            Arrays.fill(uses, USES_AT_FIRST);
        }

        void addWord(int kind, int itsSyllables, int stress, int rhyme) {
            if (words >= MOST_WORDS) return;
            kinds[words] = kind;
            syllables[words] = itsSyllables;
            stresses[words] = stress;
            rhymes[words] = rhyme;
            words++;
        }

        void addWare(int weight, int port) {
            if (wares >= MOST_WARES) return;
            weights[wares] = weight;
            warePorts[wares] = port;
            wares++;
        }

        void addClerk(int kind) {
            if (clerks >= MOST_CLERKS) return;
            clerkKinds[clerks] = kind;
            clerks++;
        }

        void setPort(int port, int rhyme) {
            if (port >= 0 && port < PORTS) portRhymes[port] = rhyme;
        }

        void setUses(int rhyme, int many) {
            if (rhyme >= 0 && rhyme < RHYMES) uses[rhyme] = many;
        }

        boolean isWord(int word) {
            return word >= 0 && word < words;
        }

        boolean isWare(int ware) {
            return ware >= 0 && ware < wares;
        }

        boolean isClerk(int clerk) {
            return clerk >= 0 && clerk < clerks;
        }

        boolean slurs(int clerk) {
            return at(clerkKinds, clerk) == SLURRING;
        }

        boolean isDeaf(int clerk) {
            return at(clerkKinds, clerk) == DEAF;
        }

        int rhymeOfPort(int port) {
            return at(portRhymes, port);
        }

        int portsOf(int rhyme) {
            int set = 0;
            for (int port = 0; port < PORTS; port++) {
                if (portRhymes[port] == rhyme) set |= 1 << port;
            }
            return set;
        }

        /** Only what is FALSE itself rhymes with all: a FREE word is under FALSE, but rhymes as it was told. */
        int portsRhymedBy(int word) {
            if (at(kinds, word) == FALSE) return (1 << PORTS) - 1;
            return portsOf(at(rhymes, word));
        }

        boolean chimes(int word, int rhyme) {
            return at(kinds, word) == FALSE || at(rhymes, word) == rhyme;
        }

        /** NONE for a FALSE word, which wears nothing out. */
        int rhymeWornBy(int word) {
            if (!isWord(word) || at(kinds, word) == FALSE) return NONE;
            return at(rhymes, word);
        }

        boolean isWorn(int rhyme, int used) {
            return rhyme != NONE && used >= at(uses, rhyme);
        }

        int countBy(int clerk, Line line) {
            int all = syllablesOf(line);
            return slurs(clerk) ? all - elisionsIn(line) : all;
        }

        int syllablesOf(Line line) {
            int all = 0;
            for (int i = 0; i < line.length; i++) all += at(syllables, line.wordAt(i));
            return all;
        }

        /** An ELIDED word has a syllable at least, so each elision takes just one away. */
        int elisionsIn(Line line) {
            int all = 0;
            for (int i = 0; i < line.length - 1; i++) {
                if (at(kinds, line.wordAt(i)) == ELIDED) all++;
            }
            return all;
        }

        /** Whether a word is in metre behind so many syllables. */
        boolean fits(int word, int before) {
            if (metre == NO_METRE || word < 0 || word >= MOST_WORDS || kinds[word] == FREE) return true;
            int due = metre == RISING ? 0 : 1;
            return ((before + stresses[word]) & 1) == due;
        }

        boolean isInMetre(Line line) {
            int before = 0;
            for (int i = 0; i < line.length; i++) {
                if (!fits(line.wordAt(i), before)) return false;
                before += at(syllables, line.wordAt(i));
            }
            return true;
        }

        boolean admits(Line line, int ware, int clerk) {
            if (line.length == 0 || countBy(clerk, line) != at(weights, ware) || !isInMetre(line)) return false;
            return isDeaf(clerk) || chimes(line.lastWord(), rhymeOfPort(at(warePorts, ware)));
        }

        int linesOf(int n) {
            int all = 1;
            for (int i = 0; i < n && i < LONGEST_LINE; i++) all *= words;
            return all;
        }
    }

    /** The text: its letters, its fault, and its clauses once it was read. */
    private static final class Text {
        private static final int SMALL = 0, DIGIT = 1, OTHER = 2;

        private final char[] letters = new char[MOST_LETTERS];
        private final int[] kinds = new int[MOST_CLAUSES];
        private final int[][] numbers = new int[MOST_CLAUSES][MOST_NUMBERS];
        int length, clauses;
        /** Where the token begins and ends. */
        private int from, to;
        /** How many there would be behind the clauses read so far. */
        private int words, wares, clerks;

        int add(int letter) {
            if (length < MOST_LETTERS) {
                letters[length] = (char) letter;
                length++;
            }
            return length;
        }

        int clear() {
            int had = length;
            length = 0;
            return had;
        }

        /** The place of the fault, or NONE. */
        int read(Told told) {
            words = told.words;
            wares = told.wares;
            clerks = told.clerks;
            clauses = 0;
            to = 0;
            for (int i = 0; i < MOST_CLAUSES; i++) {
                goOn();
                if (!readClause(i)) return from;
                clauses = i + 1;
                goOn();
                if (from >= length) return NONE;
                if (letterAt(from) != ';') return from;
            }
            return from;
        }

        private boolean readClause(int i) {
            if (i < 0 || i >= MOST_CLAUSES) return false;
            int clause = clauseHere();
            if (clause == NONE || !hasRoomFor(clause)) return false;
            kinds[i] = clause;
            String roles = rolesIn(clause);
            for (int j = 0; j < roles.length() && j < MOST_NUMBERS; j++) {
                char role = roles.charAt(j);
                goOn();
                int number = numberHere();
                if (number < lowest(role) || number > highest(role, numbers[i][0])) return false;
                numbers[i][j] = number;
            }
            return true;
        }

        private boolean hasRoomFor(int clause) {
            if (clause <= FREE) words++;
            else if (clause < NONE_CLAUSE) clerks++;
            else if (clause == WARE_CLAUSE) wares++;
            else if (clause == CUSTOMS_CLAUSE) {
                words = 0;
                wares = 0;
                clerks = 0;
            }
            return words <= MOST_WORDS && wares <= MOST_WARES && clerks <= MOST_CLERKS;
        }

        /** What a clause that was read says is done. */
        void obey(int i, Told told) {
            if (i < 0 || i >= MOST_CLAUSES) return;
            int clause = kinds[i];
            int a = numbers[i][0], b = numbers[i][1], c = numbers[i][2];
            if (clause < FREE) told.addWord(clause, a, b, c);
            else if (clause == FREE) told.addWord(FREE, a, 1, b);
            else if (clause < NONE_CLAUSE) told.addClerk(clause - STRICT_CLAUSE);
            else if (clause < CUSTOMS_CLAUSE) told.metre = clause - NONE_CLAUSE;
            else if (clause == CUSTOMS_CLAUSE) told.reset();
            else if (clause == PORT_CLAUSE) told.setPort(a, b);
            else if (clause == WARE_CLAUSE) told.addWare(a, b);
            else told.setUses(a, b);
        }

        /** The next token: a row of small letters, a row of digits, any other letter; nothing at the end. */
        private void goOn() {
            from = to;
            while (from < length && letterAt(from) == ' ') from++;
            to = from;
            if (from >= length) return;
            to++;
            int sort = sortAt(from);
            if (sort == OTHER) return;
            while (to < length && sortAt(to) == sort) to++;
        }

        private int letterAt(int i) {
            return i >= 0 && i < length && i < MOST_LETTERS ? letters[i] : NONE;
        }

        private int sortAt(int i) {
            int letter = letterAt(i);
            if (letter >= 'a' && letter <= 'z') return SMALL;
            return letter >= '0' && letter <= '9' ? DIGIT : OTHER;
        }

        private int numberHere() {
            if (sortAt(from) != DIGIT || to - from > 2) return NONE;
            int value = 0;
            for (int i = from; i < to; i++) value = value * 10 + (letterAt(i) - '0');
            return value;
        }

        private int clauseHere() {
            for (int clause = 0; clause < CLAUSES; clause++) {
                if (isHere(nameOf(clause))) return clause;
            }
            return NONE;
        }

        private boolean isHere(String name) {
            if (name.length() != to - from) return false;
            for (int i = 0; i < name.length(); i++) {
                if (letterAt(from + i) != name.charAt(i)) return false;
            }
            return true;
        }

        private static int lowest(char role) {
            return role == 'S' || role == 'T' || role == 'W' ? 1 : 0;
        }

        private static int highest(char role, int syllables) {
            switch (role) {
                case 'S': return MOST_SYLLABLES;
                case 'T': return syllables;
                case 'R': return RHYMES - 1;
                case 'P': return PORTS - 1;
                case 'W': return HEAVIEST;
                default: return MOST_USES;
            }
        }

        private static String nameOf(int clause) {
            switch (clause) {
                case 0: return "plain";
                case 1: return "elided";
                case 2: return "false";
                case 3: return "free";
                case 4: return "strict";
                case 5: return "slurring";
                case 6: return "deaf";
                case 7: return "none";
                case 8: return "rising";
                case 9: return "falling";
                case 10: return "customs";
                case 11: return "port";
                case 12: return "ware";
                default: return "uses";
            }
        }

        /** The numbers of a clause, as the document writes them. */
        private static String rolesIn(int clause) {
            if (clause < FREE) return "STR";
            if (clause == FREE) return "SR";
            if (clause <= CUSTOMS_CLAUSE) return "";
            if (clause == PORT_CLAUSE) return "PR";
            return clause == WARE_CLAUSE ? "WP" : "RN";
        }
    }

    /** What declaring changes, day by day: it is kept, brought back and undone as a whole, so it is one row. */
    private static final class Days {
        private static final int DAY = 0, PAID = 1, FATES = 2, USED = FATES + MOST_WARES, SIZE = USED + RHYMES;

        private final int[] now = new int[SIZE];
        private final int[][] past = new int[MOST_UNDONE][SIZE];
        private final int[][] kept = new int[KEPT][SIZE];
        private final boolean[] stored = new boolean[KEPT];
        /** The row of the past that is written next: the rows go round. */
        private int next;
        int undoable;

        void begin() {
            Arrays.fill(now, 0);
            for (int k = 0; k < KEPT; k++) stored[k] = false;
            undoable = 0;
        }

        int today() {
            return now[DAY];
        }

        int paid() {
            return now[PAID];
        }

        boolean areOver() {
            return now[DAY] >= LAST_DAY;
        }

        int fateOf(int ware) {
            return ware >= 0 && ware < MOST_WARES ? now[FATES + ware] : OPEN;
        }

        int usesOf(int rhyme) {
            return rhyme >= 0 && rhyme < RHYMES ? now[USED + rhyme] : 0;
        }

        void use(int rhyme) {
            if (rhyme >= 0 && rhyme < RHYMES) now[USED + rhyme]++;
        }

        int settle(int ware, int fate, int pays) {
            if (ware >= 0 && ware < MOST_WARES) now[FATES + ware] = fate;
            now[PAID] += pays;
            now[DAY]++;
            return pays;
        }

        int pass() {
            now[DAY]++;
            return now[DAY];
        }

        void remember() {
            if (next < 0 || next >= MOST_UNDONE) next = 0;
            System.arraycopy(now, 0, past[next], 0, SIZE);
            next = next == MOST_UNDONE - 1 ? 0 : next + 1;
            undoable = Math.min(undoable + 1, MOST_UNDONE);
        }

        int takeBack() {
            next = next <= 0 || next >= MOST_UNDONE ? MOST_UNDONE - 1 : next - 1;
            System.arraycopy(past[next], 0, now, 0, SIZE);
            undoable--;
            return undoable;
        }

        boolean isStored(int k) {
            return k >= 0 && k < KEPT && stored[k];
        }

        int store(int k) {
            if (k >= 0 && k < KEPT) {
                System.arraycopy(now, 0, kept[k], 0, SIZE);
                stored[k] = true;
            }
            return now[DAY];
        }

        int restore(int k) {
            if (isStored(k)) {
                System.arraycopy(kept[k], 0, now, 0, SIZE);
                undoable = 0;
            }
            return now[DAY];
        }
    }

    /** What a line must be to pass one clerk, or all of them, for a ware. */
    private static final class Demand {
        private final Told told;
        int weight;
        /** That of the ware's port; NONE: no clerk asks whether it rhymes. */
        private int rhyme;
        /** Whether a clerk counts with elisions, and whether one counts without. */
        private boolean slurred, straight;

        Demand(Told told) {
            this.told = told;
        }

        void ask(int ware, int clerk) {
            begin(ware);
            hear(ware, clerk);
        }

        void askForAll(int ware) {
            begin(ware);
            for (int clerk = 0; clerk < told.clerks; clerk++) hear(ware, clerk);
        }

        private void begin(int ware) {
            weight = Math.min(at(told.weights, ware), HEAVIEST);
            rhyme = NONE;
            slurred = false;
            straight = false;
        }

        private void hear(int ware, int clerk) {
            if (told.slurs(clerk)) slurred = true;
            else straight = true;
            if (!told.isDeaf(clerk)) rhyme = told.rhymeOfPort(at(told.warePorts, ware));
        }

        /** Two ways of counting agree only where nothing is elided. */
        boolean allows(int word, int before, boolean last) {
            if (!told.fits(word, before)) return false;
            if (last) return rhyme == NONE || told.chimes(word, rhyme);
            return !slurred || !straight || at(told.kinds, word) != ELIDED;
        }

        int countOf(int word, boolean last) {
            int all = at(told.syllables, word);
            return slurred && !last && at(told.kinds, word) == ELIDED ? all - 1 : all;
        }
    }

    /**
     * The last k words of lines that pass: the fewest that must be changed there, and how many such endings
     * change so few. A line's beginning matters to its end only in whether its syllables are even or odd and
     * in how many must yet be counted. While no line is altered nothing counts as a change.
     */
    private static final class Endings {
        private final Told told;
        private final Demand demand;
        private final Line line;
        private final int[][] least = new int[LONGEST_LINE + 1][2 * WEIGHTS];
        private final int[][] many = new int[LONGEST_LINE + 1][2 * WEIGHTS];
        private boolean altering;
        final Line first = new Line();

        Endings(Told told, Demand demand, Line line) {
            this.told = told;
            this.demand = demand;
            this.line = line;
        }

        /** The fewest words of a line that passes, or NONE. */
        int fewestWords() {
            begin(false);
            for (int k = 1; k <= LONGEST_VERSE; k++) {
                fill(k);
                if (leastAt(k, 0, demand.weight) != NONE) return k;
            }
            return NONE;
        }

        /** How many lines of n words pass. */
        int linesOf(int n) {
            begin(false);
            for (int k = 1; k <= n; k++) fill(k);
            return manyAt(n, 0, demand.weight);
        }

        /** The fewest words to be changed so that the line passes, or NONE. */
        int fewestChanges() {
            if (line.length == 0) return NONE;
            begin(true);
            for (int k = 1; k <= line.length; k++) fill(k);
            return leastAt(line.length, 0, demand.weight);
        }

        /** The first of the best lines of n words; for it the rows must have been filled up to n. */
        void findFirst(int n) {
            first.clear();
            int before = 0, rest = demand.weight;
            for (int k = n; k >= 1; k--) {
                int word = firstWord(k, before, rest);
                if (word == NONE) return;
                first.add(word);
                rest -= demand.countOf(word, k == 1);
                before += at(told.syllables, word);
            }
        }

        private int firstWord(int k, int before, int rest) {
            int due = leastAt(k, before, rest);
            if (due == NONE) return NONE;
            for (int word = 0; word < told.words; word++) {
                if (leastWith(word, k, before, rest) == due) return word;
            }
            return NONE;
        }

        private void begin(boolean forAltering) {
            altering = forAltering;
            Arrays.fill(least[0], NONE);
            Arrays.fill(many[0], 0);
            for (int before = 0; before < 2; before++) {
                least[0][before * WEIGHTS] = 0;
                many[0][before * WEIGHTS] = 1;
            }
        }

        private void fill(int k) {
            if (k < 1 || k > LONGEST_LINE) return;
            for (int slot = 0; slot < 2 * WEIGHTS; slot++) {
                int best = NONE, all = 0;
                for (int word = 0; word < told.words; word++) {
                    int changes = leastWith(word, k, slot / WEIGHTS, slot % WEIGHTS);
                    if (changes == NONE || best != NONE && changes > best) continue;
                    if (changes != best) all = 0;
                    best = changes;
                    all += manyWith(word, k, slot / WEIGHTS, slot % WEIGHTS);
                }
                least[k][slot] = best;
                many[k][slot] = all;
            }
        }

        private int leastWith(int word, int k, int before, int rest) {
            if (!demand.allows(word, before, k == 1)) return NONE;
            int behind = leastAt(k - 1, before + at(told.syllables, word), rest - demand.countOf(word, k == 1));
            if (behind == NONE) return NONE;
            return altering && line.wordAt(line.length - k) != word ? behind + 1 : behind;
        }

        private int manyWith(int word, int k, int before, int rest) {
            return manyAt(k - 1, before + at(told.syllables, word), rest - demand.countOf(word, k == 1));
        }

        private int leastAt(int k, int before, int rest) {
            return isPlace(k, rest) ? least[k][(before & 1) * WEIGHTS + rest] : NONE;
        }

        private int manyAt(int k, int before, int rest) {
            return isPlace(k, rest) ? many[k][(before & 1) * WEIGHTS + rest] : 0;
        }

        private static boolean isPlace(int k, int rest) {
            return k >= 0 && k <= LONGEST_LINE && rest >= 0 && rest < WEIGHTS;
        }
    }

    /** How many syllables a line in metre can hide from a clerk who slurs. */
    private static final class Hiding {
        private final Told told;
        /** The most that the last k words hide, behind an even and behind an odd number of syllables. */
        private final int[][] most = new int[LONGEST_VERSE + 1][2];

        Hiding(Told told) {
            this.told = told;
        }

        int most(int n) {
            for (int k = 1; k <= n && k <= LONGEST_VERSE; k++) {
                most[k][0] = mostBehind(k, 0);
                most[k][1] = mostBehind(k, 1);
            }
            return n >= 0 && n <= LONGEST_VERSE ? most[n][0] : NONE;
        }

        private int mostBehind(int k, int before) {
            if (k < 1 || k > LONGEST_VERSE) return NONE;
            int best = NONE;
            for (int word = 0; word < told.words; word++) {
                if (!told.fits(word, before)) continue;
                int behind = most[k - 1][(before + at(told.syllables, word)) & 1];
                if (behind == NONE) continue;
                boolean hides = k > 1 && at(told.kinds, word) == ELIDED;
                best = Math.max(best, hides ? behind + 1 : behind);
            }
            return best;
        }
    }

    /** Two ships and all the wares; sets are by bits. */
    private static final class Ships {
        private final Told told;
        private final int[] weightOfSet = new int[1 << MOST_WARES];
        int carried, firstSet, secondSet;

        Ships(Told told) {
            this.told = told;
        }

        /** Sets come from the least, so the first that carry the most are the least ones. */
        void load(int bears) {
            int sets = 1 << Math.min(told.wares, MOST_WARES);
            weigh(sets);
            carried = NONE;
            for (int a = 0; a < sets; a++) {
                if (at(weightOfSet, a) > bears) continue;
                for (int b = 0; b < sets; b++) {
                    int both = at(weightOfSet, a) + at(weightOfSet, b);
                    if ((a & b) == 0 && at(weightOfSet, b) <= bears && both > carried) {
                        carried = both;
                        firstSet = a;
                        secondSet = b;
                    }
                }
            }
        }

        private void weigh(int sets) {
            for (int set = 0; set < sets && set < weightOfSet.length; set++) {
                int weight = 0;
                for (int ware = 0; ware < told.wares; ware++) {
                    if (hasBit(set, ware)) weight += at(told.weights, ware);
                }
                weightOfSet[set] = weight;
            }
        }
    }

    /** The secret line: what was counted of it, and which lines it can be. */
    private static final class Secret {
        private final Told told;
        private final int[] clerks = new int[MOST_COUNTED], numbers = new int[MOST_COUNTED];
        private final Line guess = new Line();
        /** The first line that it can be, and the words in which all of these agree (NONE: they do not). */
        final Line first = new Line(), shared = new Line();
        int length, claims, found, wares;

        Secret(Told told) {
            this.told = told;
        }

        void forget() {
            length = 0;
            claims = 0;
        }

        int begin(int n) {
            int had = claims;
            length = Math.min(n, LONGEST_SECRET);
            claims = 0;
            return had;
        }

        int add(int clerk, int number) {
            if (claims < MOST_COUNTED) {
                clerks[claims] = clerk;
                numbers[claims] = number;
                claims++;
            }
            return claims;
        }

        void solve() {
            found = 0;
            wares = 0;
            first.clear();
            shared.clear();
            guess.clear();
            for (int i = 0; i < length; i++) guess.add(0);
            int all = told.linesOf(length);
            for (int i = 0; i < all; i++) {
                if (agrees()) take();
                moveOn();
            }
        }

        private boolean agrees() {
            int plain = told.syllablesOf(guess);
            int slurred = plain - told.elisionsIn(guess);
            for (int i = 0; i < claims && i < MOST_COUNTED; i++) {
                if (numbers[i] != (told.slurs(clerks[i]) ? slurred : plain)) return false;
            }
            return true;
        }

        private void take() {
            if (found == 0) {
                first.copy(guess);
                shared.copy(guess);
            }
            found++;
            for (int i = 0; i < length && i < LONGEST_SECRET; i++) {
                if (shared.places[i] != guess.places[i]) shared.places[i] = NONE;
            }
            if (!told.isClerk(0)) return;
            for (int ware = 0; ware < told.wares; ware++) {
                if (!hasBit(wares, ware) && told.admits(guess, ware, 0)) wares |= 1 << ware;
            }
        }

        /** The next line by words: its last place goes first. */
        private void moveOn() {
            for (int i = Math.min(length, LONGEST_SECRET) - 1; i >= 0; i--) {
                guess.places[i]++;
                if (guess.places[i] < told.words) return;
                guess.places[i] = 0;
            }
        }
    }
}
