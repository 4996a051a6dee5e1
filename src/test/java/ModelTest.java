import java.util.ArrayDeque;
import java.util.ArrayList;
import java.util.Arrays;
import java.util.Deque;
import java.util.List;
import java.util.function.Predicate;
import java.util.regex.Matcher;
import java.util.regex.Pattern;

/** Long runs of calls, each compared with a second, naive program that tries out every line. */
public final class ModelTest {
    private static final int RUNS = 1500, CALLS = 512;
    private static final int NONE = -1, UNKNOWN = -2, OUTSIDE = -3, NOT = -4, FULL = -5;
    private static int wrong = 0;

    public static void main(String[] args) {
        for (int run = 0; run < RUNS && wrong < 20; run++) new Run(run).go();
        System.out.println(wrong == 0 ? "the model agrees" : "the model does not agree");
        if (wrong != 0) System.exit(1);
    }

    // ---- the model

    private record Word(int kind, int syllables, int stress, int rhyme) {
        boolean rhymesWith(int other) {
            return kind == 2 || rhyme == other;
        }
    }

    private static final class State {
        int day, paid;
        int[] fate = new int[6], used = new int[6];

        State copy() {
            State s = new State();
            s.day = day;
            s.paid = paid;
            s.fate = fate.clone();
            s.used = used.clone();
            return s;
        }
    }

    private static final class Rules implements Cloneable {
        List<Word> words = new ArrayList<>();
        List<int[]> wares = new ArrayList<>();
        List<Integer> clerks = new ArrayList<>();
        int[] ports = new int[4], uses = {3, 3, 3, 3, 3, 3};
        int metre;

        Rules copy() {
            Rules r = new Rules();
            r.words.addAll(words);
            r.wares.addAll(wares);
            r.clerks.addAll(clerks);
            r.ports = ports.clone();
            r.uses = uses.clone();
            r.metre = metre;
            return r;
        }
    }

    private static final class Fault extends Exception {
        private static final long serialVersionUID = 1;
        final int place;

        Fault(int place) {
            this.place = place;
        }
    }

    private static final class Parser {
        private static final Pattern TOKEN = Pattern.compile("[a-z]+|[0-9]+|[^ ]", Pattern.DOTALL);
        private final List<String> tokens = new ArrayList<>();
        private final List<Integer> places = new ArrayList<>();
        private int next = 0;
        final Rules rules;
        int clauses = 0;

        Parser(String text, Rules before) throws Fault {
            rules = before.copy();
            Matcher m = TOKEN.matcher(text);
            while (m.find()) {
                tokens.add(m.group());
                places.add(m.start());
            }
            places.add(text.length());
            clause();
            while (next < tokens.size()) {
                if (!tokens.get(next).equals(";") || clauses == 14) throw new Fault(places.get(next));
                next++;
                clause();
            }
        }

        private int number(int low, int high) throws Fault {
            if (next >= tokens.size() || !tokens.get(next).matches("[0-9]{1,2}")) throw new Fault(places.get(next));
            int value = Integer.parseInt(tokens.get(next));
            if (value < low || value > high) throw new Fault(places.get(next));
            next++;
            return value;
        }

        private void clause() throws Fault {
            int place = places.get(next);
            if (next >= tokens.size()) throw new Fault(place);
            String name = tokens.get(next);
            next++;
            int kind = List.of("plain", "elided", "false", "free").indexOf(name);
            int clerk = List.of("strict", "slurring", "deaf").indexOf(name);
            int metre = List.of("none", "rising", "falling").indexOf(name);
            if (kind >= 0) {
                if (rules.words.size() == 9) throw new Fault(place);
                int s = number(1, 4);
                int t = kind == 3 ? 1 : number(1, s);
                rules.words.add(new Word(kind, s, t, number(0, 5)));
            } else if (clerk >= 0) {
                if (rules.clerks.size() == 3) throw new Fault(place);
                rules.clerks.add(clerk);
            } else if (metre >= 0) {
                rules.metre = metre;
            } else if (name.equals("customs")) {
                Rules fresh = new Rules();
                rules.words = fresh.words;
                rules.wares = fresh.wares;
                rules.clerks = fresh.clerks;
                rules.ports = fresh.ports;
                rules.uses = fresh.uses;
                rules.metre = 0;
            } else if (name.equals("port")) {
                int p = number(0, 3);
                rules.ports[p] = number(0, 5);
            } else if (name.equals("ware")) {
                if (rules.wares.size() == 6) throw new Fault(place);
                int w = number(1, 12);
                rules.wares.add(new int[] {w, number(0, 3)});
            } else if (name.equals("uses")) {
                int r = number(0, 5);
                rules.uses[r] = number(0, 9);
            } else {
                throw new Fault(place);
            }
            clauses++;
        }
    }

    private static final class Model {
        private final StringBuilder text = new StringBuilder();
        private Rules rules = new Rules();
        private State state = new State();
        private final Deque<State> past = new ArrayDeque<>();
        private final State[] kept = new State[2];
        private final List<Integer> line = new ArrayList<>();
        private final List<int[]> claims = new ArrayList<>();
        private int secret = 0;

        int write(int letter) {
            if (letter < 0 || letter > 255) return OUTSIDE;
            if (text.length() == 160) return FULL;
            text.append((char) letter);
            return text.length();
        }

        int erase() {
            int had = text.length();
            text.setLength(0);
            return had;
        }

        int fault() {
            try {
                new Parser(text.toString(), rules);
                return NONE;
            } catch (Fault f) {
                return f.place;
            }
        }

        int customs() {
            try {
                Parser p = new Parser(text.toString(), rules);
                rules = p.rules;
                text.setLength(0);
                state = new State();
                past.clear();
                kept[0] = null;
                kept[1] = null;
                line.clear();
                claims.clear();
                secret = 0;
                return p.clauses;
            } catch (Fault f) {
                return NOT;
            }
        }

        boolean noWord(int w) {
            return w < 0 || w >= rules.words.size();
        }

        boolean noWare(int w) {
            return w < 0 || w >= rules.wares.size();
        }

        boolean noClerk(int c) {
            return c < 0 || c >= rules.clerks.size();
        }

        int word(int w, int what) {
            if (noWord(w)) return UNKNOWN;
            if (what < 0 || what > 3) return OUTSIDE;
            Word x = rules.words.get(w);
            return new int[] {x.kind, x.syllables, x.stress, x.rhyme}[what];
        }

        int ware(int w, int what) {
            if (noWare(w)) return UNKNOWN;
            if (what < 0 || what > 2) return OUTSIDE;
            return what == 2 ? state.fate[w] : rules.wares.get(w)[what];
        }

        int clerk(int c) {
            return noClerk(c) ? UNKNOWN : rules.clerks.get(c);
        }

        int portsWith(int rhyme) {
            int set = 0;
            for (int p = 3; p >= 0; p--) set = set * 2 + (rules.ports[p] == rhyme ? 1 : 0);
            return set;
        }

        int rhyme(int r, int what) {
            if (r < 0 || r > 5) return UNKNOWN;
            if (what < 0 || what > 2) return OUTSIDE;
            return new int[] {state.used[r], rules.uses[r], portsWith(r)}[what];
        }

        int as(int w, int kind) {
            if (noWord(w)) return UNKNOWN;
            if (kind < 0 || kind > 4) return OUTSIDE;
            Word x = rules.words.get(w);
            List<Integer> over = List.of(List.of(0, 1), List.of(0, 1, 2), List.of(0, 3), List.of(0, 3, 4)).get(x.kind);
            if (!over.contains(kind)) return NOT;
            return x.kind == 2 ? 15 : portsWith(x.rhyme);
        }

        int clerkAs(int c, int kind) {
            if (noClerk(c)) return UNKNOWN;
            if (kind < 0 || kind > 3) return OUTSIDE;
            List<Integer> over = List.of(List.of(0, 1), List.of(0, 2), List.of(0, 1, 3)).get(rules.clerks.get(c));
            return over.contains(kind) ? countOf(line, c) : NOT;
        }

        int put(int w) {
            if (noWord(w)) return UNKNOWN;
            if (line.size() == 6) return FULL;
            line.add(w);
            return line.size();
        }

        int wipe() {
            int had = line.size();
            line.clear();
            return had;
        }

        int line(int i) {
            return i < 0 || i >= line.size() ? OUTSIDE : line.get(i);
        }

        int countOf(List<Integer> l, int c) {
            int all = 0;
            for (int i = 0; i < l.size(); i++) {
                Word x = rules.words.get(l.get(i));
                all += x.syllables;
                if (rules.clerks.get(c) == 1 && x.kind == 1 && i + 1 < l.size()) all--;
            }
            return all;
        }

        int toldOf(List<Integer> l) {
            int all = 0;
            for (int w : l) all += rules.words.get(w).syllables;
            return all;
        }

        boolean scans(List<Integer> l) {
            int behind = 0;
            for (int w : l) {
                Word x = rules.words.get(w);
                int place = behind + x.stress;
                if (x.kind != 3 && rules.metre == 1 && place % 2 != 0) return false;
                if (x.kind != 3 && rules.metre == 2 && place % 2 != 1) return false;
                behind += x.syllables;
            }
            return true;
        }

        boolean passes(List<Integer> l, int w, int c) {
            if (l.isEmpty()) return false;
            int[] ware = rules.wares.get(w);
            if (countOf(l, c) != ware[0] || !scans(l)) return false;
            return rules.clerks.get(c) == 2 || rules.words.get(l.get(l.size() - 1)).rhymesWith(rules.ports[ware[1]]);
        }

        int counts(int c) {
            return noClerk(c) ? UNKNOWN : countOf(line, c);
        }

        int scans() {
            return scans(line) ? 1 : 0;
        }

        int passes(int w, int c) {
            return noWare(w) || noClerk(c) ? UNKNOWN : passes(line, w, c) ? 1 : 0;
        }

        void remember() {
            past.addLast(state.copy());
            if (past.size() > 8) past.removeFirst();
        }

        /** Whether the last word's rhyme lets it; it is used then. */
        boolean useRhyme(int last, int[] used) {
            Word x = rules.words.get(last);
            if (x.kind == 2) return true;
            if (used[x.rhyme] >= rules.uses[x.rhyme]) return false;
            used[x.rhyme]++;
            return true;
        }

        int declare(int w, int c) {
            if (noWare(w) || noClerk(c)) return UNKNOWN;
            if (state.fate[w] != 0) return NOT;
            if (state.day == 99) return FULL;
            remember();
            state.day++;
            boolean good = passes(line, w, c) && useRhyme(line.get(line.size() - 1), state.used);
            state.fate[w] = good ? 1 : 2;
            int pays = good ? rules.wares.get(w)[0] : 0;
            state.paid += pays;
            return pays;
        }

        int prose(int w) {
            if (noWare(w)) return UNKNOWN;
            if (state.fate[w] != 0) return NOT;
            if (state.day == 99) return FULL;
            remember();
            state.day++;
            state.fate[w] = 3;
            state.paid += 3 * rules.wares.get(w)[0];
            return 3 * rules.wares.get(w)[0];
        }

        int day() {
            if (state.day == 99) return FULL;
            remember();
            return ++state.day;
        }

        int undo() {
            if (past.isEmpty()) return NOT;
            state = past.removeLast();
            return past.size();
        }

        int keep(int k) {
            if (k != 0 && k != 1) return UNKNOWN;
            kept[k] = state.copy();
            return state.day;
        }

        int back(int k) {
            if (k != 0 && k != 1) return UNKNOWN;
            if (kept[k] == null) return NOT;
            state = kept[k].copy();
            past.clear();
            return state.day;
        }

        /** All lines of n words for which it holds, the first first. */
        List<List<Integer>> lines(int n, Predicate<List<Integer>> holds) {
            List<List<Integer>> found = new ArrayList<>();
            extend(new ArrayList<>(), n, holds, found);
            return found;
        }

        private void extend(List<Integer> l, int n, Predicate<List<Integer>> holds, List<List<Integer>> found) {
            if (l.size() == n) {
                if (holds.test(l)) found.add(new ArrayList<>(l));
                return;
            }
            for (int w = 0; w < rules.words.size(); w++) {
                l.add(w);
                extend(l, n, holds, found);
                l.remove(l.size() - 1);
            }
        }

        List<List<Integer>> shortest(Predicate<List<Integer>> holds) {
            for (int n = 1; n <= 4; n++) {
                List<List<Integer>> found = lines(n, holds);
                if (!found.isEmpty()) return found;
            }
            return List.of();
        }

        int shortest(int w, int c, int what) {
            if (noWare(w) || noClerk(c)) return UNKNOWN;
            if (what != 0 && what != 1) return OUTSIDE;
            List<List<Integer>> found = shortest(l -> passes(l, w, c));
            return found.isEmpty() ? NONE : what == 0 ? found.get(0).size() : found.size();
        }

        int shortestWord(int w, int c, int i) {
            if (noWare(w) || noClerk(c)) return UNKNOWN;
            if (i < 0) return OUTSIDE;
            List<List<Integer>> found = shortest(l -> passes(l, w, c));
            return found.isEmpty() || i >= found.get(0).size() ? NONE : found.get(0).get(i);
        }

        boolean passesAll(List<Integer> l, int w) {
            for (int c = 0; c < rules.clerks.size(); c++) if (!passes(l, w, c)) return false;
            return true;
        }

        int forAll(int w, int what) {
            if (noWare(w)) return UNKNOWN;
            if (what != 0 && what != 1) return OUTSIDE;
            if (rules.clerks.isEmpty()) return NOT;
            List<List<Integer>> found = shortest(l -> passesAll(l, w));
            return found.isEmpty() ? NONE : what == 0 ? found.get(0).size() : found.size();
        }

        int hidden(int n) {
            if (n < 1 || n > 4) return OUTSIDE;
            int most = NONE;
            for (List<Integer> l : lines(n, this::scans)) {
                int hides = 0;
                for (int i = 0; i + 1 < n; i++) if (rules.words.get(l.get(i)).kind == 1) hides++;
                most = Math.max(most, hides);
            }
            return most;
        }

        int altered(int w, int c, int i) {
            if (noWare(w) || noClerk(c)) return UNKNOWN;
            if (i < NONE) return OUTSIDE;
            if (line.isEmpty()) return NONE;
            int fewest = NONE;
            List<Integer> first = null;
            for (List<Integer> l : lines(line.size(), x -> passes(x, w, c))) {
                int changed = 0;
                for (int p = 0; p < l.size(); p++) if (!l.get(p).equals(line.get(p))) changed++;
                if (fewest == NONE || changed < fewest) {
                    fewest = changed;
                    first = l;
                }
            }
            if (i == NONE || first == null) return fewest;
            return i >= first.size() ? NONE : first.get(i);
        }

        int laden(int h, int what) {
            if (h < 1 || h > 72 || what < 0 || what > 2) return OUTSIDE;
            int[] best = {-1, 0, 0};
            int n = rules.wares.size();
            for (int a = 0; a < 1 << n; a++) {
                for (int b = 0; b < 1 << n; b++) {
                    int x = 0, y = 0;
                    for (int w = 0; w < n; w++) {
                        if ((a & 1 << w) != 0) x += rules.wares.get(w)[0];
                        if ((b & 1 << w) != 0) y += rules.wares.get(w)[0];
                    }
                    if ((a & b) == 0 && x <= h && y <= h && x + y > best[0]) best = new int[] {x + y, a, b};
                }
            }
            return best[what];
        }

        /** Every set of wares is tried: the largest whose rhymes suffice. */
        int left(int what) {
            if (what < 0 || what > 1) return OUTSIDE;
            int worn = 0;
            for (int p = 0; p < 4; p++) if (state.used[rules.ports[p]] >= rules.uses[rules.ports[p]]) worn += 1 << p;
            if (what == 1) return worn;
            int most = 0;
            for (int set = 0; set < 1 << rules.wares.size(); set++) {
                int[] used = state.used.clone();
                boolean good = true;
                for (int w = 0; w < rules.wares.size(); w++) {
                    if ((set & 1 << w) == 0) continue;
                    int r = rules.ports[rules.wares.get(w)[1]];
                    if (state.fate[w] != 0 || ++used[r] > rules.uses[r]) good = false;
                }
                if (good) most = Math.max(most, Integer.bitCount(set));
            }
            return most;
        }

        int odds(int w, int c, int n, int part) {
            if (noWare(w) || noClerk(c)) return UNKNOWN;
            if (n < 1 || n > 4 || part < 0 || part > 1) return OUTSIDE;
            if (rules.words.isEmpty()) return NOT;
            int above = lines(n, l -> passes(l, w, c)).size(), below = lines(n, l -> true).size();
            for (int d = below; d > 1; d--) {
                if (above % d == 0 && below % d == 0) {
                    above /= d;
                    below /= d;
                }
            }
            return part == 0 ? above : below;
        }

        int year() {
            if (rules.clerks.isEmpty()) return NOT;
            int[] used = state.used.clone();
            int paid = 0;
            for (int w = 0; w < rules.wares.size(); w++) {
                if (state.fate[w] != 0) continue;
                int ware = w;
                List<List<Integer>> found = shortest(l -> passes(l, ware, 0));
                boolean verse = !found.isEmpty() && useRhyme(found.get(0).get(found.get(0).size() - 1), used);
                paid += (verse ? 1 : 3) * rules.wares.get(w)[0];
            }
            return paid;
        }

        int secret(int n) {
            if (n < 1 || n > 3) return OUTSIDE;
            int had = claims.size();
            claims.clear();
            secret = n;
            return had;
        }

        int counted(int c, int many) {
            if (noClerk(c)) return UNKNOWN;
            if (many < 0 || many > 24) return OUTSIDE;
            if (secret == 0) return NOT;
            if (claims.size() == 6) return FULL;
            claims.add(new int[] {c, many});
            return claims.size();
        }

        List<List<Integer>> possible() {
            return lines(secret, l -> claims.stream().allMatch(x -> countOf(l, x[0]) == x[1]));
        }

        int canBe(int what) {
            if (what < 0 || what > 1) return OUTSIDE;
            if (secret == 0) return NOT;
            List<List<Integer>> found = possible();
            if (what == 0) return found.size();
            int set = 0;
            for (int w = 0; w < rules.wares.size() && !rules.clerks.isEmpty(); w++) {
                for (List<Integer> l : found) if (passes(l, w, 0)) set |= 1 << w;
            }
            return set;
        }

        int canBeWord(int i, int all) {
            if (i < 0 || all < 0 || all > 1) return OUTSIDE;
            if (secret == 0) return NOT;
            List<List<Integer>> found = possible();
            if (found.isEmpty() || i >= secret) return NONE;
            int word = found.get(0).get(i);
            for (List<Integer> l : found) if (all == 1 && l.get(i) != word) return NONE;
            return word;
        }

        int count(int what) {
            int open = 0;
            for (int w = 0; w < rules.wares.size(); w++) if (state.fate[w] == 0) open |= 1 << w;
            int[] all = {rules.words.size(), rules.wares.size(), rules.clerks.size(), rules.metre, state.day,
                state.paid, open, line.size(), claims.size(), past.size(), text.length()};
            return what < 0 || what >= all.length ? OUTSIDE : all[what];
        }
    }

    // ---- the runs

    private static final class Run {
        private static final String[] NAMES = {"plain", "elided", "false", "free", "port", "ware", "strict", "slurring",
            "deaf", "none", "rising", "falling", "uses", "customs"};
        private final int run;
        private long seed;
        private final VerseCustoms real = new VerseCustoms();
        private final Model model = new Model();
        private int calls = 0;

        Run(int run) {
            this.run = run;
            seed = run * 7919L + 17;
        }

        int pick(int n) {
            seed = seed * 6364136223846793005L + 1442695040888963407L;
            return (int) ((seed >>> 33) % n);
        }

        /** Mostly within 0 .. n - 1, now and then next to it or far out. */
        int near(int n) {
            int p = pick(40);
            if (p == 0) return -1;
            if (p == 1) return n;
            if (p == 2) return new int[] {Integer.MIN_VALUE, Integer.MAX_VALUE, -2, -6, 33, 1 << 16}[pick(6)];
            return pick(n);
        }

        void due(String call, int answer, int due) {
            calls++;
            if (answer == due) return;
            wrong++;
            System.out.println("run " + run + ", call " + calls + ": " + call + " answered " + answer + ", due is " + due);
        }

        void go() {
            while (calls < CALLS && wrong < 20) {
                int p = pick(300);
                if (calls == 0 || p == 0) tell(usual());
                else if (p == 1) tell(broken());
                else if (p == 2 && run % 4 == 0) for (int i = 0; i < 99; i++) due("day", real.day(), model.day());
                else call(2 + pick(58));
            }
        }

        void tell(String text) {
            for (int i = 0; i < text.length(); i++) {
                int letter = text.charAt(i);
                due("write", real.write(letter), model.write(letter));
            }
            due("fault of " + text, real.fault(), model.fault());
            due("customs of " + text, real.customs(), model.customs());
            if (pick(4) > 0) due("erase", real.erase(), model.erase());
            if (model.rules.words.isEmpty()) tell(usual());
        }

        String clause(String name) {
            int s = 1 + pick(3);
            switch (name) {
                case "plain": case "elided": case "false":
                    return name + " " + s + " " + (1 + pick(s)) + " " + pick(3);
                case "free": return name + s + " " + pick(3);
                case "port": return "port " + pick(4) + " " + pick(3);
                case "ware": return "ware " + (1 + pick(pick(3) == 0 ? 12 : 6)) + " " + pick(4);
                case "uses": return "uses " + pick(3) + " " + pick(3);
                default: return name;
            }
        }

        /** A text that tells enough for lines that pass. */
        String usual() {
            StringBuilder text = new StringBuilder();
            List<String> names = new ArrayList<>();
            if (pick(2) == 0) names.add("customs");
            for (int n = 2 + pick(run % 3 == 0 ? 7 : 3); n > 0; n--) names.add(NAMES[pick(4)]);
            for (int n = 2 + pick(run % 3 == 1 ? 5 : 2); n > 0; n--) names.add("ware");
            for (int n = 1 + pick(2); n > 0; n--) names.add(NAMES[6 + pick(3)]);
            for (int n = pick(4); n > 0; n--) names.add(NAMES[new int[] {4, 9, 10, 11, 12}[pick(5)]]);
            while (names.size() > 14) names.remove(pick(names.size()));
            for (String name : names) {
                if (text.length() > 0) text.append(pick(5) == 0 ? " ; " : ";");
                text.append(clause(name));
            }
            return text.toString();
        }

        String broken() {
            StringBuilder text = new StringBuilder(usual());
            for (int n = 1 + pick(2); n > 0; n--) {
                int at = pick(text.length());
                switch (pick(5)) {
                    case 0: text.setCharAt(at, "; 019az-A\u00e9".charAt(pick(10))); break;
                    case 1: text.deleteCharAt(at); break;
                    case 2: text.insert(at, "; 0459pz".charAt(pick(8))); break;
                    case 3: text.setLength(at + 1); break;
                    default: text.append(";").append(clause(NAMES[pick(14)])); break;
                }
            }
            return text.toString();
        }

        void call(int p) {
            int w = near(4), c = near(2), v = near(5), what = near(2), x = near(4), y = near(6), z = near(12);
            int h = near(pick(2) == 0 ? 20 : 80);
            switch (p) {
                case 2: { int a = near(300); due("write", real.write(a), model.write(a)); break; }
                case 3: due("erase", real.erase(), model.erase()); break;
                case 4: due("fault", real.fault(), model.fault()); break;
                case 5: due("word", real.word(v, x), model.word(v, x)); break;
                case 6: due("ware", real.ware(w, x), model.ware(w, x)); break;
                case 7: due("clerk", real.clerk(c), model.clerk(c)); break;
                case 8: due("rhyme", real.rhyme(y, what), model.rhyme(y, what)); break;
                case 9: due("rhyme", real.rhyme(y, 2), model.rhyme(y, 2)); break;
                case 10: due("as", real.as(v, y), model.as(v, y)); break;
                case 11: due("clerkAs", real.clerkAs(c, x), model.clerkAs(c, x)); break;
                case 12: case 13: case 14: due("put", real.put(v), model.put(v)); break;
                case 15: due("wipe", real.wipe(), model.wipe()); break;
                case 16: due("line", real.line(y), model.line(y)); break;
                case 17: due("counts", real.counts(c), model.counts(c)); break;
                case 18: due("scans", real.scans(), model.scans()); break;
                case 19: due("passes", real.passes(w, c), model.passes(w, c)); break;
                case 20: case 21: due("declare", real.declare(w, c), model.declare(w, c)); break;
                case 22: due("prose", real.prose(w), model.prose(w)); break;
                case 23: case 24: due("day", real.day(), model.day()); break;
                case 25: case 26: due("undo", real.undo(), model.undo()); break;
                case 27: due("keep", real.keep(what), model.keep(what)); break;
                case 28: due("back", real.back(what), model.back(what)); break;
                case 29: case 30: due("shortest", real.shortest(w, c, what), model.shortest(w, c, what)); break;
                case 31: case 32: due("shortestWord", real.shortestWord(w, c, x), model.shortestWord(w, c, x)); break;
                case 33: case 34: due("forAll", real.forAll(w, what), model.forAll(w, what)); break;
                case 35: due("hidden", real.hidden(y), model.hidden(y)); break;
                case 36: case 37: due("altered", real.altered(w, c, NONE), model.altered(w, c, NONE)); break;
                case 38: due("altered", real.altered(w, c, y), model.altered(w, c, y)); break;
                case 39: case 40: case 41: due("laden", real.laden(h, x), model.laden(h, x)); break;
                case 42: case 43: due("left", real.left(what), model.left(what)); break;
                case 44: case 45: due("odds", real.odds(w, c, y, what), model.odds(w, c, y, what)); break;
                case 46: case 47: due("year", real.year(), model.year()); break;
                case 48: due("secret", real.secret(x), model.secret(x)); break;
                case 49: case 50: due("counted", real.counted(c, z), model.counted(c, z)); break;
                case 51: case 52: due("canBe", real.canBe(what), model.canBe(what)); break;
                case 53: case 54: case 55:
                    due("canBeWord", real.canBeWord(x, what), model.canBeWord(x, what)); break;
                case 56: passLine(w, c); break;
                default: due("count", real.count(z), model.count(z)); break;
            }
        }

        /** Puts the shortest line together, so that declaring passes more often. */
        private void passLine(int w, int c) {
            due("wipe", real.wipe(), model.wipe());
            for (int i = 0; i < 4; i++) {
                int word = model.shortestWord(w, c, i);
                due("shortestWord", real.shortestWord(w, c, i), word);
                if (word >= 0) due("put", real.put(word), model.put(word));
            }
            due("passes", real.passes(w, c), model.passes(w, c));
            if (pick(2) == 0) due("declare", real.declare(w, c), model.declare(w, c));
            if (pick(2) == 0) due("put", real.put(0), model.put(0));
            for (int i = -1; i < 6; i++) due("altered", real.altered(w, c, i), model.altered(w, c, i));
        }
    }
}
