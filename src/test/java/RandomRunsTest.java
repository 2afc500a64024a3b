import java.util.ArrayDeque;
import java.util.ArrayList;
import java.util.Arrays;
import java.util.Deque;
import java.util.List;
import java.util.Random;
import java.util.regex.Matcher;
import java.util.regex.Pattern;

/** Random runs of calls, each answer against a second model that follows the document word by word. */
public final class RandomRunsTest {
    private static final int RUNS = 1500, CALLS = 512, MOST_AT_ONCE = 3;
    private static final int NONE = -1, UNKNOWN = -2, OUTSIDE = -3, NOT = -4, FULL = -5;
    private static final int[] FAR = {Integer.MIN_VALUE, -7, -1, 9, 41, 256, 300, Integer.MAX_VALUE};

    private static final String[] CALL = {
        "write", "erase", "fault", "tell", "part", "letter", "packets", "room", "need", "weigh", "drop", "pack",
        "lose", "cut", "spoil", "again", "undo", "number", "packed", "read", "mended", "blamed", "opened",
        "plan", "lesser", "count"};
    private static final int[] OFTEN = {
        2, 1, 2, 1, 3, 3, 2, 2, 4, 3, 1, 5,
        4, 5, 14, 4, 6, 8, 12, 10, 14, 8, 2,
        2, 3, 8};

    public static void main(String[] args) {
        int[][] seen = new int[CALL.length][2];
        for (int run = 0; run < RUNS; run++) {
            if (!new Run(run, seen).goes()) {
                System.exit(1);
            }
        }
        for (int i = 0; i < CALL.length; i++) {
            boolean refuses = !List.of("erase", "fault").contains(CALL[i]);
            if (seen[i][0] == 0 || refuses && seen[i][1] == 0) {
                System.out.println(CALL[i] + " was never both answered and refused");
                System.exit(1);
            }
        }
        System.out.println(RUNS + " random runs are as the model's");
    }

    /** One run of calls on one object. */
    private static final class Run {
        final Random random;
        final int run;
        final int[][] seen;
        final FirstParts x = new FirstParts();
        final Model model = new Model();
        final List<String> log = new ArrayList<>();
        final Deque<Character> pending = new ArrayDeque<>();
        boolean tellNext = false;

        Run(int run, int[][] seen) {
            this.run = run;
            this.seen = seen;
            random = new Random(run * 7919L + 1);
        }

        boolean goes() {
            pend(manyParts());
            while (log.size() + MOST_AT_ONCE <= CALLS) {
                if (!oneCall()) {
                    System.out.println("run " + run + ":");
                    for (String line : log) {
                        System.out.println("  " + line);
                    }
                    return false;
                }
            }
            return true;
        }

        boolean oneCall() {
            if (!pending.isEmpty()) {
                return same(0, pending.poll(), 0, 0);
            }
            if (tellNext) {
                tellNext = false;
                return same(2, 0, 0, 0) && same(3, 0, 0, 0) && same(11, 0, 0, 0);
            }
            if (random.nextInt(150) == 0) {
                pend(random.nextInt(3) == 0 ? manyParts() : someText());
                return same(1, 0, 0, 0);
            }
            int call = pick();
            return same(call, first(call), second(call), random.nextInt(40) == 0 ? far() : random.nextInt(29));
        }

        void pend(String text) {
            for (char c : text.toCharArray()) {
                pending.add(c);
            }
            tellNext = true;
        }

        int pick() {
            int left = random.nextInt(Arrays.stream(OFTEN).sum());
            for (int i = 0; i < OFTEN.length; i++) {
                left -= OFTEN[i];
                if (left < 0) {
                    return i;
                }
            }
            return 0;
        }

        int far() {
            return FAR[random.nextInt(FAR.length)];
        }

        int first(int call) {
            if (random.nextInt(40) == 0) {
                return far();
            }
            switch (CALL[call]) {
                case "write":
                    return random.nextInt(256);
                case "packets":
                    return 1 + random.nextInt(8);
                case "room":
                    return 1 + random.nextInt(40);
                case "lose":
                case "cut":
                case "spoil":
                case "again":
                case "number":
                case "blamed":
                    return random.nextInt(8);
                case "opened":
                    return random.nextInt(9);
                case "lesser":
                    return random.nextInt(41);
                case "count":
                    return random.nextInt(15);
                default:
                    return random.nextInt(5);
            }
        }

        int second(int call) {
            if (random.nextInt(40) == 0) {
                return far();
            }
            switch (CALL[call]) {
                case "part":
                    return random.nextInt(4);
                case "need":
                    return 1 + random.nextInt(random.nextBoolean() ? 4 : 8);
                case "weigh":
                    return 1 + random.nextInt(9);
                case "packed":
                    return random.nextInt(6);
                case "letter":
                case "read":
                case "mended":
                    return random.nextInt(8);
                default:
                    return random.nextInt(random.nextBoolean() ? 6 : 30);
            }
        }

        String manyParts() {
            StringBuilder sb = new StringBuilder("all;packets " + (random.nextInt(3) + 6) + ";room 40");
            int parts = 1 + random.nextInt(6);
            for (int i = 0; i < parts; i++) {
                sb.append(';').append(partClause(1 + random.nextInt(9)));
            }
            return sb.toString();
        }

        String partClause(int letters) {
            StringBuilder word = new StringBuilder();
            for (int j = 0; j < letters; j++) {
                word.append((char) ('a' + random.nextInt(26)));
            }
            return "part " + word + " " + (1 + random.nextInt(random.nextBoolean() ? 3 : 6)) + " "
                    + (1 + random.nextInt(random.nextBoolean() ? 2 : 9));
        }

        String someText() {
            StringBuilder sb = new StringBuilder();
            int clauses = random.nextInt(6) == 0 ? 23 + random.nextInt(3) : 1 + random.nextInt(6);
            for (int i = 0; i < clauses; i++) {
                if (i > 0) {
                    sb.append(";");
                }
                sb.append(" ".repeat(random.nextInt(3) / 2)).append(someClause(clauses));
            }
            if (random.nextInt(3) == 0) {
                int place = random.nextInt(sb.length());
                sb.setCharAt(place, "a1 ;-0z9".charAt(random.nextInt(8)));
            }
            if (random.nextInt(6) == 0) {
                sb.setLength(random.nextInt(sb.length()));
            }
            return sb.toString();
        }

        String someClause(int clauses) {
            if (clauses > 20) {
                return random.nextInt(8) == 0 ? "room " + random.nextInt(43) : "all";
            }
            switch (random.nextInt(6)) {
                case 0:
                    return random.nextInt(3) == 0 ? "all" : "room 9";
                case 1:
                    return "packets " + (random.nextInt(4) == 0 ? random.nextInt(10) : 1 + random.nextInt(8));
                case 2:
                    return "room" + " ".repeat(random.nextInt(2)) + random.nextInt(42);
                default:
                    return partClause(random.nextInt(14) == 0 ? 13 : 1 + random.nextInt(12));
            }
        }

        boolean same(int call, int a, int b, int c) {
            int got = ofProgram(call, a, b, c);
            int want = model.answer(CALL[call], a, b, c);
            log.add(CALL[call] + "(" + a + ", " + b + ", " + c + ") answered " + got + ", due is " + want);
            seen[call][got <= UNKNOWN ? 1 : 0]++;
            return got == want;
        }

        int ofProgram(int call, int a, int b, int c) {
            switch (CALL[call]) {
                case "write": return x.write(a);
                case "erase": return x.erase();
                case "fault": return x.fault();
                case "tell": return x.tell();
                case "part": return x.part(a, b);
                case "letter": return x.letter(a, b);
                case "packets": return x.packets(a);
                case "room": return x.room(a);
                case "need": return x.need(a, b);
                case "weigh": return x.weigh(a, b);
                case "drop": return x.drop(a);
                case "pack": return x.pack();
                case "lose": return x.lose(a);
                case "cut": return x.cut(a, b);
                case "spoil": return x.spoil(a, b, c);
                case "again": return x.again(a);
                case "undo": return x.undo();
                case "number": return x.number(a, b);
                case "packed": return x.packed(a, b);
                case "read": return x.read(a, b);
                case "mended": return x.mended(a, b);
                case "blamed": return x.blamed(a);
                case "opened": return x.opened(a);
                case "plan": return x.plan(a);
                case "lesser": return x.lesser(a);
                default: return x.count(a);
            }
        }
    }

    /** A PART of the model. */
    private record Piece(String word, int need, int weight) {
        int stripes() {
            return (int) Math.ceil(word.length() / (double) need);
        }

        int[] stripe(int s) {
            int[] c = new int[need];
            for (int j = 0; j < need && s * need + j < word.length(); j++) {
                c[j] = word.charAt(s * need + j) - 'a';
            }
            return c;
        }
    }

    /** All that can be undone, copied whole ahead of each call. */
    private static final class State {
        int n = 4;
        int room = 20;
        List<Piece> parts = new ArrayList<>();
        List<Piece> packed = new ArrayList<>();
        int packedN = 0;
        List<Integer> owner = new ArrayList<>();
        List<Integer> stripeNo = new ArrayList<>();
        int[][] sent = new int[0][];
        int[][] now = new int[0][];
        int[] left = new int[0];
        boolean[] lost = new boolean[0];

        State copy() {
            State s = new State();
            s.n = n;
            s.room = room;
            s.parts = new ArrayList<>(parts);
            s.packed = new ArrayList<>(packed);
            s.packedN = packedN;
            s.owner = new ArrayList<>(owner);
            s.stripeNo = new ArrayList<>(stripeNo);
            s.sent = copyRows(sent);
            s.now = copyRows(now);
            s.left = left.clone();
            s.lost = lost.clone();
            return s;
        }

        private static int[][] copyRows(int[][] rows) {
            int[][] copy = new int[rows.length][];
            for (int i = 0; i < rows.length; i++) {
                copy[i] = rows[i].clone();
            }
            return copy;
        }
    }

    private static final class Model {
        private static final Pattern TOKEN = Pattern.compile("[a-z]+|[0-9]+|[^ ]", Pattern.DOTALL);
        State s = new State();
        final Deque<State> history = new ArrayDeque<>();
        String text = "";
        List<String[]> clauses = new ArrayList<>();

        int answer(String call, int a, int b, int c) {
            switch (call) {
                case "write":
                    if (a < 0 || a > 255) return OUTSIDE;
                    if (text.length() == 200) return FULL;
                    text += (char) a;
                    return text.length();
                case "erase":
                    int had = text.length();
                    text = "";
                    return had;
                case "fault":
                    return fault();
                case "tell":
                    return tell();
                case "part":
                    if (!has(a)) return UNKNOWN;
                    if (b < 0 || b > 3) return OUTSIDE;
                    Piece p = s.parts.get(a);
                    return List.of(p.word.length(), p.need, p.weight, p.stripes()).get(b);
                case "letter":
                    if (!has(a) || b < 0 || b >= s.parts.get(a).word.length()) return UNKNOWN;
                    return s.parts.get(a).word.charAt(b) - 'a';
                case "packets": case "room": case "need": case "weigh": case "drop": case "pack":
                case "lose": case "cut": case "spoil": case "again":
                    return changed(call, a, b, c);
                case "undo":
                    if (history.isEmpty()) return NOT;
                    s = history.removeLast();
                    return history.size();
                case "opened":
                    return opened(a);
                case "plan":
                    if (!has(a)) return UNKNOWN;
                    int[] plan = plan();
                    return plan == null ? NONE : plan[a];
                case "lesser":
                    return lesser(a);
                case "count":
                    return count(a);
                default:
                    return ofPacked(call, a, b);
            }
        }

        boolean has(int part) {
            return part >= 0 && part < s.parts.size();
        }

        int fault() {
            clauses = new ArrayList<>();
            List<String> tokens = new ArrayList<>();
            List<Integer> places = new ArrayList<>();
            Matcher m = TOKEN.matcher(text);
            while (m.find()) {
                tokens.add(m.group());
                places.add(m.start());
            }
            tokens.add("");
            places.add(text.length());
            int parts = s.parts.size();
            int t = 0;
            while (true) {
                String verb = tokens.get(t);
                if (verb.equals("part") && parts == 6) return places.get(t);
                String[] forms;
                switch (verb) {
                    case "all": forms = new String[] {}; parts = 0; break;
                    case "packets": forms = new String[] {"0?[1-8]"}; break;
                    case "room": forms = new String[] {"0?[1-9]|[123][0-9]|40"}; break;
                    case "part": forms = new String[] {"[a-z]{1,12}", "0?[1-8]", "0?[1-9]"}; parts++; break;
                    default: return places.get(t);
                }
                String[] clause = new String[4];
                clause[0] = verb;
                t++;
                for (int i = 0; i < forms.length; i++, t++) {
                    if (!tokens.get(t).matches(forms[i])) return places.get(t);
                    clause[i + 1] = tokens.get(t);
                }
                clauses.add(clause);
                if (tokens.get(t).isEmpty()) return NONE;
                if (!tokens.get(t).equals(";") || clauses.size() == 24) return places.get(t);
                t++;
            }
        }

        int tell() {
            if (fault() != NONE) return NOT;
            for (String[] c : clauses) {
                switch (c[0]) {
                    case "all": s.n = 4; s.room = 20; s.parts.clear(); break;
                    case "packets": s.n = Integer.parseInt(c[1]); break;
                    case "room": s.room = Integer.parseInt(c[1]); break;
                    default: s.parts.add(new Piece(c[1], Integer.parseInt(c[2]), Integer.parseInt(c[3])));
                }
            }
            text = "";
            history.clear();
            return clauses.size();
        }

        int changed(String call, int a, int b, int c) {
            State before = s.copy();
            int answer = change(call, a, b, c);
            if (answer >= 0) {
                history.addLast(before);
                if (history.size() > 8) history.removeFirst();
            }
            return answer;
        }

        int change(String call, int a, int b, int c) {
            int was;
            switch (call) {
                case "packets":
                    if (a < 1 || a > 8) return OUTSIDE;
                    was = s.n;
                    s.n = a;
                    return was;
                case "room":
                    if (a < 1 || a > 40) return OUTSIDE;
                    was = s.room;
                    s.room = a;
                    return was;
                case "need":
                    if (!has(a)) return UNKNOWN;
                    if (b < 1 || b > 8) return OUTSIDE;
                    Piece p = s.parts.get(a);
                    s.parts.set(a, new Piece(p.word, b, p.weight));
                    return p.need;
                case "weigh":
                    if (!has(a)) return UNKNOWN;
                    if (b < 1 || b > 9) return OUTSIDE;
                    Piece q = s.parts.get(a);
                    s.parts.set(a, new Piece(q.word, q.need, b));
                    return q.weight;
                case "drop":
                    if (!has(a)) return UNKNOWN;
                    s.parts.remove(a);
                    return s.parts.size();
                case "pack":
                    return pack();
                default:
                    return a < 0 || a >= s.packedN ? UNKNOWN : changePacket(call, a, b, c);
            }
        }

        int changePacket(String call, int a, int b, int c) {
            switch (call) {
                case "lose":
                    if (s.lost[a]) return NOT;
                    s.lost[a] = true;
                    return s.left[a];
                case "cut":
                    if (b < 0 || b > s.left[a]) return OUTSIDE;
                    if (s.lost[a]) return NOT;
                    int go = s.left[a] - b;
                    s.left[a] = b;
                    return go;
                case "spoil":
                    if (!holds(a, b)) return UNKNOWN;
                    if (c < 0 || c > 28) return OUTSIDE;
                    int was = s.now[a][b];
                    s.now[a][b] = c;
                    return was;
                default:
                    int other = 0;
                    for (int i = 0; i < s.sent[a].length; i++) {
                        if (!holds(a, i) || s.now[a][i] != s.sent[a][i]) other++;
                    }
                    s.now[a] = s.sent[a].clone();
                    s.left[a] = s.sent[a].length;
                    s.lost[a] = false;
                    return other;
            }
        }

        boolean holds(int packet, int i) {
            return !s.lost[packet] && i >= 0 && i < s.left[packet];
        }

        int length(List<Piece> parts) {
            return parts.stream().mapToInt(Piece::stripes).sum();
        }

        boolean fits() {
            return length(s.parts) <= s.room && s.parts.stream().allMatch(p -> p.need <= s.n);
        }

        int pack() {
            if (s.parts.isEmpty() || !fits()) return NOT;
            s.packed = new ArrayList<>(s.parts);
            s.packedN = s.n;
            List<Integer> order = new ArrayList<>();
            for (int i = 0; i < s.packed.size(); i++) order.add(i);
            order.sort((i, j) -> s.packed.get(i).need - s.packed.get(j).need);
            s.owner = new ArrayList<>();
            s.stripeNo = new ArrayList<>();
            for (int i : order) {
                for (int t = 0; t < s.packed.get(i).stripes(); t++) {
                    s.owner.add(i);
                    s.stripeNo.add(t);
                }
            }
            int length = s.owner.size();
            s.sent = new int[s.n][length];
            for (int p = 0; p < s.n; p++) {
                for (int i = 0; i < length; i++) {
                    s.sent[p][i] = at(s.packed.get(s.owner.get(i)).stripe(s.stripeNo.get(i)), p + 1);
                }
            }
            s.now = State.copyRows(s.sent);
            s.left = new int[s.n];
            Arrays.fill(s.left, length);
            s.lost = new boolean[s.n];
            return length;
        }

        static int at(int[] c, int x) {
            long value = 0;
            long power = 1;
            for (int number : c) {
                value += number * power;
                power *= x;
            }
            return (int) (value % 29);
        }

        List<Integer> holders(int place) {
            List<Integer> list = new ArrayList<>();
            for (int p = 0; p < s.packedN; p++) {
                if (holds(p, place)) list.add(p);
            }
            return list;
        }

        /** The curve through the numbers of these packets at a place, by elimination. */
        int[] curve(List<Integer> packets, int place) {
            int k = packets.size();
            int[][] m = new int[k][k + 1];
            for (int i = 0; i < k; i++) {
                int x = packets.get(i) + 1;
                int power = 1;
                for (int j = 0; j < k; j++) {
                    m[i][j] = power;
                    power = power * x % 29;
                }
                m[i][k] = s.now[packets.get(i)][place];
            }
            for (int col = 0; col < k; col++) {
                int row = col;
                while (m[row][col] == 0) row++;
                int[] swap = m[row];
                m[row] = m[col];
                m[col] = swap;
                int inverse = 1;
                while (inverse * m[col][col] % 29 != 1) inverse++;
                for (int j = 0; j <= k; j++) m[col][j] = m[col][j] * inverse % 29;
                for (int i = 0; i < k; i++) {
                    int factor = m[i][col];
                    for (int j = 0; i != col && j <= k; j++) {
                        m[i][j] = Math.floorMod(m[i][j] - factor * m[col][j], 29);
                    }
                }
            }
            int[] c = new int[k];
            for (int i = 0; i < k; i++) c[i] = m[i][k];
            return c;
        }

        int differing(int[] c, List<Integer> holders, int place) {
            return (int) holders.stream().filter(p -> at(c, p + 1) != s.now[p][place]).count();
        }

        /** Each set of NEED holders is tried, whichever they are. */
        int[] mended(int place) {
            List<Integer> holders = holders(place);
            int need = s.packed.get(s.owner.get(place)).need;
            for (int set = 0; set < 1 << holders.size(); set++) {
                if (Integer.bitCount(set) != need) continue;
                List<Integer> some = new ArrayList<>();
                for (int i = 0; i < holders.size(); i++) {
                    if ((set & 1 << i) != 0) some.add(holders.get(i));
                }
                int[] c = curve(some, place);
                if (differing(c, holders, place) <= (holders.size() - need) / 2) return c;
            }
            return null;
        }

        boolean enough(int place) {
            return holders(place).size() >= s.packed.get(s.owner.get(place)).need;
        }

        int[] through(int place) {
            return curve(holders(place).subList(0, s.packed.get(s.owner.get(place)).need), place);
        }

        List<Integer> placesOf(int part) {
            List<Integer> places = new ArrayList<>();
            for (int i = 0; i < s.owner.size(); i++) {
                if (s.owner.get(i) == part) places.add(i);
            }
            return places;
        }

        int state(int part) {
            List<Integer> places = placesOf(part);
            if (!places.stream().allMatch(this::enough)) return 0;
            return places.stream().anyMatch(i -> differing(through(i), holders(i), i) > 0) ? 2 : 1;
        }

        int ofPacked(String call, int a, int b) {
            switch (call) {
                case "number":
                    if (a < 0 || a >= s.packedN || b < 0 || b >= s.owner.size()) return UNKNOWN;
                    return holds(a, b) ? s.now[a][b] : NONE;
                case "blamed":
                    if (a < 0 || a >= s.packedN) return UNKNOWN;
                    int times = 0;
                    for (int i = 0; i < s.owner.size(); i++) {
                        int[] c = enough(i) ? mended(i) : null;
                        if (c != null && holds(a, i) && at(c, a + 1) != s.now[a][i]) times++;
                    }
                    return times;
                case "packed":
                    return a < 0 || a >= s.packed.size() ? UNKNOWN : packed(a, b);
                default:
                    if (a < 0 || a >= s.packed.size()) return UNKNOWN;
                    if (b < 0 || b >= s.packed.get(a).word.length()) return UNKNOWN;
                    int need = s.packed.get(a).need;
                    int place = placesOf(a).get(b / need);
                    if (!enough(place)) return NOT;
                    int[] c = call.equals("read") ? through(place) : mended(place);
                    return c == null ? NONE : c[b % need];
            }
        }

        int packed(int part, int what) {
            Piece p = s.packed.get(part);
            switch (what) {
                case 0: return state(part);
                case 1: return p.need;
                case 2: return p.word.length();
                case 3: return placesOf(part).get(0);
                case 4: return placesOf(part).stream().mapToInt(i -> holders(i).size()).min().getAsInt();
                case 5:
                    int sets = 0;
                    for (int set = 0; set < Math.pow(2, s.packedN); set++) {
                        if (Integer.bitCount(set) >= p.need) sets++;
                    }
                    return sets;
                default: return OUTSIDE;
            }
        }

        int opened(int m) {
            if (m < 0 || m > 8) return OUTSIDE;
            int bits = 0;
            for (int i = 0; i < s.packed.size(); i++) {
                if (s.packed.get(i).need <= m) bits += 1 << i;
            }
            return bits;
        }

        int cost(List<Piece> parts) {
            return parts.stream().mapToInt(p -> p.weight * p.need).sum();
        }

        /** All rows of NEEDS in the order of their first difference: the first of the least is the PLAN. */
        int[] plan() {
            int size = s.parts.size();
            int[] needs = new int[size];
            Arrays.fill(needs, 1);
            int[] best = null;
            int least = Integer.MAX_VALUE;
            while (true) {
                int cost = 0;
                int length = 0;
                for (int i = 0; i < size; i++) {
                    int letters = s.parts.get(i).word.length();
                    cost += s.parts.get(i).weight * needs[i];
                    length += letters / needs[i] + (letters % needs[i] > 0 ? 1 : 0);
                }
                if (length <= s.room && cost < least) {
                    least = cost;
                    best = needs.clone();
                }
                int at = size - 1;
                while (at >= 0 && needs[at] == s.n) needs[at--] = 1;
                if (at < 0) return best;
                needs[at]++;
            }
        }

        int lesser(int r) {
            if (r < 0 || r > 40) return OUTSIDE;
            int best = 0;
            int most = 0;
            for (int set = (1 << s.parts.size()) - 1; set > 0; set--) {
                List<Piece> some = new ArrayList<>();
                for (int i = 0; i < s.parts.size(); i++) {
                    if ((set & 1 << i) != 0) some.add(s.parts.get(i));
                }
                int weight = some.stream().mapToInt(p -> p.weight).sum();
                if (length(some) <= r && weight > most) {
                    most = weight;
                    best = set;
                }
            }
            return best;
        }

        int count(int what) {
            switch (what) {
                case 0: return s.parts.size();
                case 1: return s.n;
                case 2: return s.room;
                case 3: return length(s.parts);
                case 4: return fits() ? 1 : 0;
                case 5: return cost(s.parts);
                case 6:
                    int[] plan = plan();
                    if (plan == null) return NONE;
                    int sum = 0;
                    for (int i = 0; i < plan.length; i++) sum += plan[i] * s.parts.get(i).weight;
                    return sum;
                case 7: return s.packed.size();
                case 8: return s.packedN;
                case 9: return s.owner.size();
                case 10:
                    int lost = 0;
                    for (boolean is : s.lost) lost += is ? 1 : 0;
                    return lost;
                case 11: case 12:
                    int found = 0;
                    for (int i = 0; i < s.packed.size(); i++) found += state(i) == (what == 11 ? 0 : 2) ? 1 : 0;
                    return found;
                case 13: return history.size();
                case 14: return text.length();
                default: return OUTSIDE;
            }
        }
    }
}
