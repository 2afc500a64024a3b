/**
 * Important parts first: words, each cut into stripes, each stripe a curve modulo 29 with one number
 * of it in each packet, so that any packets, as many as a word needs, open that word.
 */
public final class FirstParts {
    public static final int NONE = -1, UNKNOWN = -2, OUTSIDE = -3, NOT = -4, FULL = -5;

    private static final int PRIME = 29;
    private static final int MOST_PACKETS = 8, MOST_ROOM = 40, MOST_PARTS = 6;
    private static final int MOST_LETTERS = 12, MOST_NEED = 8, MOST_WEIGHT = 9;
    private static final int MOST_TEXT = 200, MOST_CLAUSES = 24, MOST_STEPS = 8;
    private static final int FIRST_PACKETS = 4, FIRST_ROOM = 20;
    private static final int SHUT = 0, OPEN = 1, DOUBT = 2;

    private final Text text;
    private final Reader reader;
    private final Line line;
    private final Steps steps;
    private final Planner planner;
    private final Curve curve;
    private Packed box;

    public FirstParts() {
        text = new Text();
        reader = new Reader(text);
        line = new Line();
        planner = new Planner();
        curve = new Curve();
        box = new Packed(line, 0, 0);
        steps = new Steps(box);
    }

    // ---- what is told

    public int write(int letter) {
        if (!within(letter, 0, 255)) {
            return OUTSIDE;
        }
        return text.add(letter) ? text.length : FULL;
    }

    public int erase() {
        int had = text.length;
        text.length = 0;
        return had;
    }

    public int fault() {
        return reader.firstFault(line.parts);
    }

    public int tell() {
        if (reader.firstFault(line.parts) != NONE) {
            return NOT;
        }
        for (int c = 0; c < reader.clauses && c < MOST_CLAUSES; c++) {
            carryOut(reader.clause[c]);
        }
        steps.forget();
        text.length = 0;
        return reader.clauses;
    }

    public int part(int part, int what) {
        if (!line.has(part)) {
            return UNKNOWN;
        }
        Part asked = line.row[part];
        switch (what) {
            case 0:
                return asked.word.length;
            case 1:
                return asked.need;
            case 2:
                return asked.weight;
            case 3:
                return asked.stripes();
            default:
                return OUTSIDE;
        }
    }

    public int letter(int part, int i) {
        if (!line.has(part) || !line.row[part].hasLetter(i)) {
            return UNKNOWN;
        }
        return line.row[part].word[i];
    }

    // ---- what is done

    public int packets(int n) {
        if (!within(n, 1, MOST_PACKETS)) {
            return OUTSIDE;
        }
        steps.keep(line, box, null);
        int was = line.packets;
        line.packets = n;
        return was;
    }

    public int room(int r) {
        if (!within(r, 1, MOST_ROOM)) {
            return OUTSIDE;
        }
        steps.keep(line, box, null);
        int was = line.room;
        line.room = r;
        return was;
    }

    public int need(int part, int k) {
        if (!line.has(part)) {
            return UNKNOWN;
        }
        if (!within(k, 1, MOST_NEED)) {
            return OUTSIDE;
        }
        steps.keep(line, box, null);
        Part was = line.row[part];
        line.row[part] = new Part(was.word, k, was.weight);
        return was.need;
    }

    public int weigh(int part, int g) {
        if (!line.has(part)) {
            return UNKNOWN;
        }
        if (!within(g, 1, MOST_WEIGHT)) {
            return OUTSIDE;
        }
        steps.keep(line, box, null);
        Part was = line.row[part];
        line.row[part] = new Part(was.word, was.need, g);
        return was.weight;
    }

    public int drop(int part) {
        if (!line.has(part)) {
            return UNKNOWN;
        }
        steps.keep(line, box, null);
        line.takeOut(part);
        return line.parts;
    }

    public int pack() {
        if (line.parts == 0 || !line.fits()) {
            return NOT;
        }
        steps.keep(line, box, null);
        box = new Packed(line, line.parts, line.packets);
        return box.length;
    }

    public int lose(int packet) {
        if (!box.hasPacket(packet)) {
            return UNKNOWN;
        }
        Packet asked = box.packets[packet];
        if (asked.lost) {
            return NOT;
        }
        steps.keep(line, box, asked);
        asked.lost = true;
        return asked.left;
    }

    public int cut(int packet, int m) {
        if (!box.hasPacket(packet)) {
            return UNKNOWN;
        }
        Packet asked = box.packets[packet];
        if (!within(m, 0, asked.left)) {
            return OUTSIDE;
        }
        if (asked.lost) {
            return NOT;
        }
        steps.keep(line, box, asked);
        int go = asked.left - m;
        asked.left = m;
        return go;
    }

    public int spoil(int packet, int i, int v) {
        if (!box.hasPacket(packet) || !box.packets[packet].holds(i)) {
            return UNKNOWN;
        }
        if (!within(v, 0, PRIME - 1)) {
            return OUTSIDE;
        }
        Packet asked = box.packets[packet];
        steps.keep(line, box, asked);
        int was = asked.now[i];
        asked.now[i] = v;
        return was;
    }

    public int again(int packet) {
        if (!box.hasPacket(packet)) {
            return UNKNOWN;
        }
        steps.keep(line, box, box.packets[packet]);
        return box.packets[packet].sendAgain(box.length);
    }

    public int undo() {
        if (steps.size == 0) {
            return NOT;
        }
        Step step = steps.takeBack();
        step.giveBack(line);
        box = step.box;
        return steps.size;
    }

    // ---- what is PACKED

    public int number(int packet, int i) {
        if (!box.hasPacket(packet) || !within(i, 0, box.length - 1)) {
            return UNKNOWN;
        }
        Packet asked = box.packets[packet];
        return asked.holds(i) ? asked.now[i] : NONE;
    }

    public int packed(int part, int what) {
        if (!box.hasPart(part)) {
            return UNKNOWN;
        }
        switch (what) {
            case 0:
                return box.stateOf(part, curve);
            case 1:
                return box.row[part].need;
            case 2:
                return box.row[part].word.length;
            case 3:
                return box.first[part];
            case 4:
                return box.fewestHolders(part);
            case 5:
                return box.openingSets(part);
            default:
                return OUTSIDE;
        }
    }

    public int read(int part, int i) {
        if (!box.hasPart(part) || !box.row[part].hasLetter(i)) {
            return UNKNOWN;
        }
        box.gather(part, box.row[part].stripeOf(i), curve);
        if (!curve.hasEnough()) {
            return NOT;
        }
        curve.goThroughFirst();
        return curve.coefficient(box.row[part].placeInStripe(i));
    }

    public int mended(int part, int i) {
        if (!box.hasPart(part) || !box.row[part].hasLetter(i)) {
            return UNKNOWN;
        }
        box.gather(part, box.row[part].stripeOf(i), curve);
        if (!curve.hasEnough()) {
            return NOT;
        }
        return curve.mend() ? curve.coefficient(box.row[part].placeInStripe(i)) : NONE;
    }

    public int blamed(int packet) {
        return box.hasPacket(packet) ? box.timesBlamed(packet, curve) : UNKNOWN;
    }

    public int opened(int m) {
        return within(m, 0, MOST_NEED) ? box.openedBy(m) : OUTSIDE;
    }

    // ---- foretold

    public int plan(int part) {
        if (!line.has(part)) {
            return UNKNOWN;
        }
        return planner.makePlan(line) ? planner.needs[part] : NONE;
    }

    public int lesser(int r) {
        return within(r, 0, MOST_ROOM) ? line.heaviestWithin(r) : OUTSIDE;
    }

    public int count(int what) {
        switch (what) {
            case 0:
                return line.parts;
            case 1:
                return line.packets;
            case 2:
                return line.room;
            case 3:
                return line.length();
            case 4:
                return line.fits() ? 1 : 0;
            case 5:
                return line.cost();
            case 6:
                return planner.makePlan(line) ? planner.cost : NONE;
            case 7:
                return box.parts;
            case 8:
                return box.n;
            case 9:
                return box.length;
            case 10:
                return box.lostPackets();
            case 11:
                return box.partsInState(SHUT, curve);
            case 12:
                return box.partsInState(DOUBT, curve);
            case 13:
                return steps.size;
            case 14:
                return text.length;
            default:
                return OUTSIDE;
        }
    }

    private void carryOut(Clause clause) {
        switch (clause.verb) {
            case Clause.ALL:
                line.beginAnew();
                break;
            case Clause.PACKETS:
                line.packets = clause.first;
                break;
            case Clause.ROOM:
                line.room = clause.first;
                break;
            default:
                line.append(partOf(clause));
                break;
        }
    }

    private Part partOf(Clause clause) {
        int[] word = text.wordAt(clause.wordFrom, clause.wordLength);
        return new Part(word, clause.first, clause.second);
    }

    private static boolean within(int v, int least, int most) {
        return v >= least && v <= most;
    }

    /** How many rows of k, the last one perhaps shorter, so many letters are. */
    private static int stripesFor(int letters, int k) {
        return k < 1 ? 0 : (letters + k - 1) / k;
    }

    /** The curve of k numbers, those of the row from a place on, at x; what the row lacks is 0. */
    private static int valueAt(int[] row, int from, int k, int x) {
        int value = 0;
        for (int j = k - 1; j >= 0; j--) {
            int c = within(from + j, 0, row.length - 1) ? row[from + j] : 0;
            value = Math.floorMod(value * x + c, PRIME);
        }
        return value;
    }

    /** A word with its NEED and WEIGHT; never changed, so that line, steps and packets can share it. */
    private static final class Part {
        final int[] word;
        final int need;
        final int weight;

        Part(int[] word, int need, int weight) {
            this.word = word;
            this.need = need;
            this.weight = weight;
        }

        boolean hasLetter(int i) {
            return within(i, 0, word.length - 1);
        }

        int stripes() {
            return stripesFor(word.length, need);
        }

        int stripeOf(int i) {
            return need < 1 ? 0 : i / need;
        }

        int placeInStripe(int i) {
            return need < 1 ? 0 : i % need;
        }
    }

    /** n, ROOM and the PARTS as they are now. */
    private static final class Line {
        final Part[] row;
        int parts;
        int packets;
        int room;

        Line() {
            row = new Part[MOST_PARTS];
            Part blank = new Part(new int[0], 1, 1);
            for (int i = 0; i < MOST_PARTS; i++) {
                row[i] = blank;
            }
            parts = 0;
            packets = FIRST_PACKETS;
            room = FIRST_ROOM;
        }

        void beginAnew() {
            parts = 0;
            packets = FIRST_PACKETS;
            room = FIRST_ROOM;
        }

        void copyOf(Line other) {
            for (int i = 0; i < MOST_PARTS; i++) {
                row[i] = other.row[i];
            }
            parts = other.parts;
            packets = other.packets;
            room = other.room;
        }

        boolean has(int part) {
            return within(part, 0, parts - 1);
        }

        void append(Part part) {
            if (parts < MOST_PARTS) {
                row[parts] = part;
                parts++;
            }
        }

        void takeOut(int part) {
            for (int i = part; i + 1 < parts; i++) {
                row[i] = row[i + 1];
            }
            parts--;
        }

        int length() {
            int sum = 0;
            for (int i = 0; i < parts; i++) {
                sum += row[i].stripes();
            }
            return sum;
        }

        int cost() {
            int sum = 0;
            for (int i = 0; i < parts; i++) {
                sum += row[i].weight * row[i].need;
            }
            return sum;
        }

        boolean fits() {
            for (int i = 0; i < parts; i++) {
                if (row[i].need > packets) {
                    return false;
                }
            }
            return length() <= room;
        }

        /** LESSER: sets are tried upwards, so a later one that weighs the same is the greater number. */
        int heaviestWithin(int r) {
            int best = 0;
            int bestWeight = 0;
            for (int set = 0; set < (1 << parts); set++) {
                int weight = weightWithin(set, r);
                if (weight >= bestWeight) {
                    best = set;
                    bestWeight = weight;
                }
            }
            return best;
        }

        /** What a set weighs, or NONE if its LENGTH is above r. */
        private int weightWithin(int set, int r) {
            int length = 0;
            int weight = 0;
            for (int i = 0; i < parts; i++) {
                if (((set >> i) & 1) == 1) {
                    length += row[i].stripes();
                    weight += row[i].weight;
                }
            }
            return length <= r ? weight : NONE;
        }
    }

    /** THE TEXT. */
    private static final class Text {
        final int[] letters;
        int length;

        Text() {
            letters = new int[MOST_TEXT];
            length = 0;
        }

        boolean add(int letter) {
            if (length >= MOST_TEXT) {
                return false;
            }
            letters[length] = letter;
            length++;
            return true;
        }

        boolean isSmallLetter(int i) {
            return i >= 0 && i < length && letters[i] >= 'a' && letters[i] <= 'z';
        }

        boolean isDigit(int i) {
            return i >= 0 && i < length && letters[i] >= '0' && letters[i] <= '9';
        }

        boolean isSign(int i, char sign) {
            return i >= 0 && i < length && letters[i] == sign;
        }

        boolean says(int from, int to, String word) {
            if (to - from != word.length()) {
                return false;
            }
            for (int i = 0; i < word.length(); i++) {
                if (!isSign(from + i, word.charAt(i))) {
                    return false;
                }
            }
            return true;
        }

        int[] wordAt(int from, int size) {
            int[] word = new int[within(size, 0, MOST_LETTERS) ? size : 0];
            for (int i = 0; i < word.length; i++) {
                word[i] = isSmallLetter(from + i) ? letters[from + i] - 'a' : 0;
            }
            return word;
        }
    }

    /** One CLAUSE as it was read. */
    private static final class Clause {
        static final int ALL = 0, PACKETS = 1, ROOM = 2, PART = 3;
        int verb;
        int wordFrom;
        int wordLength;
        int first;
        int second;
    }

    /** Reads THE TEXT token by token, up to the first one that cannot stand where it does. */
    private static final class Reader {
        private static final int END = 0, WORD = 1, DIGITS = 2, OTHER = 3;
        private final Text text;
        final Clause[] clause;
        int clauses;
        private int kind;
        private int from;
        private int to;
        private int partsByThen;
        private int value;

        Reader(Text text) {
            this.text = text;
            clause = new Clause[MOST_CLAUSES];
            for (int c = 0; c < MOST_CLAUSES; c++) {
                clause[c] = new Clause();
            }
        }

        /** NONE, or the place of the FAULT, if so many PARTS are there ahead of the first CLAUSE. */
        int firstFault(int partsNow) {
            to = 0;
            clauses = 0;
            partsByThen = partsNow;
            for (int c = 0; c < MOST_CLAUSES; c++) {
                if (!takeClause(clause[c])) {
                    return from;
                }
                clauses++;
                takeToken();
                if (kind == END) {
                    return NONE;
                }
                if (!text.isSign(from, ';')) {
                    return from;
                }
            }
            return from;
        }

        private boolean takeClause(Clause told) {
            takeToken();
            if (text.says(from, to, "all")) {
                told.verb = Clause.ALL;
                partsByThen = 0;
                return true;
            }
            if (text.says(from, to, "packets")) {
                told.verb = Clause.PACKETS;
                return takeFirst(told, MOST_PACKETS);
            }
            if (text.says(from, to, "room")) {
                told.verb = Clause.ROOM;
                return takeFirst(told, MOST_ROOM);
            }
            if (text.says(from, to, "part") && partsByThen < MOST_PARTS) {
                told.verb = Clause.PART;
                partsByThen++;
                return takeWord(told) && takeFirst(told, MOST_NEED) && takeSecond(told, MOST_WEIGHT);
            }
            return false;
        }

        private boolean takeWord(Clause told) {
            takeToken();
            told.wordFrom = from;
            told.wordLength = to - from;
            return kind == WORD && told.wordLength <= MOST_LETTERS;
        }

        private boolean takeFirst(Clause told, int most) {
            boolean stands = takeNumber(most);
            told.first = value;
            return stands;
        }

        private boolean takeSecond(Clause told, int most) {
            boolean stands = takeNumber(most);
            told.second = value;
            return stands;
        }

        private boolean takeNumber(int most) {
            takeToken();
            value = 0;
            if (kind != DIGITS || to - from > 2) {
                return false;
            }
            for (int i = from; i < to; i++) {
                value = value * 10 + (text.isDigit(i) ? text.letters[i] - '0' : 0);
            }
            return within(value, 1, most);
        }

        /** The next token is from .. to; at the end both are the length. */
        private void takeToken() {
            from = to;
            while (from < text.length && text.isSign(from, ' ')) {
                from++;
            }
            to = from;
            if (from >= text.length) {
                kind = END;
            } else if (text.isSmallLetter(from)) {
                kind = WORD;
                while (to < text.length && text.isSmallLetter(to)) {
                    to++;
                }
            } else if (text.isDigit(from)) {
                kind = DIGITS;
                while (to < text.length && text.isDigit(to)) {
                    to++;
                }
            } else {
                kind = OTHER;
                to++;
            }
        }
    }

    /** A PACKET: its numbers as they were sent, as they are, and how many of them are left. */
    private static final class Packet {
        final int[] sent;
        final int[] now;
        int left;
        boolean lost;

        Packet(int length) {
            sent = new int[MOST_ROOM];
            now = new int[MOST_ROOM];
            left = Math.min(length, MOST_ROOM);
            lost = false;
        }

        void put(int i, int number) {
            if (within(i, 0, MOST_ROOM - 1)) {
                sent[i] = number;
                now[i] = number;
            }
        }

        boolean holds(int i) {
            return !lost && within(i, 0, left - 1);
        }

        int sendAgain(int length) {
            int other = 0;
            for (int i = 0; i < length && i < MOST_ROOM; i++) {
                if (!holds(i) || now[i] != sent[i]) {
                    other++;
                }
                now[i] = sent[i];
            }
            left = Math.min(length, MOST_ROOM);
            lost = false;
            return other;
        }
    }

    /** What is PACKED: the PARTS as they were then, and the PACKETS. */
    private static final class Packed {
        final Part[] row;
        final int parts;
        final int[] first;
        final Packet[] packets;
        final int n;
        final int length;

        /** The first parts of the line into n packets; of none into none: nothing is PACKED. */
        Packed(Line line, int count, int n) {
            this.parts = Math.max(0, Math.min(count, MOST_PARTS));
            this.n = Math.max(0, Math.min(n, MOST_PACKETS));
            row = new Part[MOST_PARTS];
            first = new int[MOST_PARTS];
            for (int i = 0; i < MOST_PARTS; i++) {
                row[i] = line.row[i];
            }
            length = order();
            packets = new Packet[this.n];
            for (int p = 0; p < this.n; p++) {
                packets[p] = new Packet(length);
                fill(packets[p], p + 1);
            }
        }

        private int order() {
            int place = 0;
            for (int k = 1; k <= MOST_NEED; k++) {
                for (int i = 0; i < parts; i++) {
                    if (row[i].need == k) {
                        first[i] = place;
                        place += row[i].stripes();
                    }
                }
            }
            return place;
        }

        private void fill(Packet packet, int x) {
            for (int i = 0; i < parts; i++) {
                int k = row[i].need;
                for (int s = 0; s < row[i].stripes(); s++) {
                    packet.put(first[i] + s, valueAt(row[i].word, s * k, k, x));
                }
            }
        }

        boolean hasPart(int part) {
            return within(part, 0, parts - 1);
        }

        boolean hasPacket(int packet) {
            return within(packet, 0, n - 1);
        }

        /** The HOLDERS of a STRIPE, by the lowest PACKETS first, become the curve's points. */
        void gather(int part, int stripe, Curve curve) {
            int place = first[part] + stripe;
            curve.begin(row[part].need);
            for (int p = 0; p < n; p++) {
                if (packets[p].holds(place)) {
                    curve.hold(p + 1, packets[p].now[place]);
                }
            }
        }

        int stateOf(int part, Curve curve) {
            int state = OPEN;
            for (int s = 0; s < row[part].stripes(); s++) {
                gather(part, s, curve);
                if (!curve.hasEnough()) {
                    return SHUT;
                }
                curve.goThroughFirst();
                if (curve.agreeing() < curve.holders) {
                    state = DOUBT;
                }
            }
            return state;
        }

        int partsInState(int state, Curve curve) {
            int found = 0;
            for (int i = 0; i < parts; i++) {
                if (stateOf(i, curve) == state) {
                    found++;
                }
            }
            return found;
        }

        int fewestHolders(int part) {
            int fewest = n;
            for (int s = 0; s < row[part].stripes(); s++) {
                fewest = Math.min(fewest, holdersAt(first[part] + s));
            }
            return fewest;
        }

        private int holdersAt(int place) {
            int holders = 0;
            for (int p = 0; p < n; p++) {
                if (packets[p].holds(place)) {
                    holders++;
                }
            }
            return holders;
        }

        int openingSets(int part) {
            int sets = 0;
            for (int set = 0; set < (1 << n); set++) {
                if (Integer.bitCount(set) >= row[part].need) {
                    sets++;
                }
            }
            return sets;
        }

        int timesBlamed(int packet, Curve curve) {
            int times = 0;
            for (int i = 0; i < parts; i++) {
                for (int s = 0; s < row[i].stripes(); s++) {
                    if (blames(i, s, packet, curve)) {
                        times++;
                    }
                }
            }
            return times;
        }

        private boolean blames(int part, int stripe, int packet, Curve curve) {
            int place = first[part] + stripe;
            if (!packets[packet].holds(place)) {
                return false;
            }
            gather(part, stripe, curve);
            return curve.hasEnough() && curve.mend()
                    && curve.at(packet + 1) != packets[packet].now[place];
        }

        int openedBy(int m) {
            int bits = 0;
            for (int i = 0; i < parts; i++) {
                if (row[i].need <= m) {
                    bits |= 1 << i;
                }
            }
            return bits;
        }

        int lostPackets() {
            int lost = 0;
            for (int p = 0; p < n; p++) {
                if (packets[p].lost) {
                    lost++;
                }
            }
            return lost;
        }
    }

    /** The points of one STRIPE, and a curve of as many numbers as its NEED through some of them. */
    private static final class Curve {
        private static final int[] INVERSE = {
            0, 1, 15, 10, 22, 6, 5, 25, 11, 13, 3, 8, 17, 9, 27,
            2, 20, 12, 21, 26, 16, 18, 4, 24, 23, 7, 19, 14, 28
        };
        private final int[] x;
        private final int[] y;
        int holders;
        private int size;
        private final int[] chosen;
        private final int[] slope;
        private final int[] numbers;

        Curve() {
            x = new int[MOST_PACKETS];
            y = new int[MOST_PACKETS];
            chosen = new int[MOST_NEED];
            slope = new int[MOST_NEED];
            numbers = new int[MOST_NEED];
        }

        void begin(int need) {
            size = Math.max(1, Math.min(need, MOST_NEED));
            holders = 0;
        }

        void hold(int atX, int number) {
            if (holders < MOST_PACKETS) {
                x[holders] = atX;
                y[holders] = number;
                holders++;
            }
        }

        boolean hasEnough() {
            return holders >= size;
        }

        /** THROUGH. */
        void goThroughFirst() {
            goThrough((1 << size) - 1);
        }

        /**
         * MENDED, if there is one. With so many liars at most, as many as NEED of the first NEED and
         * liars tell the truth, so only sets of those are tried.
         */
        boolean mend() {
            int liars = (holders - size) / 2;
            for (int set = (1 << size) - 1; set < (1 << (size + liars)); set++) {
                if (Integer.bitCount(set) == size) {
                    goThrough(set);
                    if (agreeing() >= holders - liars) {
                        return true;
                    }
                }
            }
            return false;
        }

        int coefficient(int i) {
            return within(i, 0, size - 1) ? numbers[i] : 0;
        }

        int at(int place) {
            return valueAt(numbers, 0, size, place);
        }

        int agreeing() {
            int same = 0;
            for (int i = 0; i < holders; i++) {
                if (valueAt(numbers, 0, size, x[i]) == y[i]) {
                    same++;
                }
            }
            return same;
        }

        private void goThrough(int set) {
            int taken = 0;
            for (int i = 0; i < holders && taken < size; i++) {
                if (((set >> i) & 1) == 1) {
                    chosen[taken] = x[i];
                    slope[taken] = y[i];
                    taken++;
                }
            }
            divideDifferences();
            multiplyOut();
        }

        /** Newton's way: afterwards slope has the numbers by which the products of (x - chosen) go. */
        private void divideDifferences() {
            for (int j = 1; j < size; j++) {
                for (int i = size - 1; i >= j; i--) {
                    int inverse = INVERSE[Math.floorMod(chosen[i] - chosen[i - j], PRIME)];
                    slope[i] = Math.floorMod((slope[i] - slope[i - 1]) * inverse, PRIME);
                }
            }
        }

        private void multiplyOut() {
            for (int j = 0; j < size; j++) {
                numbers[j] = 0;
            }
            for (int i = size - 1; i >= 0; i--) {
                for (int j = size - 1; j >= 1; j--) {
                    numbers[j] = Math.floorMod(numbers[j - 1] - chosen[i] * numbers[j], PRIME);
                }
                numbers[0] = Math.floorMod(slope[i] - chosen[i] * numbers[0], PRIME);
            }
        }
    }

    /** The PLAN, by the least cost of the parts from each one on within each room. */
    private static final class Planner {
        private static final int TOO_DEAR = 1000000;
        private final int[][] least;
        final int[] needs;
        int cost;

        Planner() {
            least = new int[MOST_PARTS + 1][MOST_ROOM + 1];
            needs = new int[MOST_PARTS];
        }

        boolean makePlan(Line line) {
            int parts = line.parts;
            for (int r = 0; r <= MOST_ROOM; r++) {
                least[parts][r] = 0;
            }
            for (int i = parts - 1; i >= 0; i--) {
                for (int r = 0; r <= line.room; r++) {
                    least[i][r] = leastFrom(line, i, r);
                }
            }
            cost = least[0][line.room];
            if (cost >= TOO_DEAR) {
                return false;
            }
            chooseNeeds(line);
            return true;
        }

        private int leastFrom(Line line, int part, int room) {
            int best = TOO_DEAR;
            for (int k = 1; k <= line.packets; k++) {
                best = Math.min(best, costWith(line.row[part], k, part, room));
            }
            return best;
        }

        private int costWith(Part asked, int k, int part, int room) {
            int left = room - stripesFor(asked.word.length, k);
            return left < 0 ? TOO_DEAR : Math.min(TOO_DEAR, asked.weight * k + least[part + 1][left]);
        }

        /** From the first part on the lowest NEED that keeps the cost, as like plans are told apart. */
        private void chooseNeeds(Line line) {
            int left = line.room;
            for (int i = 0; i < line.parts; i++) {
                int k = 1;
                while (k < line.packets && costWith(line.row[i], k, i, left) != least[i][left]) {
                    k++;
                }
                needs[i] = k;
                left = Math.max(0, left - stripesFor(line.row[i].word.length, k));
            }
        }
    }

    /** What there was ahead of one call that can be undone. */
    private static final class Step {
        final Line line;
        Packed box;
        private Packet packet;
        private final int[] numbers;
        private int left;
        private boolean lost;

        Step(Packed nothing) {
            line = new Line();
            box = nothing;
            numbers = new int[MOST_ROOM];
        }

        /** A packet is kept only where the call changes one; else it is null. */
        void remember(Line lineNow, Packed boxNow, Packet changed) {
            line.copyOf(lineNow);
            box = boxNow;
            packet = changed;
            if (changed != null) {
                System.arraycopy(changed.now, 0, numbers, 0, MOST_ROOM);
                left = changed.left;
                lost = changed.lost;
            }
        }

        void giveBack(Line lineNow) {
            lineNow.copyOf(line);
            if (packet != null) {
                System.arraycopy(numbers, 0, packet.now, 0, MOST_ROOM);
                packet.left = left;
                packet.lost = lost;
            }
        }
    }

    /** The last calls that can be undone, in a ring. */
    private static final class Steps {
        private final Step[] ring;
        private int next;
        int size;

        Steps(Packed nothing) {
            ring = new Step[MOST_STEPS];
            for (int i = 0; i < MOST_STEPS; i++) {
                ring[i] = new Step(nothing);
            }
        }

        void keep(Line line, Packed box, Packet changed) {
            ring[next].remember(line, box, changed);
            next = (next + 1) % MOST_STEPS;
            size = Math.min(size + 1, MOST_STEPS);
        }

        Step takeBack() {
            next = (next + MOST_STEPS - 1) % MOST_STEPS;
            size = Math.max(0, size - 1);
            return ring[next];
        }

        void forget() {
            size = 0;
        }
    }
}
