/** Each promise of the document by hand: ordinary inputs, the edges that it names, wrong inputs. */
public final class PromiseTest {
    private static final int NONE = -1, UNKNOWN = -2, OUTSIDE = -3, NOT = -4, FULL = -5;
    private static final int[] FAR = {Integer.MIN_VALUE, -1000, 1000, Integer.MAX_VALUE};

    private static int promise = 0;
    private static int wrong = 0;

    public static void main(String[] args) {
        newObject();
        write();
        erase();
        fault();
        faultOfParts();
        tell();
        part();
        letter();
        packets();
        room();
        need();
        weigh();
        drop();
        pack();
        lose();
        cut();
        spoil();
        again();
        undo();
        undoEach();
        number();
        packed();
        read();
        mended();
        blamed();
        opened();
        plan();
        lesser();
        count();
        System.out.println(wrong == 0 ? "all promises hold" : wrong + " answers are not as due");
        if (wrong != 0) {
            System.exit(1);
        }
    }

    private static void due(String what, int got, int want) {
        if (got != want) {
            wrong++;
            System.out.println("promise " + promise + ": " + what + " answered " + got + ", due is " + want);
        }
    }

    private static void writeAll(FirstParts x, String text) {
        for (int i = 0; i < text.length(); i++) {
            x.write(text.charAt(i));
        }
    }

    private static FirstParts told(String text) {
        FirstParts x = new FirstParts();
        tellMore(x, text);
        return x;
    }

    private static void tellMore(FirstParts x, String text) {
        writeAll(x, text);
        if (x.tell() < 1) {
            wrong++;
            System.out.println("promise " + promise + ": not told: " + text);
        }
    }

    private static FirstParts packedOf(String text) {
        FirstParts x = told(text);
        if (x.pack() < 1) {
            wrong++;
            System.out.println("promise " + promise + ": not packed: " + text);
        }
        return x;
    }

    private static void faultDue(String text, int want) {
        FirstParts x = new FirstParts();
        writeAll(x, text);
        due("fault of '" + text + "'", x.fault(), want);
        due("tell of '" + text + "' refused", x.tell() == NOT ? 1 : 0, want == NONE ? 0 : 1);
    }

    private static String repeated(String s, int times) {
        return s.repeat(times);
    }

    private static void newObject() {
        promise = 1;
        FirstParts x = new FirstParts();
        int[] want = {0, 4, 20, 0, 1, 0, 0, 0, 0, 0, 0, 0, 0, 0, 0};
        for (int i = 0; i < want.length; i++) {
            due("count(" + i + ")", x.count(i), want[i]);
        }
        due("part(0, 0)", x.part(0, 0), UNKNOWN);
        due("packed(0, 0)", x.packed(0, 0), UNKNOWN);
        due("number(0, 0)", x.number(0, 0), UNKNOWN);
        due("undo()", x.undo(), NOT);
        FirstParts other = packedOf("part a 1 1");
        due("a second object", new FirstParts().count(7), 0);
        due("the first one", other.count(7), 1);
    }

    private static void write() {
        promise = 2;
        FirstParts x = new FirstParts();
        due("write(0)", x.write(0), 1);
        due("write(255)", x.write(255), 2);
        due("write(-1)", x.write(-1), OUTSIDE);
        due("write(256)", x.write(256), OUTSIDE);
        for (int far : FAR) {
            due("write(" + far + ")", x.write(far), OUTSIDE);
        }
        for (int i = 3; i <= 200; i++) {
            due("write(32)", x.write(32), i);
        }
        due("write(32) beyond 200", x.write(32), FULL);
        due("write(256) beyond 200", x.write(256), OUTSIDE);
        due("count(14)", x.count(14), 200);
    }

    private static void erase() {
        promise = 3;
        FirstParts x = new FirstParts();
        due("erase of nothing", x.erase(), 0);
        writeAll(x, "all;");
        due("erase", x.erase(), 4);
        due("count(14)", x.count(14), 0);
        due("erase again", x.erase(), 0);
        writeAll(x, "all");
        due("fault of a new text", x.fault(), NONE);
        writeAll(x, repeated(" ", 197));
        due("full", x.write(32), FULL);
        due("erase of a full one", x.erase(), 200);
        due("write", x.write(97), 1);
    }

    private static void fault() {
        promise = 4;
        faultDue("", 0);
        faultDue("   ", 3);
        faultDue("all", NONE);
        faultDue("  all  ", NONE);
        faultDue("al", 0);
        faultDue("alls", 0);
        faultDue("bll", 0);
        faultDue("qackets 1", 0);
        faultDue("All", 0);
        faultDue("all.", 3);
        faultDue("all;", 4);
        faultDue("all ;  ", 7);
        faultDue("all;;all", 4);
        faultDue(";all", 0);
        faultDue("all all", 4);
        faultDue("allall", 0);
        faultDue("all 1", 4);
        faultDue("all1", 3);
        faultDue("\tall", 0);
        faultDue("all\n", 3);
        faultDue("all" + (char) 200, 3);
        faultDue("packets", 7);
        faultDue("packets  ", 9);
        faultDue("packets ;", 8);
        faultDue("packets a", 8);
        faultDue("packets1", NONE);
        faultDue("packets 8", NONE);
        faultDue("packets 08", NONE);
        faultDue("packets 9", 8);
        faultDue("packets 0", 8);
        faultDue("packets 00", 8);
        faultDue("packets 008", 8);
        faultDue("packets 1 1", 10);
        faultDue("packets -1", 8);
        faultDue("packets 4a", 9);
        faultDue("room 1", NONE);
        faultDue("room 40", NONE);
        faultDue("room 0", 5);
        faultDue("room 41", 5);
        faultDue("room 99", 5);
        faultDue("room 040", 5);
        faultDue("room 4294967297", 5);
        faultDue("rooms 4", 0);
        faultDue("part a 1 1", NONE);
        faultDue("part a1 1", NONE);
        faultDue("part a11", 6);
        faultDue("parta 1 1", 0);
        faultDue("part", 4);
        faultDue("part 1", 5);
        faultDue("part a", 6);
        faultDue("part a b", 7);
        faultDue("part a 8 9", NONE);
        faultDue("part a 08 09", NONE);
        faultDue("part a 9 1", 7);
        faultDue("part a 0 1", 7);
        faultDue("part a 1 0", 9);
        faultDue("part a 1 10", 9);
        faultDue("part a 1 1 1", 11);
        faultDue("part a 1 ", 9);
        faultDue("part a 1;", 8);
        faultDue("part part 1 1;part all 2 2", NONE);
        faultDue("part abcdefghijkl 1 1", NONE);
        faultDue("part abcdefghijklm 1 1", 5);
        faultDue("part aB 1 1", 6);
        faultDue("all ; packets 3;room 7 ;part xyz 3 4", NONE);
        faultDue("all;pack 3", 4);
        faultDue(repeated("all;", 23) + "all", NONE);
        faultDue(repeated("all;", 23) + "all  ", NONE);
        faultDue(repeated("all;", 24), 95);
        faultDue(repeated("all;", 24) + "all", 95);
        faultDue(repeated("all;", 23) + "all all", 96);
        faultDue("all" + repeated(" ", 197), NONE);
        FirstParts x = new FirstParts();
        writeAll(x, "room 3;");
        due("nothing changes by fault()", x.fault(), 7);
        due("count(14)", x.count(14), 7);
        due("count(2)", x.count(2), 20);
    }

    private static void faultOfParts() {
        faultDue(repeated("part a1 1;", 5) + "part a1 1", NONE);
        faultDue(repeated("part a1 1;", 6) + "part a1 1", 60);
        faultDue(repeated("part a1 1;", 6) + "all;part a1 1", NONE);
        faultDue("part a1 1;all;" + repeated("part a1 1;", 5) + "part a1 1", NONE);
        faultDue("part a1 1;all;" + repeated("part a1 1;", 6) + "part a1 1", 74);
        faultDue(repeated("part a1 1;", 6) + "part", 60);
        faultDue(repeated("part a1 1;", 6) + "room 3", NONE);
        FirstParts x = told("part a1 1;part b1 1;part c1 1;part d1 1;part e1 1");
        writeAll(x, "part f 1 1");
        due("fault of a sixth", x.fault(), NONE);
        writeAll(x, "; part g 1 1");
        due("fault of a seventh", x.fault(), 12);
        x.drop(0);
        due("fault after a drop", x.fault(), NONE);
        x.undo();
        due("fault after its undo", x.fault(), 12);
        due("tell", x.tell(), NOT);
        due("count(14)", x.count(14), 22);
        due("count(0)", x.count(0), 5);
    }

    private static void tell() {
        promise = 5;
        FirstParts x = new FirstParts();
        writeAll(x, " packets 05 ; room07;part ab 1 9;part c2 3 ");
        due("tell", x.tell(), 4);
        due("count(14)", x.count(14), 0);
        due("n", x.count(1), 5);
        due("ROOM", x.count(2), 7);
        due("PARTS", x.count(0), 2);
        due("second of an empty text", x.tell(), NOT);
        due("pack", x.pack(), 3);
        x.room(9);
        due("undo there", x.count(13), 2);
        writeAll(x, "packets 9");
        due("refused", x.tell(), NOT);
        due("text stays", x.count(14), 9);
        due("steps stay", x.count(13), 2);
        x.erase();
        writeAll(x, "part d 1 1;packets 2");
        due("more", x.tell(), 2);
        due("nothing to undo", x.count(13), 0);
        due("undo", x.undo(), NOT);
        due("PARTS more", x.count(0), 3);
        due("its word", x.letter(2, 0), 3);
        due("ROOM stays", x.count(2), 9);
        due("n other", x.count(1), 2);
        due("PACKED stays", x.count(7), 2);
        due("its n stays", x.count(8), 5);
        writeAll(x, "room 3;all;part zz 8 1");
        due("all between", x.tell(), 3);
        due("ROOM as at first", x.count(2), 20);
        due("n as at first", x.count(1), 4);
        due("one PART", x.count(0), 1);
        due("PACKED stays still", x.count(9), 3);
        writeAll(x, repeated("all;", 23) + "all");
        due("24", x.tell(), 24);
        due("no PARTS", x.count(0), 0);
        x.room(3);
        writeAll(x, "part ab 8 1;room 9;room 8");
        due("in their order", x.tell(), 3);
        due("the later ROOM", x.count(2), 8);
    }

    private static void part() {
        promise = 6;
        FirstParts x = told("part abcdefghijkl 5 9;part a 8 1");
        int[] want = {12, 5, 9, 3, OUTSIDE};
        for (int what = 0; what < 5; what++) {
            due("part(0, " + what + ")", x.part(0, what), want[what]);
        }
        due("part(1, 0)", x.part(1, 0), 1);
        due("part(1, 3)", x.part(1, 3), 1);
        due("part(0, -1)", x.part(0, -1), OUTSIDE);
        due("part(2, 0)", x.part(2, 0), UNKNOWN);
        due("part(-1, 0)", x.part(-1, 0), UNKNOWN);
        due("part(2, 9)", x.part(2, 9), UNKNOWN);
        for (int far : FAR) {
            due("part(far, 0)", x.part(far, 0), UNKNOWN);
            due("part(0, far)", x.part(0, far), OUTSIDE);
        }
        for (int k = 1; k <= 8; k++) {
            x.need(0, k);
            due("STRIPES by " + k, x.part(0, 3), new int[] {12, 6, 4, 3, 3, 2, 2, 2}[k - 1]);
        }
    }

    private static void letter() {
        promise = 7;
        FirstParts x = told("part az 1 1;part packets 2 2");
        due("letter(0, 0)", x.letter(0, 0), 0);
        due("letter(0, 1)", x.letter(0, 1), 25);
        due("letter(0, 2)", x.letter(0, 2), UNKNOWN);
        due("letter(0, -1)", x.letter(0, -1), UNKNOWN);
        due("letter(1, 3)", x.letter(1, 3), 10);
        due("letter(2, 0)", x.letter(2, 0), UNKNOWN);
        due("letter(-1, 0)", x.letter(-1, 0), UNKNOWN);
        for (int far : FAR) {
            due("letter(far, 0)", x.letter(far, 0), UNKNOWN);
            due("letter(0, far)", x.letter(0, far), UNKNOWN);
        }
    }

    private static void packets() {
        promise = 8;
        FirstParts x = new FirstParts();
        due("packets(8)", x.packets(8), 4);
        due("packets(1)", x.packets(1), 8);
        due("packets(1)", x.packets(1), 1);
        due("packets(0)", x.packets(0), OUTSIDE);
        due("packets(9)", x.packets(9), OUTSIDE);
        for (int far : FAR) {
            due("packets(far)", x.packets(far), OUTSIDE);
        }
        due("n", x.count(1), 1);
        due("steps", x.count(13), 3);
        FirstParts y = packedOf("part a 2 1");
        y.packets(1);
        due("what is PACKED has its n", y.count(8), 4);
        due("its last packet", y.number(3, 0), 0);
    }

    private static void room() {
        promise = 9;
        FirstParts x = new FirstParts();
        due("room(40)", x.room(40), 20);
        due("room(1)", x.room(1), 40);
        due("room(1)", x.room(1), 1);
        due("room(0)", x.room(0), OUTSIDE);
        due("room(41)", x.room(41), OUTSIDE);
        for (int far : FAR) {
            due("room(far)", x.room(far), OUTSIDE);
        }
        due("ROOM", x.count(2), 1);
        due("steps", x.count(13), 3);
    }

    private static void need() {
        promise = 10;
        FirstParts x = packedOf("part abc 2 3;part d 1 1");
        due("need(0, 8)", x.need(0, 8), 2);
        due("need(0, 1)", x.need(0, 1), 8);
        due("need(0, 0)", x.need(0, 0), OUTSIDE);
        due("need(0, 9)", x.need(0, 9), OUTSIDE);
        due("need(2, 1)", x.need(2, 1), UNKNOWN);
        due("need(2, 9)", x.need(2, 9), UNKNOWN);
        due("need(-1, 1)", x.need(-1, 1), UNKNOWN);
        due("part(0, 1)", x.part(0, 1), 1);
        due("part(0, 2)", x.part(0, 2), 3);
        due("part(1, 1)", x.part(1, 1), 1);
        due("steps", x.count(13), 3);
        due("PACKED has its own", x.packed(0, 1), 2);
        for (int far : FAR) {
            due("need(far, 1)", x.need(far, 1), UNKNOWN);
            due("need(0, far)", x.need(0, far), OUTSIDE);
        }
    }

    private static void weigh() {
        promise = 11;
        FirstParts x = told("part abc 2 3;part d 1 1");
        due("weigh(0, 9)", x.weigh(0, 9), 3);
        due("weigh(0, 1)", x.weigh(0, 1), 9);
        due("weigh(0, 0)", x.weigh(0, 0), OUTSIDE);
        due("weigh(0, 10)", x.weigh(0, 10), OUTSIDE);
        due("weigh(2, 1)", x.weigh(2, 1), UNKNOWN);
        due("weigh(2, 10)", x.weigh(2, 10), UNKNOWN);
        due("weigh(-1, 1)", x.weigh(-1, 1), UNKNOWN);
        due("part(0, 2)", x.part(0, 2), 1);
        due("part(0, 1)", x.part(0, 1), 2);
        due("steps", x.count(13), 2);
        for (int far : FAR) {
            due("weigh(far, 1)", x.weigh(far, 1), UNKNOWN);
            due("weigh(0, far)", x.weigh(0, far), OUTSIDE);
        }
    }

    private static void drop() {
        promise = 12;
        FirstParts x = packedOf("part a 1 1;part b 2 2;part c 3 3");
        due("drop(3)", x.drop(3), UNKNOWN);
        due("drop(-1)", x.drop(-1), UNKNOWN);
        due("drop(1)", x.drop(1), 2);
        due("letter(0, 0)", x.letter(0, 0), 0);
        due("letter(1, 0)", x.letter(1, 0), 2);
        due("part(1, 1)", x.part(1, 1), 3);
        due("part(1, 2)", x.part(1, 2), 3);
        due("drop(2)", x.drop(2), UNKNOWN);
        due("LENGTH without it", x.count(3), 2);
        due("cost without it", x.count(5), 10);
        due("the last", x.drop(1), 1);
        due("LENGTH without both", x.count(3), 1);
        due("cost without both", x.count(5), 1);
        x.packets(2);
        due("it FITS without them", x.count(4), 1);
        due("sets without them", x.lesser(40), 1);
        due("plan without them", x.count(6), 1);
        due("PACKED without them", x.pack(), 1);
        due("it opens one", x.opened(8), 1);
        x.lose(0);
        x.lose(1);
        due("one is SHUT", x.count(11), 1);
        x.undo();
        x.undo();
        x.undo();
        x.undo();
        due("the last is back", x.undo() == 2 ? x.letter(1, 0) : 0, 2);
        due("drop(0)", x.drop(0), 1);
        due("drop(0)", x.drop(0), 0);
        due("drop(0) of none", x.drop(0), UNKNOWN);
        due("PACKED stays", x.count(7), 3);
        FirstParts six = told("part a1 1;part b1 1;part c1 1;part d1 1;part e1 1;part f1 1");
        due("the last of six", six.drop(5), 5);
        six.undo();
        due("the first of six", six.drop(0), 5);
        due("the last one then", six.letter(4, 0), 5);
        for (int far : FAR) {
            due("drop(far)", x.drop(far), UNKNOWN);
        }
        due("steps", x.count(13), 4);
    }

    private static void pack() {
        promise = 13;
        FirstParts x = new FirstParts();
        due("no PARTS", x.pack(), NOT);
        due("no step", x.count(13), 0);
        tellMore(x, "part abcdefghijkl 1 1;part abcdefgh 1 1");
        due("it just fits", x.pack(), 20);
        x.room(19);
        due("too long", x.pack(), NOT);
        x.need(0, 5);
        due("NEED above n", x.pack(), NOT);
        due("PACKED stays", x.count(9), 20);
        x.need(0, 4);
        due("NEED is n", x.pack(), 11);
        FirstParts y = packedOf("packets 8;room 3;part c 8 1;part b 3 1;part a 3 1");
        due("least NEED first", y.number(0, 0), 1);
        due("of like ones by number", y.number(0, 1), 0);
        due("the greatest last", y.number(0, 2), 2);
        FirstParts z = packedOf("packets 8;part hello 3 1");
        for (int p = 0; p < 8; p++) {
            int v = p + 1;
            due("first stripe at " + v, z.number(p, 0), (7 + 4 * v + 11 * v * v) % 29);
            due("filled stripe at " + v, z.number(p, 1), (11 + 14 * v) % 29);
        }
        z.lose(0);
        z.spoil(1, 0, 0);
        due("anew", z.pack(), 2);
        due("none is LOST", z.count(10), 0);
        due("none is spoiled", z.number(1, 0), (7 + 8 + 44) % 29);
        FirstParts full = told("room 40;part abcdefghijkl 1 1;part abcdefghijkl 1 1;part abcdefghijkl 1 1");
        tellMore(full, "part abcd 1 1");
        due("40 numbers", full.pack(), 40);
        due("the last of them", full.number(3, 39), 3);
    }

    private static void lose() {
        promise = 14;
        FirstParts x = new FirstParts();
        due("nothing PACKED", x.lose(0), UNKNOWN);
        tellMore(x, "packets 3;part abcd 1 1");
        due("not PACKED yet", x.lose(0), UNKNOWN);
        x.pack();
        x.packets(8);
        due("lose(3)", x.lose(3), UNKNOWN);
        due("lose(-1)", x.lose(-1), UNKNOWN);
        due("lose(2)", x.lose(2), 4);
        due("lose(2) twice", x.lose(2), NOT);
        due("count(10)", x.count(10), 1);
        x.cut(1, 3);
        due("of a cut one", x.lose(1), 3);
        x.cut(0, 0);
        due("of one cut to nothing", x.lose(0), 0);
        due("number(2, 0)", x.number(2, 0), NONE);
        for (int far : FAR) {
            due("lose(far)", x.lose(far), UNKNOWN);
        }
    }

    private static void cut() {
        promise = 15;
        FirstParts x = new FirstParts();
        due("nothing PACKED", x.cut(0, 0), UNKNOWN);
        due("nothing PACKED, below 0", x.cut(0, -1), UNKNOWN);
        tellMore(x, "packets 2;part abcdef 1 1");
        x.pack();
        due("cut(2, 0)", x.cut(2, 0), UNKNOWN);
        due("cut(-1, 0)", x.cut(-1, 0), UNKNOWN);
        due("cut(0, 7)", x.cut(0, 7), OUTSIDE);
        due("cut(0, -1)", x.cut(0, -1), OUTSIDE);
        due("cut(0, 6)", x.cut(0, 6), 0);
        due("that is a step", x.count(13), 2);
        due("cut(0, 4)", x.cut(0, 4), 2);
        due("cut(0, 5)", x.cut(0, 5), OUTSIDE);
        due("cut(0, 4)", x.cut(0, 4), 0);
        due("number(0, 3)", x.number(0, 3), 3);
        due("number(0, 4)", x.number(0, 4), NONE);
        due("number(1, 4)", x.number(1, 4), 4);
        x.lose(0);
        due("LOST, too many", x.cut(0, 5), OUTSIDE);
        due("LOST", x.cut(0, 4), NOT);
        due("LOST, below 0", x.cut(0, -1), OUTSIDE);
        due("cut(1, 0)", x.cut(1, 0), 6);
        due("a cut one is not LOST", x.count(10), 1);
        for (int far : FAR) {
            due("cut(far, 0)", x.cut(far, 0), UNKNOWN);
            due("cut(1, far)", x.cut(1, far), OUTSIDE);
        }
    }

    private static void spoil() {
        promise = 16;
        FirstParts x = new FirstParts();
        due("nothing PACKED", x.spoil(0, 0, 0), UNKNOWN);
        tellMore(x, "packets 2;part xyz 1 1");
        x.pack();
        due("spoil(0, 1, 0)", x.spoil(0, 1, 0), 24);
        due("spoil(0, 1, 28)", x.spoil(0, 1, 28), 0);
        due("spoil(0, 1, 28)", x.spoil(0, 1, 28), 28);
        due("steps", x.count(13), 4);
        due("spoil(0, 1, 29)", x.spoil(0, 1, 29), OUTSIDE);
        due("spoil(0, 1, -1)", x.spoil(0, 1, -1), OUTSIDE);
        due("spoil(0, 3, 0)", x.spoil(0, 3, 0), UNKNOWN);
        due("spoil(0, 3, 29)", x.spoil(0, 3, 29), UNKNOWN);
        due("spoil(0, -1, 0)", x.spoil(0, -1, 0), UNKNOWN);
        due("spoil(2, 0, 0)", x.spoil(2, 0, 0), UNKNOWN);
        due("spoil(-1, 0, 0)", x.spoil(-1, 0, 0), UNKNOWN);
        due("number(0, 1)", x.number(0, 1), 28);
        due("number(1, 1)", x.number(1, 1), 24);
        x.cut(0, 1);
        due("cut", x.spoil(0, 1, 0), UNKNOWN);
        due("not cut", x.spoil(0, 0, 5), 23);
        x.lose(0);
        due("LOST", x.spoil(0, 0, 0), UNKNOWN);
        for (int far : FAR) {
            due("spoil(far, 0, 0)", x.spoil(far, 0, 0), UNKNOWN);
            due("spoil(1, far, 0)", x.spoil(1, far, 0), UNKNOWN);
            due("spoil(1, 0, far)", x.spoil(1, 0, far), OUTSIDE);
        }
    }

    private static void again() {
        promise = 17;
        FirstParts x = new FirstParts();
        due("nothing PACKED", x.again(0), UNKNOWN);
        tellMore(x, "packets 2;part abcdef 1 1");
        x.pack();
        due("as it was", x.again(0), 0);
        due("that is a step", x.count(13), 2);
        x.spoil(0, 0, 9);
        x.spoil(0, 5, 9);
        x.spoil(0, 1, 1);
        x.cut(0, 4);
        due("one other, two there again", x.again(0), 3);
        due("number(0, 0)", x.number(0, 0), 0);
        due("number(0, 5)", x.number(0, 5), 5);
        x.spoil(0, 2, 9);
        x.lose(0);
        due("all there again", x.again(0), 6);
        due("not LOST", x.count(10), 0);
        due("number(0, 2)", x.number(0, 2), 2);
        x.cut(0, 2);
        x.lose(0);
        due("LOST and cut", x.again(0), 6);
        due("cut(0, 6)", x.cut(0, 6), 0);
        due("again(2)", x.again(2), UNKNOWN);
        due("again(-1)", x.again(-1), UNKNOWN);
        for (int far : FAR) {
            due("again(far)", x.again(far), UNKNOWN);
        }
    }

    private static void undo() {
        promise = 18;
        FirstParts x = new FirstParts();
        due("none", x.undo(), NOT);
        for (int i = 1; i <= 12; i++) {
            x.room(i);
        }
        due("the last 8", x.count(13), 8);
        for (int i = 1; i <= 8; i++) {
            due("undo", x.undo(), 8 - i);
            due("ROOM", x.count(2), 12 - i);
        }
        due("no more", x.undo(), NOT);
        due("ROOM stays", x.count(2), 4);
        x.room(4);
        due("one by which nothing became other", x.undo(), 0);
        x.room(41);
        x.packets(9);
        x.drop(0);
        x.pack();
        x.lose(0);
        due("refused ones are none", x.undo(), NOT);
        x.room(5);
        x.packets(5);
        x.undo();
        x.packets(6);
        due("two", x.undo(), 1);
        due("n", x.count(1), 4);
        due("one", x.undo(), 0);
        due("ROOM before", x.count(2), 4);
        writeAll(x, "abc");
        x.room(6);
        due("the text is left", x.undo(), 0);
        due("count(14)", x.count(14), 3);
    }

    private static void undoEach() {
        FirstParts x = packedOf("packets 3;part abc 2 3;part de 1 4;part f 3 5");
        x.spoil(0, 0, 20);
        x.cut(0, 4);
        x.lose(0);
        x.again(0);
        due("after again()", x.number(0, 0), 3);
        x.undo();
        due("LOST again", x.number(0, 0), NONE);
        due("LOST", x.count(10), 1);
        x.undo();
        due("not LOST", x.number(0, 0), 20);
        due("cut still", x.number(0, 4), NONE);
        x.undo();
        due("not cut", x.number(0, 4), 5);
        x.undo();
        due("not spoiled", x.number(0, 0), 3);
        due("pack() left", x.undo(), 0);
        due("nothing PACKED", x.count(7), 0);
        due("no packets", x.number(0, 0), UNKNOWN);
        x.pack();
        x.lose(1);
        x.spoil(2, 1, 28);
        x.drop(0);
        x.packets(8);
        x.pack();
        x.spoil(2, 1, 27);
        due("the later box", x.count(8), 8);
        x.undo();
        x.undo();
        due("the box before", x.count(8), 3);
        due("its LOST one", x.number(1, 0), NONE);
        due("its spoiled one", x.number(2, 1), 28);
        due("n before", x.undo() == 4 ? x.count(1) : 0, 3);
        due("the PART is back", x.undo() == 3 ? x.part(0, 0) : 0, 3);
        due("and those behind it", x.part(1, 0) * 10 + x.part(2, 0), 21);
        x.need(1, 7);
        x.weigh(1, 8);
        x.undo();
        due("WEIGHT", x.part(1, 2), 4);
        due("NEED", x.part(1, 1), 7);
        x.undo();
        due("NEED before", x.part(1, 1), 1);
        x.undo();
        due("not spoiled here", x.number(2, 1), 4);
    }

    private static void number() {
        promise = 19;
        FirstParts x = new FirstParts();
        due("nothing PACKED", x.number(0, 0), UNKNOWN);
        tellMore(x, "packets 2;part abc 1 1");
        x.pack();
        due("number(1, 2)", x.number(1, 2), 2);
        due("number(1, 3)", x.number(1, 3), UNKNOWN);
        due("number(1, -1)", x.number(1, -1), UNKNOWN);
        due("number(2, 0)", x.number(2, 0), UNKNOWN);
        due("number(-1, 0)", x.number(-1, 0), UNKNOWN);
        x.spoil(1, 2, 28);
        due("spoiled", x.number(1, 2), 28);
        x.cut(1, 2);
        due("cut", x.number(1, 2), NONE);
        due("beyond what was PACKED", x.number(1, 3), UNKNOWN);
        due("not cut", x.number(1, 1), 1);
        x.lose(1);
        due("LOST", x.number(1, 1), NONE);
        due("LOST, beyond", x.number(1, 3), UNKNOWN);
        for (int far : FAR) {
            due("number(far, 0)", x.number(far, 0), UNKNOWN);
            due("number(0, far)", x.number(0, far), UNKNOWN);
        }
    }

    private static void packed() {
        promise = 20;
        FirstParts x = packedOf("packets 5;part abcdef 3 1;part gh 2 1;part ijk 2 1;part lm 1 1");
        int[][] want = {{1, 3, 6, 5, 5, 16}, {1, 2, 2, 2, 5, 26}, {1, 2, 3, 3, 5, 26}, {1, 1, 2, 0, 5, 31}};
        for (int part = 0; part < 4; part++) {
            for (int what = 0; what < 6; what++) {
                due("packed(" + part + ", " + what + ")", x.packed(part, what), want[part][what]);
            }
        }
        due("packed(0, 6)", x.packed(0, 6), OUTSIDE);
        due("packed(0, -1)", x.packed(0, -1), OUTSIDE);
        due("packed(4, 0)", x.packed(4, 0), UNKNOWN);
        due("packed(4, 6)", x.packed(4, 6), UNKNOWN);
        due("packed(-1, 0)", x.packed(-1, 0), UNKNOWN);
        x.cut(0, 6);
        x.cut(1, 6);
        due("the fewest, by the last STRIPE", x.packed(0, 4), 3);
        due("just open", x.packed(0, 0), 1);
        x.cut(2, 6);
        due("SHUT by its last STRIPE", x.packed(0, 0), 0);
        due("others stay open", x.packed(2, 0), 1);
        due("sets do not ask what is LOST", x.packed(0, 5), 16);
        x.spoil(0, 5, 28);
        due("SHUT, though the other STRIPE is in doubt", x.packed(0, 0), 0);
        x.undo();
        x.undo();
        x.spoil(4, 5, 28);
        due("in DOUBT by its first STRIPE", x.packed(0, 0), 2);
        x.spoil(4, 6, 28);
        x.again(4);
        due("open again", x.packed(0, 0), 1);
        x.spoil(4, 6, 28);
        due("as many HOLDERS as NEED, so no DOUBT", x.packed(0, 0), 1);
        x.drop(0);
        due("the PARTS as they were then", x.packed(0, 2), 6);
        for (int far : FAR) {
            due("packed(far, 0)", x.packed(far, 0), UNKNOWN);
            due("packed(0, far)", x.packed(0, far), OUTSIDE);
        }
        FirstParts late = packedOf("packets 3;part abc 1 1");
        late.cut(0, 2);
        due("the last STRIPE has fewer", late.packed(0, 4), 2);
        FirstParts only = packedOf("packets 3;part a 1 1");
        only.lose(1);
        due("the one STRIPE has fewer", only.packed(0, 4), 2);
        for (int k = 1; k <= 8; k++) {
            FirstParts y = told("packets 8;part a1 1");
            y.need(0, k);
            y.pack();
            due("sets by " + k, y.packed(0, 5), new int[] {255, 247, 219, 163, 93, 37, 9, 1}[k - 1]);
        }
    }

    private static void read() {
        promise = 21;
        FirstParts x = packedOf("packets 8;part hello 3 1;part quiz 8 1");
        String word = "hello";
        x.lose(0);
        x.lose(3);
        for (int i = 0; i < 5; i++) {
            due("read(0, " + i + ")", x.read(0, i), word.charAt(i) - 'a');
        }
        due("read(0, 5)", x.read(0, 5), UNKNOWN);
        due("read(0, -1)", x.read(0, -1), UNKNOWN);
        due("read(2, 0)", x.read(2, 0), UNKNOWN);
        due("read(-1, 0)", x.read(-1, 0), UNKNOWN);
        due("too few HOLDERS", x.read(1, 0), NOT);
        due("too few, no such letter", x.read(1, 4), UNKNOWN);
        x.again(0);
        x.again(3);
        for (int i = 0; i < 4; i++) {
            due("read(1, " + i + ")", x.read(1, i), "quiz".charAt(i) - 'a');
        }
        x.spoil(7, 0, 0);
        due("a later HOLDER is not asked", x.read(0, 0), 7);
        for (int p = 3; p < 8; p++) {
            x.cut(p, 1);
        }
        due("three are left", x.read(0, 3), 11);
        x.cut(0, 1);
        due("two are left", x.read(0, 3), NOT);
        due("its first STRIPE is there", x.read(0, 0), 7);
        FirstParts y = packedOf("packets 3;part b 1 1");
        y.spoil(0, 0, 28);
        due("the lowest packet", y.read(0, 0), 28);
        y.lose(0);
        due("the next one", y.read(0, 0), 1);
        FirstParts z = packedOf("packets 4;part b 2 1");
        z.spoil(0, 0, 2);
        z.spoil(1, 0, 5);
        due("the curve 28 and 3 times x", z.read(0, 0), 28);
        for (int far : FAR) {
            due("read(far, 0)", x.read(far, 0), UNKNOWN);
            due("read(0, far)", x.read(0, far), UNKNOWN);
        }
    }

    private static void mended() {
        promise = 22;
        FirstParts x = packedOf("packets 8;part hello 3 1;part quiz 8 1");
        x.spoil(0, 0, 0);
        x.spoil(5, 0, 0);
        for (int i = 0; i < 5; i++) {
            due("mended(0, " + i + ")", x.mended(0, i), "hello".charAt(i) - 'a');
        }
        x.spoil(7, 0, 0);
        due("a third liar of 8 with NEED 3", x.mended(0, 0), NONE);
        due("the other STRIPE", x.mended(0, 4), 14);
        due("no liar can be told", x.mended(1, 2), 8);
        x.spoil(0, 2, 0);
        due("as THROUGH then", x.mended(1, 0), x.read(1, 0));
        due("mended(0, 5)", x.mended(0, 5), UNKNOWN);
        due("mended(0, -1)", x.mended(0, -1), UNKNOWN);
        due("mended(2, 0)", x.mended(2, 0), UNKNOWN);
        due("mended(-1, 0)", x.mended(-1, 0), UNKNOWN);
        x.lose(1);
        due("too few HOLDERS", x.mended(1, 0), NOT);
        due("too few, no such letter", x.mended(1, 4), UNKNOWN);
        FirstParts y = packedOf("packets 7;part k 1 1");
        y.spoil(0, 0, 3);
        y.spoil(1, 0, 3);
        y.spoil(2, 0, 3);
        due("three of seven lie", y.mended(0, 0), 10);
        due("THROUGH believes the first", y.read(0, 0), 3);
        y.lose(6);
        due("three of six: none", y.mended(0, 0), NONE);
        y.lose(0);
        due("two of five", y.mended(0, 0), 10);
        y.spoil(3, 0, 3);
        due("three of five tell another", y.mended(0, 0), 3);
        FirstParts z = packedOf("packets 8;part ab 2 1");
        z.spoil(0, 0, 9);
        z.spoil(1, 0, 9);
        z.spoil(2, 0, 8);
        due("three of eight with NEED 2", z.mended(0, 1), 1);
        due("its first letter", z.mended(0, 0), 0);
        FirstParts w = packedOf("packets 5;part ab 2 1");
        w.spoil(4, 0, 9);
        due("one of five with NEED 2", w.mended(0, 1), 1);
        w.spoil(3, 0, 9);
        due("two of five with NEED 2", w.mended(0, 1), NONE);
        for (int far : FAR) {
            due("mended(far, 0)", x.mended(far, 0), UNKNOWN);
            due("mended(0, far)", x.mended(0, far), UNKNOWN);
        }
    }

    private static void blamed() {
        promise = 23;
        FirstParts x = new FirstParts();
        due("nothing PACKED", x.blamed(0), UNKNOWN);
        tellMore(x, "packets 6;part abcd 1 1;part efg 2 1");
        x.pack();
        due("blamed(6)", x.blamed(6), UNKNOWN);
        due("blamed(-1)", x.blamed(-1), UNKNOWN);
        due("none lies", x.blamed(0), 0);
        x.spoil(0, 0, 20);
        x.spoil(0, 3, 20);
        x.spoil(0, 5, 20);
        x.spoil(5, 0, 20);
        due("by three STRIPES of two PARTS", x.blamed(0), 3);
        due("by one", x.blamed(5), 1);
        due("by none", x.blamed(1), 0);
        x.spoil(1, 0, 21);
        due("where none is MENDED none is BLAMED", x.blamed(0), 2);
        due("nor is the liar", x.blamed(1), 0);
        x.cut(0, 5);
        due("only where it is a HOLDER", x.blamed(0), 1);
        x.lose(0);
        due("LOST", x.blamed(0), 0);
        due("two of five", x.blamed(5), 1);
        for (int p = 1; p < 5; p++) {
            x.lose(p);
        }
        due("alone it is believed", x.blamed(5), 0);
        FirstParts y = packedOf("packets 3;part a 1 1;part b 1 1");
        y.spoil(0, 1, 9);
        due("each STRIPE once", y.blamed(0), 1);
        y.spoil(0, 0, 9);
        due("by both", y.blamed(0), 2);
        for (int far : FAR) {
            due("blamed(far)", x.blamed(far), UNKNOWN);
        }
    }

    private static void opened() {
        promise = 24;
        FirstParts x = new FirstParts();
        due("nothing PACKED", x.opened(8), 0);
        tellMore(x, "packets 8;part a 8 1;part b 1 1;part c 3 1;part d 1 1");
        due("not PACKED yet", x.opened(8), 0);
        x.pack();
        int[] want = {0, 10, 10, 14, 14, 14, 14, 14, 15};
        for (int m = 0; m <= 8; m++) {
            due("opened(" + m + ")", x.opened(m), want[m]);
        }
        x.lose(0);
        x.need(0, 1);
        x.drop(3);
        due("as it was PACKED", x.opened(7), 14);
        due("opened(-1)", x.opened(-1), OUTSIDE);
        due("opened(9)", x.opened(9), OUTSIDE);
        for (int far : FAR) {
            due("opened(far)", x.opened(far), OUTSIDE);
        }
    }

    private static void plan() {
        promise = 25;
        FirstParts x = told("packets 8;room 40;part abcdefghijkl 8 9;part abcdef 8 1");
        due("room for all", x.plan(0) * 10 + x.plan(1), 11);
        due("its cost", x.count(6), 10);
        x.room(17);
        due("the light one gives way", x.plan(0) * 10 + x.plan(1), 12);
        x.room(13);
        due("the light one whole", x.plan(0) * 10 + x.plan(1), 16);
        x.room(12);
        due("both", x.plan(0) * 10 + x.plan(1), 21);
        due("its cost by then", x.count(6), 19);
        x.room(3);
        due("the least of all", x.plan(0) * 10 + x.plan(1), 66);
        x.room(2);
        due("none", x.plan(0), NONE);
        due("plan(2)", x.plan(2), UNKNOWN);
        due("plan(-1)", x.plan(-1), UNKNOWN);
        x.packets(5);
        x.room(4);
        due("NEEDS up to n: none", x.plan(1), NONE);
        x.room(5);
        due("NEEDS up to n", x.plan(0) * 10 + x.plan(1), 43);
        due("nothing changes", x.part(0, 1), 8);
        FirstParts tight = told("packets 3;room 1;part abc 1 1");
        due("NEED n alone", tight.plan(0), 3);
        tight.packets(2);
        due("NEED n is too low", tight.plan(0), NONE);
        tight.room(40);
        due("all the room that there is", tight.plan(0), 1);
        FirstParts y = told("room 3;part ab 4 2;part cd 4 2");
        due("of like ones the lower first", y.plan(0) * 10 + y.plan(1), 12);
        y.weigh(0, 3);
        due("so it is by cost, too", y.plan(0) * 10 + y.plan(1), 12);
        y.weigh(1, 4);
        due("by cost alone", y.plan(0) * 10 + y.plan(1), 21);
        FirstParts z = told("room 6;packets 8" + repeated(";part abcdefghijkl 1 1", 6));
        due("six long ones", z.plan(0), NONE);
        z.room(12);
        for (int i = 0; i < 6; i++) {
            due("plan(" + i + ")", z.plan(i), 6);
        }
        z.room(13);
        due("one number more", z.plan(0) * 10 + z.plan(5), 46);
        for (int far : FAR) {
            due("plan(far)", x.plan(far), UNKNOWN);
        }
    }

    private static void lesser() {
        promise = 26;
        FirstParts x = told("packets 1;room 1;part abcd 1 5;part abcd 2 5;part abc 1 4;part ab 8 1");
        due("LENGTH 10 in all", x.lesser(10), 15);
        due("r 9", x.lesser(9), 7);
        due("r 7", x.lesser(7), 11);
        due("r 6", x.lesser(6), 10 + 4);
        due("r 5", x.lesser(5), 6);
        due("r 3", x.lesser(3), 10);
        due("r 2", x.lesser(2), 2);
        due("r 1", x.lesser(1), 8);
        due("r 0", x.lesser(0), 0);
        due("r 40", x.lesser(40), 15);
        due("r -1", x.lesser(-1), OUTSIDE);
        due("r 41", x.lesser(41), OUTSIDE);
        FirstParts y = told("part a 1 3;part b 1 3;part c 1 3");
        due("the greatest of like ones", y.lesser(1), 4);
        due("the greatest of like pairs", y.lesser(2), 6);
        FirstParts z = told("part a 1 3;part b 1 1;part c 1 2");
        due("by weight, not by number", z.lesser(1), 1);
        due("a pair by weight", z.lesser(2), 5);
        FirstParts w = told("part ab 1 3;part c 1 1;part d 1 2");
        due("one of two or two of one: the greater", w.lesser(2), 6);
        due("none", new FirstParts().lesser(40), 0);
        for (int far : FAR) {
            due("lesser(far)", x.lesser(far), OUTSIDE);
        }
    }

    private static void count() {
        promise = 27;
        FirstParts x = packedOf("packets 5;room 9;part abcd 2 3;part ef 5 9;part g 1 1");
        x.lose(0);
        x.spoil(1, 0, 28);
        x.write(97);
        int[] want = {3, 5, 9, 4, 1, 52, 13, 3, 5, 4, 1, 1, 1, 2, 1};
        for (int i = 0; i < want.length; i++) {
            int got = x.count(i);
            due("count(" + i + ")", i == 13 ? got - 1 : got, want[i]);
        }
        due("count(-1)", x.count(-1), OUTSIDE);
        due("count(15)", x.count(15), OUTSIDE);
        for (int far : FAR) {
            due("count(far)", x.count(far), OUTSIDE);
        }
        x.room(3);
        due("too long", x.count(4), 0);
        x.room(4);
        due("just fits", x.count(4), 1);
        x.packets(4);
        due("NEED above n", x.count(4), 0);
        x.packets(1);
        due("no PLAN", x.count(6), NONE);
        x.drop(0);
        due("PARTS now", x.count(0), 2);
        due("PACKED PARTS", x.count(7), 3);
        x.lose(1);
        x.lose(2);
        x.lose(3);
        due("LOST", x.count(10), 4);
        due("SHUT", x.count(11), 2);
        due("in DOUBT", x.count(12), 0);
    }
}
