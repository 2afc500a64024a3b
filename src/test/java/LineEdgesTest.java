/** The edges that the document names for n, ROOM, PARTS, and what is foretold: promises 6 to 13 and 25 to 27. */
public final class LineEdgesTest {
    private static final int NONE = -1, UNKNOWN = -2, OUTSIDE = -3, NOT = -4;
    private static final int LEAST = Integer.MIN_VALUE, MOST = Integer.MAX_VALUE;
    private static final String SIX = "part a1 1;part b2 2;part c3 3;part d4 4;part e5 5;part f6 6";
    private static final Edges.Run TWO = Edges.told("packets 6;part abc 2 3;part defgh 4 5");
    private static final Edges.Run TWO_PACKED = Edges.packed("packets 6;part abc 2 3;part defgh 4 5");

    public static void main(String[] args) {
        partsAreKnownFrom0On();
        partIsAskedWhat0To3();
        stripesGoKByK();
        lettersAreKnownFrom0On();
        packetsAre1To8();
        roomIs1To40();
        needIs1To8();
        weightIs1To9();
        dropMovesLaterOnes();
        dropOfNoPart();
        packOfNoParts();
        packWhereLengthIsRoom();
        packWhereNeedIsN();
        packAnew();
        packAtTheBounds();
        planOfNoPart();
        planWhereThereIsNone();
        planUpToN();
        planWithinRoom();
        planOfLikeOnes();
        planForesees();
        planOfFewerPartsThanBefore();
        lesserIs0To40();
        lesserWithinR();
        lesserOfLikeOnes();
        lesserOfAllOrNone();
        countIs0To14();
        countOfNothing();
        countFits();
        countAtTheBounds();
        countOfThePlan();
        countOfThePacked();
        countOfStepsAndLetters();
        Edges.finish();
    }

    /** What a call with a PART, and with a number that is as told, answers where there is no such PART. */
    private static void noSuchPart(String what, Edges.Run before, int parts, java.util.function.IntFunction<Edges.Call> call) {
        for (int part : new int[] {-1, parts, parts + 1, 6, 7, LEAST, MOST}) {
            Edges.refused(what + " of PART " + part, before, call.apply(part), UNKNOWN);
        }
    }

    private static void partsAreKnownFrom0On() {
        Edges.sentence("part() UNKNOWN: no such PART (0 on)");
        Edges.due("the first", TWO, x -> x.part(0, 0), 3);
        Edges.due("the last", TWO, x -> x.part(1, 0), 5);
        noSuchPart("part", TWO, 2, part -> x -> x.part(part, 0));
        noSuchPart("part", Edges.nothing(), 0, part -> x -> x.part(part, 0));
        noSuchPart("part, what 4", TWO, 2, part -> x -> x.part(part, 4));
        Edges.due("the sixth", Edges.told(SIX), x -> x.part(5, 1), 6);
        noSuchPart("part", Edges.told(SIX), 6, part -> x -> x.part(part, 0));
    }

    private static void partIsAskedWhat0To3() {
        Edges.sentence("part() how many letters (what 0), NEED (1), WEIGHT (2), STRIPES (3); OUTSIDE");
        int[] want = {5, 4, 5, 2};
        for (int w = 0; w < 4; w++) {
            int what = w;
            Edges.due("what " + w, TWO, x -> x.part(1, what), want[w]);
        }
        for (int what : new int[] {-1, 4, 5, LEAST, MOST}) {
            Edges.refused("what " + what, TWO, x -> x.part(1, what), OUTSIDE);
        }
    }

    private static void stripesGoKByK() {
        Edges.sentence("its letters k by k, from the first on; the last one, if it is shorter, is filled");
        for (int letters = 1; letters <= 12; letters++) {
            for (int k = 1; k <= 8; k++) {
                int stripes = 0;
                for (int taken = 0; taken < letters; taken += k) {
                    stripes++;
                }
                String text = "part " + "abcdefghijkl".substring(0, letters) + " " + k + " 1";
                Edges.due(text, Edges.told(text), x -> x.part(0, 3), stripes);
                Edges.due("LENGTH of " + text, Edges.told(text), x -> x.count(3), stripes);
            }
        }
    }

    private static void lettersAreKnownFrom0On() {
        Edges.sentence("The i-th letter (0 on; a is 0) of a PART. UNKNOWN");
        Edges.due("the first", TWO, x -> x.letter(0, 0), 0);
        Edges.due("the last", TWO, x -> x.letter(0, 2), 2);
        for (int i : new int[] {-1, 3, 4, 12, LEAST, MOST}) {
            Edges.refused("letter(0, " + i + ")", TWO, x -> x.letter(0, i), UNKNOWN);
        }
        Edges.due("the last of the second", TWO, x -> x.letter(1, 4), 7);
        Edges.refused("letter(1, 5)", TWO, x -> x.letter(1, 5), UNKNOWN);
        noSuchPart("letter", TWO, 2, part -> x -> x.letter(part, 0));
        noSuchPart("letter", Edges.nothing(), 0, part -> x -> x.letter(part, 0));
    }

    private static void packetsAre1To8() {
        Edges.sentence("packets() n is another one (1 .. 8): what it was. OUTSIDE");
        Edges.due("1", TWO, x -> x.packets(1), 6);
        Edges.due("8", TWO, x -> x.packets(8), 6);
        Edges.due("behind 1", Edges.then(TWO, x -> x.packets(1)), x -> x.count(1), 1);
        Edges.due("behind 8", Edges.then(TWO, x -> x.packets(8)), x -> x.count(1), 8);
        for (int n : new int[] {0, 9, -1, LEAST, MOST}) {
            Edges.refused("packets(" + n + ")", TWO_PACKED, x -> x.packets(n), OUTSIDE);
        }
        Edges.due("as it was", TWO, x -> x.packets(6), 6);
        Edges.undone("packets(1)", TWO_PACKED, x -> x.packets(1));
        Edges.undone("packets(8)", TWO_PACKED, x -> x.packets(8));
        Edges.undone("packets() as it was", TWO_PACKED, x -> x.packets(6));
    }

    private static void roomIs1To40() {
        Edges.sentence("room() ROOM (1 .. 40): what it was. OUTSIDE");
        Edges.due("1", TWO, x -> x.room(1), 20);
        Edges.due("40", TWO, x -> x.room(40), 20);
        Edges.due("behind 1", Edges.then(TWO, x -> x.room(1)), x -> x.count(2), 1);
        Edges.due("behind 40", Edges.then(TWO, x -> x.room(40)), x -> x.count(2), 40);
        for (int r : new int[] {0, 41, -1, LEAST, MOST}) {
            Edges.refused("room(" + r + ")", TWO_PACKED, x -> x.room(r), OUTSIDE);
        }
        Edges.due("as it was", TWO, x -> x.room(20), 20);
        Edges.undone("room(1)", TWO_PACKED, x -> x.room(1));
        Edges.undone("room(40)", TWO_PACKED, x -> x.room(40));
        Edges.undone("room() as it was", TWO_PACKED, x -> x.room(20));
    }

    private static void needIs1To8() {
        Edges.sentence("need() NEED of a PART (1 .. 8): what it was. UNKNOWN; OUTSIDE");
        Edges.due("1", TWO, x -> x.need(1, 1), 4);
        Edges.due("8", TWO, x -> x.need(1, 8), 4);
        Edges.due("behind 1", Edges.then(TWO, x -> x.need(1, 1)), x -> x.part(1, 1), 1);
        Edges.due("behind 8, above n", Edges.then(TWO, x -> x.need(1, 8)), x -> x.part(1, 1), 8);
        Edges.due("the other PART", Edges.then(TWO, x -> x.need(1, 8)), x -> x.part(0, 1), 2);
        for (int k : new int[] {0, 9, -1, LEAST, MOST}) {
            Edges.refused("need(1, " + k + ")", TWO_PACKED, x -> x.need(1, k), OUTSIDE);
        }
        noSuchPart("need", TWO_PACKED, 2, part -> x -> x.need(part, 3));
        noSuchPart("need 0", TWO_PACKED, 2, part -> x -> x.need(part, 0));
        noSuchPart("need 9", TWO_PACKED, 2, part -> x -> x.need(part, 9));
        noSuchPart("need", Edges.nothing(), 0, part -> x -> x.need(part, 3));
        Edges.due("as it was", TWO, x -> x.need(1, 4), 4);
        Edges.undone("need(0, 1)", TWO_PACKED, x -> x.need(0, 1));
        Edges.undone("need(1, 8)", TWO_PACKED, x -> x.need(1, 8));
        Edges.undone("need() as it was", TWO_PACKED, x -> x.need(1, 4));
    }

    private static void weightIs1To9() {
        Edges.sentence("weigh() WEIGHT of a PART (1 .. 9): what it was. UNKNOWN; OUTSIDE");
        Edges.due("1", TWO, x -> x.weigh(1, 1), 5);
        Edges.due("9", TWO, x -> x.weigh(1, 9), 5);
        Edges.due("behind 1", Edges.then(TWO, x -> x.weigh(1, 1)), x -> x.part(1, 2), 1);
        Edges.due("behind 9", Edges.then(TWO, x -> x.weigh(1, 9)), x -> x.part(1, 2), 9);
        Edges.due("the other PART", Edges.then(TWO, x -> x.weigh(1, 9)), x -> x.part(0, 2), 3);
        for (int g : new int[] {0, 10, -1, LEAST, MOST}) {
            Edges.refused("weigh(1, " + g + ")", TWO_PACKED, x -> x.weigh(1, g), OUTSIDE);
        }
        noSuchPart("weigh", TWO_PACKED, 2, part -> x -> x.weigh(part, 3));
        noSuchPart("weigh 0", TWO_PACKED, 2, part -> x -> x.weigh(part, 0));
        noSuchPart("weigh 10", TWO_PACKED, 2, part -> x -> x.weigh(part, 10));
        noSuchPart("weigh", Edges.nothing(), 0, part -> x -> x.weigh(part, 3));
        Edges.due("as it was", TWO, x -> x.weigh(1, 5), 5);
        Edges.undone("weigh(0, 1)", TWO_PACKED, x -> x.weigh(0, 1));
        Edges.undone("weigh(1, 9)", TWO_PACKED, x -> x.weigh(1, 9));
        Edges.undone("weigh() as it was", TWO_PACKED, x -> x.weigh(1, 5));
    }

    private static void dropMovesLaterOnes() {
        Edges.sentence("A PART goes, later ones have a number less: how many are left");
        Edges.Run six = Edges.told(SIX);
        for (int d = 0; d < 6; d++) {
            int dropped = d;
            Edges.due("drop(" + d + ")", six, x -> x.drop(dropped), 5);
            FirstParts x = Edges.after(Edges.then(six, y -> y.drop(dropped)));
            for (int i = 0; i < 5; i++) {
                Edges.due("letter(" + i + ", 0)", x.letter(i, 0), i < d ? i : i + 1);
                Edges.due("part(" + i + ", 1)", x.part(i, 1), i < d ? i + 1 : i + 2);
                Edges.due("part(" + i + ", 2)", x.part(i, 2), i < d ? i + 1 : i + 2);
            }
            Edges.due("part(5, 0)", x.part(5, 0), UNKNOWN);
            Edges.undone("drop(" + d + ")", six, y -> y.drop(dropped));
        }
        FirstParts x = Edges.after(six);
        for (int left = 5; left >= 0; left--) {
            Edges.due("drop(0)", x.drop(0), left);
        }
        Edges.due("no PART is left", x.drop(0), UNKNOWN);
        Edges.undone("drop() of the only one", Edges.packed("part ab 1 1"), y -> y.drop(0));
        Edges.due("PACKED stays", Edges.then(TWO_PACKED, y -> y.drop(0)), y -> y.packed(0, 2), 3);
    }

    private static void dropOfNoPart() {
        Edges.sentence("drop() UNKNOWN");
        noSuchPart("drop", Edges.nothing(), 0, part -> x -> x.drop(part));
        noSuchPart("drop", TWO_PACKED, 2, part -> x -> x.drop(part));
        noSuchPart("drop", Edges.told(SIX), 6, part -> x -> x.drop(part));
        Edges.Run dropped = Edges.then(TWO_PACKED, x -> x.drop(0));
        Edges.refused("drop() of the number that went", dropped, x -> x.drop(1), UNKNOWN);
    }

    private static void packOfNoParts() {
        Edges.sentence("pack() NOT: there are no PARTS");
        Edges.refused("pack()", Edges.nothing(), FirstParts::pack, NOT);
        Edges.Run dropped = Edges.then(Edges.packed("part ab 2 1"), x -> x.drop(0));
        Edges.refused("pack() of none, where there is one PACKED", dropped, FirstParts::pack, NOT);
        Edges.due("pack() of one", Edges.told("part a 1 1"), FirstParts::pack, 1);
    }

    private static void packWhereLengthIsRoom() {
        Edges.sentence("All FITS, if LENGTH of all PARTS is ROOM or less");
        String text = ";packets 6;part abcde 2 1;part fgh 1 1";
        Edges.due("LENGTH 6 in 7", Edges.told("room 7" + text), FirstParts::pack, 6);
        Edges.due("LENGTH 6 in 6", Edges.told("room 6" + text), FirstParts::pack, 6);
        Edges.refused("LENGTH 6 in 5", Edges.told("room 5" + text), FirstParts::pack, NOT);
        Edges.Run before = Edges.then(Edges.packed("room 6" + text), x -> {
            x.lose(1);
            x.cut(2, 3);
            x.spoil(3, 0, 28);
            x.room(5);
        });
        Edges.refused("LENGTH 6 in 5, where there is one PACKED", before, FirstParts::pack, NOT);
    }

    private static void packWhereNeedIsN() {
        Edges.sentence("All FITS, if no NEED is above n");
        Edges.due("NEED 3 of 3", Edges.told("packets 3;part ab 1 1;part cd 3 1"), FirstParts::pack, 3);
        Edges.refused("NEED 4 of 3", Edges.told("packets 3;part ab 1 1;part cd 4 1"), FirstParts::pack, NOT);
        Edges.refused("NEED 4 of 3, the first", Edges.told("packets 3;part ab 4 1;part cd 1 1"), FirstParts::pack, NOT);
        Edges.refused("NEED 2 of 1", Edges.told("packets 1;part ab 2 1"), FirstParts::pack, NOT);
        Edges.due("NEED 1 of 1", Edges.told("packets 1;part ab 1 1"), FirstParts::pack, 2);
        Edges.due("NEED 8 of 8", Edges.told("packets 8;part ab 8 1"), FirstParts::pack, 1);
        Edges.refused("NEED 8 of 7", Edges.told("packets 7;part ab 8 1"), FirstParts::pack, NOT);
        Edges.refused("neither", Edges.told("packets 3;room 1;part ab 1 1;part cd 4 1"), FirstParts::pack, NOT);
    }

    private static void packAnew() {
        Edges.sentence("All is PACKED anew: how many numbers each PACKET has");
        Edges.Run before = Edges.then(TWO_PACKED, x -> {
            x.lose(0);
            x.cut(1, 0);
            x.spoil(2, 1, 28);
        });
        FirstParts x = Edges.after(before);
        Edges.due("pack()", x.pack(), 4);
        FirstParts as = Edges.after(TWO_PACKED);
        for (int p = 0; p < 6; p++) {
            for (int i = 0; i < 4; i++) {
                Edges.due("number(" + p + ", " + i + ")", x.number(p, i), as.number(p, i));
            }
        }
        Edges.due("LOST", x.count(10), 0);
        Edges.due("a packet more", x.number(6, 0), UNKNOWN);
        Edges.undone("pack()", before, FirstParts::pack);
        Edges.undone("the first pack()", TWO, FirstParts::pack);
        Edges.undone("pack() by which nothing became other", TWO_PACKED, FirstParts::pack);
        Edges.undone("pack() into fewer", Edges.then(before, y -> y.packets(4)), FirstParts::pack);
        Edges.undone("pack() into more", Edges.then(before, y -> y.packets(8)), FirstParts::pack);
    }

    private static void packAtTheBounds() {
        Edges.sentence("n 1 .. 8, ROOM 1 .. 40, PARTS 6 at most: the least and the most that is PACKED");
        FirstParts x = Edges.after(Edges.packed("packets 1;room 1;part z 1 1"));
        Edges.due("its one number", x.number(0, 0), 25);
        Edges.due("no second number", x.number(0, 1), UNKNOWN);
        Edges.due("no second packet", x.number(1, 0), UNKNOWN);
        String most = "packets 8;room 40;part abcdefghijkl 1 1;part mnopqrstuvwx 1 1;part abcdefghijkl 1 1"
                + ";part yz 2 1;part z 1 1;part zz 1 1";
        FirstParts y = Edges.after(Edges.told(most));
        Edges.due("40 numbers", y.pack(), 40);
        Edges.due("the 40th of the 8th", y.number(7, 39), (24 + 25 * 8) % 29);
        Edges.due("the 41st", y.number(7, 40), UNKNOWN);
        Edges.due("the ninth", y.number(8, 39), UNKNOWN);
        Edges.due("the sixth PART", y.packed(5, 2), 2);
        Edges.due("a seventh", y.packed(6, 2), UNKNOWN);
        Edges.refused("41 numbers", Edges.then(Edges.packed(most), z -> z.need(3, 1)), FirstParts::pack, NOT);
    }

    private static void planOfNoPart() {
        Edges.sentence("plan() UNKNOWN");
        Edges.due("the first", TWO, x -> x.plan(0), 1);
        Edges.due("the last", TWO, x -> x.plan(1), 1);
        noSuchPart("plan", TWO, 2, part -> x -> x.plan(part));
        noSuchPart("plan", Edges.nothing(), 0, part -> x -> x.plan(part));
        noSuchPart("plan, where there is none,", Edges.told("packets 1;room 1;part ab 1 1;part cd 1 1"), 2,
                part -> x -> x.plan(part));
    }

    private static void plans(String text, int... want) {
        Edges.Run before = Edges.told(text);
        for (int i = 0; i < want.length; i++) {
            int part = i;
            Edges.due("plan(" + i + ") of " + text, before, x -> x.plan(part), want[i]);
        }
        Edges.nothingChanges("plan(0) of " + text, before, x -> x.plan(0));
    }

    private static void planWhereThereIsNone() {
        Edges.sentence("there may be none; NONE: there is no PLAN");
        plans("packets 4;room 2;part abcd 1 1;part efgh 1 1", 4, 4);
        plans("packets 4;room 1;part abcd 1 1;part efgh 1 1", NONE, NONE);
        plans("packets 3;room 2;part abcd 1 1;part efgh 1 1", NONE, NONE);
        plans("packets 1;room 12;part abcdefghijkl 8 1", 1);
        plans("packets 1;room 11;part abcdefghijkl 8 1", NONE);
        plans("packets 8;room 6;part ab1 1;part ab1 1;part ab1 1;part ab1 1;part ab1 1;part ab1 1", 2, 2, 2, 2, 2, 2);
        plans("packets 8;room 5;part ab1 1;part ab1 1;part ab1 1;part ab1 1;part ab1 1;part ab1 1",
                NONE, NONE, NONE, NONE, NONE, NONE);
    }

    private static void planUpToN() {
        Edges.sentence("NEEDS, one for each PART, 1 .. n");
        plans("packets 8;room 1;part abcdefgh 1 1", 8);
        plans("packets 7;room 1;part abcdefgh 1 1", NONE);
        plans("packets 7;room 1;part abcdefg 1 1", 7);
        plans("packets 1;room 1;part a 8 1", 1);
        plans("packets 8;room 1;part abcdefghi 1 1", NONE);
        plans("packets 8;room 2;part abcdefghi 1 1", 5);
    }

    private static void planWithinRoom() {
        Edges.sentence("by which LENGTH is ROOM or less, WEIGHT times NEED of all PARTS together the least");
        plans("packets 4;room 8;part abcd 4 1;part efgh 4 2", 1, 1);
        plans("packets 4;room 7;part abcd 4 1;part efgh 4 2", 2, 1);
        plans("packets 4;room 6;part abcd 4 1;part efgh 4 2", 2, 1);
        plans("packets 4;room 5;part abcd 4 1;part efgh 4 2", 2, 2);
        plans("packets 4;room 5;part abcd 4 1;part efgh 4 3", 4, 1);
        plans("packets 4;room 4;part abcd 4 1;part efgh 4 2", 2, 2);
        plans("packets 4;room 3;part abcd 4 1;part efgh 4 2", 4, 2);
        plans("packets 4;room 2;part abcd 4 1;part efgh 4 2", 4, 4);
        plans("packets 4;room 40;part abcd 4 9;part efgh 4 9", 1, 1);
    }

    private static void planOfLikeOnes() {
        Edges.sentence("PLAN of like ones: the one with the lower NEED of the first PART at which they differ");
        plans("room 3;part ab 1 1;part cd 1 1", 1, 2);
        plans("room 5;part ab 1 1;part cd 1 1;part ef 1 1", 1, 1, 2);
        plans("room 4;part ab 1 1;part cd 1 1;part ef 1 1", 1, 2, 2);
        plans("room 3;part ab 1 2;part cd 1 1", 1, 2);
        plans("room 3;part ab 1 1;part cd 1 2", 2, 1);
        plans("packets 4;room 4;part abc 1 1;part de 1 2", 2, 1);
        plans("packets 4;room 3;part abc 1 2;part de 1 4", 3, 1);
        plans("packets 4;room 3;part abc 1 4;part de 1 4", 2, 2);
        plans("packets 3;room 3;part abc 1 2;part de 1 2", 2, 2);
        plans("packets 3;room 3;part abc 1 2;part de 1 2;part a 1 1", 3, 2, 1);
        plans("packets 3;room 3;part abc 1 3;part de 1 3", 2, 2);
        plans("packets 3;room 3;part de 1 3;part abc 1 3", 1, 3);
        plans("packets 3;room 3;part de 1 4;part abc 1 3", 1, 3);
        plans("packets 3;room 3;part de 1 2;part abc 1 3", 2, 2);
        plans("packets 3;room 3;part de 1 3;part abc 1 4", 2, 2);
        plans("packets 3;room 3;part de 1 1;part abc 1 1", 1, 3);
    }

    private static void planForesees() {
        Edges.sentence("FORETOLD (nothing changes), for PARTS and n as they are now");
        FirstParts x = Edges.after(Edges.packed("packets 4;room 8;part abcd 4 1;part efgh 4 2"));
        x.packets(2);
        Edges.due("n now", x.plan(0) * 10 + x.plan(1), 11);
        x.room(4);
        Edges.due("ROOM now", x.plan(0) * 10 + x.plan(1), 22);
        x.room(3);
        Edges.due("none by this n", x.plan(0), NONE);
        x.packets(4);
        Edges.due("one by another n", x.plan(0) * 10 + x.plan(1), 42);
        x.drop(0);
        Edges.due("PARTS now", x.plan(0), 2);
        Edges.due("no second now", x.plan(1), UNKNOWN);
        Edges.due("lesser() now", x.lesser(40), 1);
        Edges.nothingChanges("plan(0)", TWO_PACKED, y -> y.plan(0));
        Edges.nothingChanges("lesser(2)", TWO_PACKED, y -> y.lesser(2));
        Edges.nothingChanges("count(6)", TWO_PACKED, y -> y.count(6));
    }

    private static void planOfFewerPartsThanBefore() {
        Edges.sentence("PLAN for PARTS as they are now: those that were there before count nothing");
        FirstParts x = Edges.after(Edges.told("packets 4;room 2;part abcd 1 1;part e 1 1"));
        Edges.due("of two", x.count(6), 5);
        x.drop(1);
        x.room(1);
        Edges.due("of one in all the room", x.plan(0), 4);
        Edges.due("what it costs", x.count(6), 4);
        x.room(40);
        Edges.due("in the most room", x.count(6), 1);
        x.drop(0);
        Edges.due("of none in the most room", x.count(6), 0);
        x.room(1);
        Edges.due("of none in the least room", x.count(6), 0);
        x.undo();
        x.undo();
        Edges.due("of one again", x.count(6), 1);
    }

    private static void lesserIs0To40() {
        Edges.sentence("LESSER (r 0 .. 40), as bits. OUTSIDE");
        Edges.due("0", TWO, x -> x.lesser(0), 0);
        Edges.due("40", TWO, x -> x.lesser(40), 3);
        for (int r : new int[] {-1, 41, LEAST, MOST}) {
            Edges.refused("lesser(" + r + ")", TWO, x -> x.lesser(r), OUTSIDE);
            Edges.refused("lesser(" + r + ") of none", Edges.nothing(), x -> x.lesser(r), OUTSIDE);
        }
        Edges.due("not by ROOM", Edges.told("room 1;part abc 1 1"), x -> x.lesser(3), 1);
        Edges.due("not by n", Edges.told("packets 1;part abc 8 1"), x -> x.lesser(1), 1);
    }

    private static void lesserWithinR() {
        Edges.sentence("whose LENGTH is r or less the one that weighs most together");
        Edges.Run before = Edges.told("part abcd 1 5;part efgh 2 3;part i 1 1");
        int[] want = {0, 4, 2, 6, 1, 5, 3, 7, 7};
        for (int i = 0; i < want.length; i++) {
            int r = i;
            Edges.due("lesser(" + r + ")", before, x -> x.lesser(r), want[i]);
        }
        String long36 = "part abcdefghijkl 1 2;part abcdefghijkl 1 2;part abcdefghijkl 1 2";
        Edges.due("36 in 35", Edges.told(long36), x -> x.lesser(35), 6);
        Edges.due("36 in 36", Edges.told(long36), x -> x.lesser(36), 7);
        Edges.due("40 in 40", Edges.told(long36 + ";part abcd 1 1"), x -> x.lesser(40), 15);
        Edges.due("40 in 39", Edges.told(long36 + ";part abcd 1 1"), x -> x.lesser(39), 7);
        Edges.due("41 in 40", Edges.told(long36 + ";part abcde 1 1"), x -> x.lesser(40), 7);
    }

    private static void lesserOfLikeOnes() {
        Edges.sentence("LESSER of like ones the greatest number");
        Edges.Run like = Edges.told("part ab 1 4;part cd 1 4;part ef 1 4;part gh 1 4");
        int[] want = {0, 0, 8, 8, 12, 12, 14, 14, 15, 15};
        for (int i = 0; i < want.length; i++) {
            int r = i;
            Edges.due("lesser(" + r + ")", like, x -> x.lesser(r), want[i]);
        }
        Edges.due("two light or one heavy", Edges.told("part a 1 1;part b 1 1;part cd 1 2"), x -> x.lesser(2), 4);
        Edges.due("one heavy or two light", Edges.told("part cd 1 2;part a 1 1;part b 1 1"), x -> x.lesser(2), 6);
        Edges.due("the lesser number weighs more", Edges.told("part a 1 2;part b 1 1"), x -> x.lesser(1), 1);
    }

    private static void lesserOfAllOrNone() {
        Edges.sentence("of all sets of PARTS (bits, as they are)");
        Edges.due("none", Edges.nothing(), x -> x.lesser(40), 0);
        Edges.due("all six", Edges.told(SIX), x -> x.lesser(6), 63);
        Edges.due("all but the lightest", Edges.told(SIX), x -> x.lesser(5), 62);
        Edges.due("the sixth alone", Edges.told(SIX), x -> x.lesser(1), 32);
        Edges.due("none of six", Edges.told(SIX), x -> x.lesser(0), 0);
        Edges.due("the bits behind drop()", Edges.then(Edges.told(SIX), x -> x.drop(0)), x -> x.lesser(1), 16);
        Edges.due("none is short enough", Edges.told("part abcd 1 9"), x -> x.lesser(3), 0);
        Edges.due("one is short enough", Edges.told("part abcd 1 9"), x -> x.lesser(4), 1);
    }

    private static void countIs0To14() {
        Edges.sentence("count() 0 .. 14. OUTSIDE");
        for (int what : new int[] {-1, 15, 16, LEAST, MOST}) {
            Edges.refused("count(" + what + ")", TWO_PACKED, x -> x.count(what), OUTSIDE);
            Edges.refused("count(" + what + ") at first", Edges.nothing(), x -> x.count(what), OUTSIDE);
        }
        for (int w = 0; w < 15; w++) {
            int what = w;
            Edges.nothingChanges("count(" + w + ")", TWO_PACKED, x -> x.count(what));
        }
    }

    private static void countOfNothing() {
        Edges.sentence("numbers that each got (0: nothing PACKED), and all else of nothing");
        int[] want = {0, 4, 20, 0, 1, 0, 0, 0, 0, 0, 0, 0, 0, 0, 0};
        for (int i = 0; i < want.length; i++) {
            int what = i;
            Edges.due("count(" + i + ")", Edges.nothing(), x -> x.count(what), want[i]);
        }
        Edges.Run told = Edges.told("packets 3;part abc 1 1");
        Edges.Run undone = Edges.then(Edges.packed("packets 3;part abc 1 1"), FirstParts::undo);
        for (int w = 7; w <= 12; w++) {
            int what = w;
            Edges.due("count(" + w + "), not PACKED yet", told, x -> x.count(what), 0);
            Edges.due("count(" + w + "), pack() undone", undone, x -> x.count(what), 0);
        }
        Edges.due("PACKED", Edges.then(told, FirstParts::pack), x -> x.count(9), 3);
    }

    private static void countFits() {
        Edges.sentence("4 1 all FITS, else 0");
        String text = ";part abcde 2 1;part fgh 3 1";
        Edges.due("LENGTH below ROOM", Edges.told("room 5" + text), x -> x.count(4), 1);
        Edges.due("LENGTH is ROOM", Edges.told("room 4" + text), x -> x.count(4), 1);
        Edges.due("LENGTH above ROOM", Edges.told("room 3" + text), x -> x.count(4), 0);
        Edges.due("NEED below n", Edges.told("packets 4" + text), x -> x.count(4), 1);
        Edges.due("NEED is n", Edges.told("packets 3" + text), x -> x.count(4), 1);
        Edges.due("NEED above n", Edges.told("packets 2" + text), x -> x.count(4), 0);
        Edges.due("no PARTS", Edges.told("packets 1;room 1"), x -> x.count(4), 1);
    }

    private static void countAtTheBounds() {
        Edges.sentence("0 PARTS, 1 n, 2 ROOM, 3 LENGTH of all PARTS, 5 WEIGHT times NEED of all PARTS together");
        FirstParts x = Edges.after(Edges.told("packets 8;room 40" + ";part abcdefghijkl 8 9".repeat(6)));
        Edges.due("PARTS", x.count(0), 6);
        Edges.due("n", x.count(1), 8);
        Edges.due("ROOM", x.count(2), 40);
        Edges.due("LENGTH by NEED 8", x.count(3), 12);
        Edges.due("the most", x.count(5), 432);
        for (int i = 0; i < 6; i++) {
            x.need(i, 1);
            x.weigh(i, 1);
        }
        Edges.due("the greatest LENGTH", x.count(3), 72);
        Edges.due("the least of six", x.count(5), 6);
        Edges.due("it does not FIT", x.count(4), 0);
    }

    private static void countOfThePlan() {
        Edges.sentence("6 the same by the PLAN (NONE: there is none)");
        Edges.due("a PLAN", Edges.told("packets 4;room 2;part abcd 1 2;part efgh 1 3"), x -> x.count(6), 20);
        Edges.due("none, by ROOM", Edges.told("packets 4;room 1;part abcd 1 2;part efgh 1 3"), x -> x.count(6), NONE);
        Edges.due("none, by n", Edges.told("packets 3;room 2;part abcd 1 2;part efgh 1 3"), x -> x.count(6), NONE);
        Edges.due("no PARTS", Edges.told("packets 1;room 1"), x -> x.count(6), 0);
        Edges.due("the most", Edges.told("packets 8;room 12" + ";part abcdefghijkl 8 9".repeat(6)), x -> x.count(6), 324);
        Edges.due("none of six", Edges.told("packets 8;room 11" + ";part abcdefghijkl 8 9".repeat(6)), x -> x.count(6), NONE);
        Edges.due("room for all", Edges.told("packets 8;room 40;part abcdefghijkl 8 9;part a 8 1"), x -> x.count(6), 10);
    }

    private static void countOfThePacked() {
        Edges.sentence("7 PACKED PARTS, 8 PACKETS that were PACKED, 10 LOST, 11 SHUT, 12 in DOUBT");
        Edges.Run before = Edges.packed("packets 3;part ab 1 1;part cd 2 1;part ef 3 1");
        FirstParts x = Edges.after(Edges.then(before, y -> {
            y.packets(8);
            y.drop(0);
            y.drop(0);
        }));
        Edges.due("PACKED PARTS", x.count(7), 3);
        Edges.due("PACKETS", x.count(8), 3);
        Edges.due("numbers", x.count(9), 4);
        int[] shut = {1, 2, 3};
        for (int p = 0; p < 3; p++) {
            x.lose(p);
            Edges.due("LOST", x.count(10), p + 1);
            Edges.due("SHUT", x.count(11), shut[p]);
        }
        FirstParts y = Edges.after(before);
        y.cut(0, 0);
        Edges.due("cut to nothing is not LOST", y.count(10), 0);
        Edges.due("but SHUT", y.count(11), 1);
        FirstParts z = Edges.after(before);
        Edges.due("none in DOUBT", z.count(12), 0);
        z.spoil(0, 0, 28);
        Edges.due("one in DOUBT", z.count(12), 1);
        z.spoil(1, 2, 28);
        Edges.due("two in DOUBT", z.count(12), 2);
        z.spoil(2, 3, 28);
        Edges.due("NEED of all: no DOUBT", z.count(12), 2);
        z.cut(2, 2);
        Edges.due("NEED of those left: no DOUBT", z.count(12), 1);
    }

    private static void countOfStepsAndLetters() {
        Edges.sentence("13 how many can be undone, 14 letters of THE TEXT");
        FirstParts x = new FirstParts();
        for (int i = 1; i <= 20; i++) {
            x.room(i);
            Edges.due("behind " + i + " calls", x.count(13), Math.min(i, 8));
        }
        for (int i = 1; i <= 202; i++) {
            x.write(' ');
            Edges.due("letters", x.count(14), Math.min(i, 200));
        }
    }
}
