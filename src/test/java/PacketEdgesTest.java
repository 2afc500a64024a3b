/** The edges that the document names for PACKETS and what is PACKED: promises 14 to 24 and their terms. */
public final class PacketEdgesTest {
    private static final int NONE = -1, UNKNOWN = -2, OUTSIDE = -3, NOT = -4;
    private static final int SHUT = 0, OPEN = 1, DOUBT = 2;
    private static final int LEAST = Integer.MIN_VALUE, MOST = Integer.MAX_VALUE;
    private static final String LETTERS = "qzbyrkmaxdwc";
    /** By how much each PACKET lies: chosen so that one liar too many does not make another CURVE the MENDED one. */
    private static final int[] LIES = {25, 1, 23, 15, 9, 24, 26, 8};

    /** Seven numbers in each of 5 PACKETS: PART 3 at 0 and 1, PART 1 at 2, PART 2 at 3 and 4, PART 0 at 5 and 6. */
    private static final Edges.Run BOX = Edges.packed("packets 5;part abcdef 3 1;part gh 2 2;part ijk 2 3;part lm 1 4");
    /** PACKET 0 whole, 1 LOST when it had 4 numbers, 2 with 4 numbers, 3 with a lie at 3, 4 with none. */
    private static final Edges.Run HURT = Edges.then(BOX, x -> {
        x.cut(1, 4);
        x.lose(1);
        x.cut(2, 4);
        x.spoil(3, 3, 28);
        x.cut(4, 0);
    });

    public static void main(String[] args) {
        numbersAreModulo29();
        curvesAreAtPAnd1();
        lastStripeIsFilledWith0();
        leastNeedFirst();
        packedIsAsItWasThen();
        lineStaysAsPacketsChange();
        packetsAreKnownByNAsItWas();
        loseAnswersWhatItHad();
        loseTwice();
        cutIs0ToWhatItHas();
        cutOfALostOne();
        spoilIsOfANumberThatIsThere();
        spoilIs0To28();
        againCountsWhatIsOther();
        undoOfNone();
        undoOfTheLast8();
        undoOfEachKind();
        undoWhereNothingBecameOther();
        undoOfNoOtherKind();
        undoOfARefusedOne();
        numberOfAPacket();
        numberIsNone();
        packedOfNoPart();
        packedIsAskedWhat0To5();
        shutByFewerHoldersThanNeed();
        shutByOneStripe();
        doubtByAnotherNumber();
        fewestHolders();
        setsThatOpen();
        readOfALetter();
        readByTheLowestPackets();
        readWithFewerHoldersThanNeed();
        mendedOfALetter();
        mendedButHalf();
        mendedWithFewerHolders();
        mendedByLiarsWhoAgree();
        blamedOfAPacket();
        blamedOnlyWhereMended();
        blamedOnlyIfAHolder();
        blamedByEachStripe();
        openedIs0To8();
        all512Calls();
        Edges.finish();
    }

    private static int curveAt(String word, int from, int k, int x) {
        long value = 0;
        long power = 1;
        for (int j = 0; j < k; j++) {
            value += from + j < word.length() ? (word.charAt(from + j) - 'a') * power : 0;
            power *= x;
        }
        return (int) (value % 29);
    }

    private static void numbersAreModulo29() {
        Edges.sentence("All numbers are modulo 29 (0 .. 28)");
        Edges.due("25 and 3", Edges.packed("part zd 2 1"), x -> x.number(0, 0), 28);
        Edges.due("25 and 4", Edges.packed("part ze 2 1"), x -> x.number(0, 0), 0);
        Edges.due("25 and 5", Edges.packed("part zf 2 1"), x -> x.number(0, 0), 1);
        String word = "zzzzzzzz";
        for (int k = 1; k <= 8; k++) {
            FirstParts x = Edges.after(Edges.packed("packets 8;part " + word + " " + k + " 1"));
            for (int p = 0; p < 8; p++) {
                Edges.due("NEED " + k + ", PACKET " + p, x.number(p, 0), curveAt(word, 0, k, p + 1));
            }
            for (int i = 0; i < 8; i++) {
                Edges.due("NEED " + k + ", read", x.read(0, i), 25);
            }
        }
    }

    private static void curvesAreAtPAnd1() {
        Edges.sentence("of each PACKET p the numbers of all CURVES of STRIPES at p and 1");
        FirstParts x = Edges.after(Edges.packed("packets 8;part abcdefg 3 1"));
        for (int p = 0; p < 8; p++) {
            for (int s = 0; s < 3; s++) {
                Edges.due("number(" + p + ", " + s + ")", x.number(p, s), curveAt("abcdefg", 3 * s, 3, p + 1));
            }
        }
        FirstParts flat = Edges.after(Edges.packed("packets 8;part yz 1 1"));
        for (int p = 0; p < 8; p++) {
            Edges.due("a curve of one number", flat.number(p, 1), 25);
        }
    }

    private static void lastStripeIsFilledWith0() {
        Edges.sentence("the last one, if it is shorter, is filled with numbers 0");
        for (int letters = 1; letters <= 12; letters++) {
            for (int k = 1; k <= 8; k++) {
                String word = LETTERS.substring(0, letters);
                FirstParts x = Edges.after(Edges.packed("packets 8;part " + word + " " + k + " 1"));
                int last = x.count(9) - 1;
                Edges.due("the last number of " + word + " by " + k, x.number(7, last), curveAt(word, last * k, k, 8));
                Edges.due("the last letter", x.read(0, letters - 1), word.charAt(letters - 1) - 'a');
                Edges.due("what it is filled with is no letter", x.read(0, letters), UNKNOWN);
                Edges.due("likewise mended", x.mended(0, letters), UNKNOWN);
            }
        }
    }

    private static void leastNeedFirst() {
        Edges.sentence("PARTS of the least NEED first, of like ones by their numbers, STRIPES one behind the other");
        int[] first = {5, 2, 3, 0};
        for (int i = 0; i < 4; i++) {
            int part = i;
            Edges.due("packed(" + i + ", 3)", BOX, x -> x.packed(part, 3), first[i]);
        }
        FirstParts x = Edges.after(Edges.packed("packets 8;part ab 8 1;part cd 1 1;part e 8 1;part f 1 1;part gh 7 1"));
        int[] wide = {4, 0, 5, 2, 3};
        for (int i = 0; i < 5; i++) {
            Edges.due("packed(" + i + ", 3)", x.packed(i, 3), wide[i]);
        }
        Edges.due("the second STRIPE of PART 1", x.number(7, 1), 3);
        Edges.due("the first STRIPE of PART 3", x.number(7, 2), 5);
        FirstParts like = Edges.after(Edges.packed("part a 2 1;part b 2 1;part c 2 1;part d 2 1;part e 2 1;part f 2 1"));
        for (int i = 0; i < 6; i++) {
            Edges.due("like ones", like.packed(i, 3), i);
            Edges.due("their numbers", like.number(3, i), i);
        }
    }

    private static void packedIsAsItWasThen() {
        Edges.sentence("PACKED: PARTS as they were then, with numbers, words, NEEDS; n as it was then");
        Edges.Run[] changes = {
            x -> x.packets(1), x -> x.packets(8), x -> x.room(1), x -> x.need(0, 8), x -> x.weigh(0, 9),
            x -> x.drop(0), x -> x.write('a'), Edges.told("all"), Edges.told("part a 1 1"),
            x -> {
                for (int i = 0; i < 4; i++) {
                    x.drop(0);
                }
            }};
        for (int c = 0; c < changes.length; c++) {
            FirstParts x = Edges.after(Edges.then(HURT, changes[c]));
            FirstParts as = Edges.after(HURT);
            for (int part = 0; part < 4; part++) {
                for (int what = 0; what < 6; what++) {
                    Edges.due("packed(" + part + ", " + what + ")", x.packed(part, what), as.packed(part, what));
                }
                Edges.due("read(" + part + ", 0)", x.read(part, 0), as.read(part, 0));
                Edges.due("mended(" + part + ", 0)", x.mended(part, 0), as.mended(part, 0));
            }
            for (int p = 0; p < 5; p++) {
                for (int i = 0; i < 7; i++) {
                    Edges.due("number(" + p + ", " + i + ")", x.number(p, i), as.number(p, i));
                }
                Edges.due("blamed(" + p + ")", x.blamed(p), as.blamed(p));
            }
            for (int what = 7; what <= 12; what++) {
                Edges.due("count(" + what + ")", x.count(what), as.count(what));
            }
            Edges.due("opened(2)", x.opened(2), as.opened(2));
        }
    }

    private static void lineStaysAsPacketsChange() {
        Edges.sentence("lose(), cut(), spoil(), again(), pack() are of PACKETS: n, ROOM, PARTS stay");
        FirstParts x = Edges.after(Edges.then(HURT, y -> {
            y.again(1);
            y.pack();
            y.write('a');
        }));
        int[] count = {4, 5, 20, 7, 1, 17, 10};
        for (int what = 0; what < count.length; what++) {
            Edges.due("count(" + what + ")", x.count(what), count[what]);
        }
        int[][] part = {{6, 3, 1, 2}, {2, 2, 2, 1}, {3, 2, 3, 2}, {2, 1, 4, 2}};
        for (int i = 0; i < 4; i++) {
            for (int what = 0; what < 4; what++) {
                Edges.due("part(" + i + ", " + what + ")", x.part(i, what), part[i][what]);
            }
        }
        Edges.due("letters of THE TEXT", x.count(14), 1);
    }

    private static void packetsAreKnownByNAsItWas() {
        Edges.sentence("The calls that ask for a PACKET know those that were PACKED, by n as it was then");
        Edges.Run more = Edges.then(BOX, x -> x.packets(8));
        Edges.Run fewer = Edges.then(BOX, x -> x.packets(1));
        for (Edges.Run before : new Edges.Run[] {BOX, more, fewer}) {
            Edges.due("lose(4)", before, x -> x.lose(4), 7);
            Edges.due("cut(4, 0)", before, x -> x.cut(4, 0), 7);
            Edges.due("spoil(4, 0, 0)", before, x -> x.spoil(4, 0, 0), 11);
            Edges.due("again(4)", before, x -> x.again(4), 0);
            Edges.due("number(4, 0)", before, x -> x.number(4, 0), 11);
            Edges.due("blamed(4)", before, x -> x.blamed(4), 0);
            for (int packet : new int[] {-1, 5, 7, 8, LEAST, MOST}) {
                Edges.refused("lose " + packet, before, x -> x.lose(packet), UNKNOWN);
                Edges.refused("cut " + packet, before, x -> x.cut(packet, 0), UNKNOWN);
                Edges.refused("cut -1 of " + packet, before, x -> x.cut(packet, -1), UNKNOWN);
                Edges.refused("spoil " + packet, before, x -> x.spoil(packet, 0, 0), UNKNOWN);
                Edges.refused("spoil 29 of " + packet, before, x -> x.spoil(packet, 0, 29), UNKNOWN);
                Edges.refused("again " + packet, before, x -> x.again(packet), UNKNOWN);
                Edges.refused("number " + packet, before, x -> x.number(packet, 0), UNKNOWN);
                Edges.refused("blamed " + packet, before, x -> x.blamed(packet), UNKNOWN);
            }
        }
        FirstParts all = Edges.after(Edges.packed("packets 8;part a 1 1"));
        Edges.due("the eighth of 8", all.lose(7), 1);
        FirstParts one = Edges.after(Edges.packed("packets 1;part a 1 1"));
        Edges.due("the second of 1", one.lose(1), UNKNOWN);
        Edges.due("the first of 1", one.lose(0), 1);
    }

    private static void loseAnswersWhatItHad() {
        Edges.sentence("A PACKET is LOST: how many numbers it still had");
        Edges.due("whole", BOX, x -> x.lose(0), 7);
        Edges.due("cut to 4", HURT, x -> x.lose(2), 4);
        Edges.due("spoiled", HURT, x -> x.lose(3), 7);
        Edges.due("cut to none", HURT, x -> x.lose(4), 0);
        Edges.due("cut to all", Edges.then(BOX, x -> x.cut(0, 7)), x -> x.lose(0), 7);
        Edges.due("sent again", Edges.then(HURT, x -> x.again(1)), x -> x.lose(1), 7);
        Edges.due("LOST", Edges.then(HURT, x -> x.lose(4)), x -> x.count(10), 2);
    }

    private static void loseTwice() {
        Edges.sentence("lose() UNKNOWN (nothing PACKED, too); NOT: it is LOST");
        Edges.refused("a LOST one", HURT, x -> x.lose(1), NOT);
        Edges.refused("one that was cut to none and LOST", Edges.then(BOX, x -> {
            x.cut(0, 0);
            x.lose(0);
        }), x -> x.lose(0), NOT);
        Edges.refused("not PACKED yet", Edges.told("part a 1 1"), x -> x.lose(0), UNKNOWN);
        Edges.refused("pack() undone", Edges.then(BOX, FirstParts::undo), x -> x.lose(0), UNKNOWN);
        Edges.due("sent again", Edges.then(HURT, x -> x.again(1)), x -> x.lose(1), 7);
        Edges.due("undone", Edges.then(HURT, x -> {
            x.lose(0);
            x.undo();
        }), x -> x.lose(0), 7);
    }

    private static void cutIs0ToWhatItHas() {
        Edges.sentence("Of a PACKET but its first m numbers stay: how many go. OUTSIDE: m below 0, or above");
        for (int i = 0; i <= 7; i++) {
            int m = i;
            Edges.due("cut(0, " + m + ")", BOX, x -> x.cut(0, m), 7 - m);
            FirstParts x = Edges.after(Edges.then(BOX, y -> y.cut(0, m)));
            for (int n = 0; n < 7; n++) {
                if ((x.number(0, n) == NONE) != (n >= m)) {
                    Edges.fails("behind cut(0, " + m + ") number(0, " + n + ") is " + x.number(0, n));
                }
            }
        }
        for (int m : new int[] {-1, 8, LEAST, MOST}) {
            Edges.refused("cut(0, " + m + ")", BOX, x -> x.cut(0, m), OUTSIDE);
        }
        Edges.due("as many as it has", HURT, x -> x.cut(2, 4), 0);
        Edges.refused("more than it has", HURT, x -> x.cut(2, 5), OUTSIDE);
        Edges.refused("as many as it had at first", HURT, x -> x.cut(2, 7), OUTSIDE);
        Edges.refused("below 0", HURT, x -> x.cut(2, -1), OUTSIDE);
        Edges.due("none of none", HURT, x -> x.cut(4, 0), 0);
        Edges.refused("one of none", HURT, x -> x.cut(4, 1), OUTSIDE);
        Edges.due("sent again", Edges.then(HURT, x -> x.again(2)), x -> x.cut(2, 7), 0);
    }

    private static void cutOfALostOne() {
        Edges.sentence("cut() OUTSIDE: above the numbers that it still has (or had, when it was LOST); NOT: it is LOST");
        Edges.refused("as many as it had", HURT, x -> x.cut(1, 4), NOT);
        Edges.refused("fewer", HURT, x -> x.cut(1, 0), NOT);
        Edges.refused("more", HURT, x -> x.cut(1, 5), OUTSIDE);
        Edges.refused("as many as it had at first", HURT, x -> x.cut(1, 7), OUTSIDE);
        Edges.refused("below 0", HURT, x -> x.cut(1, -1), OUTSIDE);
        Edges.Run whole = Edges.then(BOX, x -> x.lose(0));
        Edges.refused("of a whole one all", whole, x -> x.cut(0, 7), NOT);
        Edges.refused("of a whole one one more", whole, x -> x.cut(0, 8), OUTSIDE);
        Edges.Run none = Edges.then(HURT, x -> x.lose(4));
        Edges.refused("of an empty one none", none, x -> x.cut(4, 0), NOT);
        Edges.refused("of an empty one one", none, x -> x.cut(4, 1), OUTSIDE);
        Edges.refused("no such PACKET, below 0", whole, x -> x.cut(5, -1), UNKNOWN);
    }

    private static void spoilIsOfANumberThatIsThere() {
        Edges.sentence("spoil() the i-th number (0 on) of a PACKET. UNKNOWN (LOST, cut, too)");
        Edges.due("the first", BOX, x -> x.spoil(0, 0, 5), 11);
        Edges.due("the last", BOX, x -> x.spoil(0, 6, 5), 12);
        for (int i : new int[] {-1, 7, 8, 40, LEAST, MOST}) {
            Edges.refused("spoil(0, " + i + ", 5)", BOX, x -> x.spoil(0, i, 5), UNKNOWN);
            Edges.refused("spoil(0, " + i + ", 29)", BOX, x -> x.spoil(0, i, 29), UNKNOWN);
        }
        Edges.due("the last that is not cut", HURT, x -> x.spoil(2, 3, 5), curveAt("ij", 0, 2, 3));
        Edges.refused("the first that is cut", HURT, x -> x.spoil(2, 4, 5), UNKNOWN);
        Edges.refused("the first that is cut, 29", HURT, x -> x.spoil(2, 4, 29), UNKNOWN);
        Edges.refused("of an empty one", HURT, x -> x.spoil(4, 0, 5), UNKNOWN);
        for (int i = 0; i < 7; i++) {
            int place = i;
            Edges.refused("LOST, " + i, HURT, x -> x.spoil(1, place, 5), UNKNOWN);
            Edges.refused("LOST, " + i + ", 29", HURT, x -> x.spoil(1, place, 29), UNKNOWN);
            Edges.refused("LOST, " + i + ", -1", HURT, x -> x.spoil(1, place, -1), UNKNOWN);
        }
        Edges.due("sent again", Edges.then(HURT, x -> x.again(1)), x -> x.spoil(1, 0, 5), 11);
    }

    private static void spoilIs0To28() {
        Edges.sentence("spoil() is v: what it was. OUTSIDE: v (0 .. 28)");
        Edges.due("0", BOX, x -> x.spoil(0, 0, 0), 11);
        Edges.due("28", BOX, x -> x.spoil(0, 0, 28), 11);
        Edges.due("behind 0", Edges.then(BOX, x -> x.spoil(0, 0, 0)), x -> x.number(0, 0), 0);
        Edges.due("behind 28", Edges.then(BOX, x -> x.spoil(0, 0, 28)), x -> x.number(0, 0), 28);
        Edges.due("what it was by then", Edges.then(BOX, x -> x.spoil(0, 0, 28)), x -> x.spoil(0, 0, 3), 28);
        for (int v : new int[] {-1, 29, 30, LEAST, MOST}) {
            Edges.refused("spoil(0, 0, " + v + ")", BOX, x -> x.spoil(0, 0, v), OUTSIDE);
        }
    }

    private static void againCountsWhatIsOther() {
        Edges.sentence("how many numbers of it are other ones, or are there again");
        Edges.due("as it was PACKED", BOX, x -> x.again(0), 0);
        Edges.due("LOST", HURT, x -> x.again(1), 7);
        Edges.due("cut to 4", HURT, x -> x.again(2), 3);
        Edges.due("one other", HURT, x -> x.again(3), 1);
        Edges.due("cut to none", HURT, x -> x.again(4), 7);
        Edges.due("cut to all", Edges.then(BOX, x -> x.cut(0, 7)), x -> x.again(0), 0);
        Edges.due("spoiled by what it was", Edges.then(BOX, x -> x.spoil(0, 0, 11)), x -> x.again(0), 0);
        Edges.due("spoiled and back", Edges.then(BOX, x -> {
            x.spoil(0, 0, 5);
            x.spoil(0, 0, 11);
        }), x -> x.again(0), 0);
        Edges.due("spoiled, then cut: once", Edges.then(BOX, x -> {
            x.spoil(0, 6, 5);
            x.cut(0, 6);
        }), x -> x.again(0), 1);
        Edges.due("spoiled and another one cut", Edges.then(BOX, x -> {
            x.spoil(0, 5, 5);
            x.cut(0, 6);
        }), x -> x.again(0), 2);
        for (int p = 0; p < 5; p++) {
            int packet = p;
            FirstParts x = Edges.after(Edges.then(HURT, y -> y.again(packet)));
            FirstParts as = Edges.after(BOX);
            for (int i = 0; i < 7; i++) {
                Edges.due("number(" + p + ", " + i + ") then", x.number(p, i), as.number(p, i));
            }
            Edges.due("again() then", x.again(p), 0);
        }
    }

    private static void undoOfNone() {
        Edges.sentence("undo() how many can be undone yet. NOT: none");
        Edges.refused("undo()", Edges.nothing(), FirstParts::undo, NOT);
        Edges.refused("undo() behind tell()", Edges.told("part a 1 1"), FirstParts::undo, NOT);
        Edges.due("of one", BOX, FirstParts::undo, 0);
        Edges.refused("of one, twice", Edges.then(BOX, FirstParts::undo), FirstParts::undo, NOT);
        Edges.due("of two", Edges.then(BOX, x -> x.lose(0)), FirstParts::undo, 1);
    }

    private static void undoOfTheLast8() {
        Edges.sentence("the last 8 can be");
        for (int calls = 1; calls <= 26; calls++) {
            FirstParts x = new FirstParts();
            for (int r = 1; r <= calls; r++) {
                x.room(r);
            }
            int can = Math.min(calls, 8);
            for (int left = can - 1; left >= 0; left--) {
                Edges.due("undo() behind " + calls, x.undo(), left);
                int at = calls - (can - left);
                Edges.due("ROOM then", x.count(2), at == 0 ? 20 : at);
            }
            Edges.due("no more behind " + calls, x.undo(), NOT);
            x.room(40);
            Edges.due("a new one behind all", x.undo(), 0);
        }
        FirstParts y = Edges.after(BOX);
        for (int i = 0; i < 7; i++) {
            y.spoil(0, i, 28);
        }
        Edges.due("pack() is the eighth", y.count(13), 8);
        y.spoil(1, 0, 28);
        for (int i = 0; i < 8; i++) {
            y.undo();
        }
        Edges.due("pack() was the ninth", y.count(7), 4);
        Edges.due("all the others are undone", y.again(0) + y.again(1), 0);
    }

    private static void undoOfEachKind() {
        Edges.sentence("The latest packets(), room(), need(), weigh(), drop(), pack(), lose(), cut(), spoil(), again() is undone");
        Edges.undone("packets", HURT, x -> x.packets(8));
        Edges.undone("room", HURT, x -> x.room(1));
        Edges.undone("need", HURT, x -> x.need(0, 8));
        Edges.undone("weigh", HURT, x -> x.weigh(0, 9));
        Edges.undone("drop", HURT, x -> x.drop(0));
        Edges.undone("pack", HURT, FirstParts::pack);
        for (int p = 0; p < 5; p++) {
            int packet = p;
            if (p != 1) {
                Edges.undone("lose " + p, HURT, x -> x.lose(packet));
                Edges.undone("cut " + p, HURT, x -> x.cut(packet, 0));
            }
            if (p != 1 && p != 4) {
                Edges.undone("spoil " + p, HURT, x -> x.spoil(packet, 0, 28));
            }
            Edges.undone("again " + p, HURT, x -> x.again(packet));
        }
        Edges.nothingChanges("two boxes and back", BOX, x -> {
            x.lose(0);
            x.pack();
            x.lose(1);
            x.drop(3);
            x.pack();
            x.cut(2, 1);
            x.again(0);
            for (int i = 0; i < 7; i++) {
                x.undo();
            }
        });
    }

    private static void undoWhereNothingBecameOther() {
        Edges.sentence("undone, also one by which nothing became other");
        Edges.undone("packets", HURT, x -> x.packets(5));
        Edges.undone("room", HURT, x -> x.room(20));
        Edges.undone("need", HURT, x -> x.need(0, 3));
        Edges.undone("weigh", HURT, x -> x.weigh(0, 1));
        Edges.undone("cut", HURT, x -> x.cut(2, 4));
        Edges.undone("cut of none", HURT, x -> x.cut(4, 0));
        Edges.undone("spoil", HURT, x -> x.spoil(3, 3, 28));
        Edges.undone("again", HURT, x -> x.again(0));
        Edges.undone("pack", BOX, FirstParts::pack);
    }

    private static void undoOfNoOtherKind() {
        Edges.sentence("undo() is of no other call: write(), erase(), and all that only ask");
        Edges.Run asked = Edges.then(HURT, x -> {
            x.write('a');
            x.fault();
            x.erase();
            x.part(0, 0);
            x.letter(0, 0);
            x.number(0, 0);
            x.packed(0, 0);
            x.read(0, 0);
            x.mended(0, 0);
            x.blamed(0);
            x.opened(0);
            x.plan(0);
            x.lesser(0);
            x.count(0);
        });
        Edges.due("count(13)", asked, x -> x.count(13), 6);
        Edges.due("undo()", asked, FirstParts::undo, 5);
        Edges.due("the latest of those that can be", Edges.then(asked, FirstParts::undo), x -> x.number(4, 0), 11);
        FirstParts x = Edges.after(HURT);
        x.write('a');
        x.undo();
        Edges.due("the text stays", x.count(14), 1);
        x.erase();
        x.undo();
        Edges.due("it stays empty", x.count(14), 0);
    }

    private static void undoOfARefusedOne() {
        Edges.sentence("Refused, and nothing changes: nothing to undo");
        Edges.Run refused = Edges.then(HURT, x -> {
            x.packets(0);
            x.room(41);
            x.need(0, 9);
            x.need(4, 1);
            x.weigh(0, 10);
            x.weigh(4, 1);
            x.drop(4);
            x.lose(1);
            x.lose(5);
            x.cut(1, 4);
            x.cut(2, 5);
            x.cut(5, 0);
            x.spoil(0, 0, 29);
            x.spoil(4, 0, 0);
            x.again(5);
        });
        Edges.due("count(13)", refused, x -> x.count(13), 6);
        Edges.due("the latest that was done", Edges.then(refused, FirstParts::undo), x -> x.number(4, 0), 11);
    }

    private static void numberOfAPacket() {
        Edges.sentence("The i-th number (0 on) of a PACKET as it is. UNKNOWN");
        Edges.due("the first", BOX, x -> x.number(4, 0), 11);
        Edges.due("the last", BOX, x -> x.number(4, 6), curveAt("def", 0, 3, 5));
        for (int i : new int[] {-1, 7, 8, 39, 40, LEAST, MOST}) {
            for (int p = 0; p < 5; p++) {
                int packet = p;
                Edges.refused("number(" + p + ", " + i + ")", HURT, x -> x.number(packet, i), UNKNOWN);
            }
        }
        Edges.due("as it is", HURT, x -> x.number(3, 3), 28);
    }

    private static void numberIsNone() {
        Edges.sentence("number() NONE: LOST, cut");
        for (int i = 0; i < 7; i++) {
            int place = i;
            Edges.due("LOST, " + i, HURT, x -> x.number(1, place), NONE);
            Edges.due("empty, " + i, HURT, x -> x.number(4, place), NONE);
        }
        Edges.due("the last that stays", HURT, x -> x.number(2, 3), curveAt("ij", 0, 2, 3));
        Edges.due("the first that went", HURT, x -> x.number(2, 4), NONE);
        Edges.due("the last that went", HURT, x -> x.number(2, 6), NONE);
    }

    private static void packedOfNoPart() {
        Edges.sentence("packed() Of a PACKED PART. UNKNOWN");
        Edges.Run fewer = Edges.then(BOX, x -> x.drop(0));
        Edges.Run more = Edges.then(BOX, Edges.told("part n 1 1;part o 1 1"));
        for (Edges.Run before : new Edges.Run[] {BOX, fewer, more}) {
            Edges.due("the first", before, x -> x.packed(0, 2), 6);
            Edges.due("the last", before, x -> x.packed(3, 2), 2);
            for (int part : new int[] {-1, 4, 5, 6, LEAST, MOST}) {
                Edges.refused("packed " + part, before, x -> x.packed(part, 0), UNKNOWN);
                Edges.refused("packed what 6 of " + part, before, x -> x.packed(part, 6), UNKNOWN);
                Edges.refused("read " + part, before, x -> x.read(part, 0), UNKNOWN);
                Edges.refused("mended " + part, before, x -> x.mended(part, 0), UNKNOWN);
            }
        }
    }

    private static void packedIsAskedWhat0To5() {
        Edges.sentence("packed() what 0 .. 5; OUTSIDE");
        int[] want = {OPEN, 3, 6, 5, 5, 16};
        for (int w = 0; w < 6; w++) {
            int what = w;
            Edges.due("what " + w, BOX, x -> x.packed(0, what), want[w]);
            Edges.nothingChanges("packed(0, " + w + ")", HURT, x -> x.packed(0, what));
        }
        for (int what : new int[] {-1, 6, 7, LEAST, MOST}) {
            Edges.refused("what " + what, HURT, x -> x.packed(0, what), OUTSIDE);
        }
        Edges.Run later = Edges.then(BOX, x -> x.need(0, 1));
        Edges.due("its NEED as it was", later, x -> x.packed(0, 1), 3);
    }

    private static void shutByFewerHoldersThanNeed() {
        Edges.sentence("SHUT, if one of its STRIPES has fewer HOLDERS than its NEED");
        for (int n = 1; n <= 8; n++) {
            for (int k = 1; k <= n; k++) {
                FirstParts x = Edges.after(Edges.packed("packets " + n + ";part " + LETTERS + " " + k + " 1"));
                for (int left = n; left >= 0; left--) {
                    Edges.due(left + " of " + n + ", NEED " + k, x.packed(0, 0), left < k ? SHUT : OPEN);
                    Edges.due("HOLDERS", x.packed(0, 4), left);
                    Edges.due("read()", x.read(0, 0), left < k ? NOT : 16);
                    Edges.due("mended()", x.mended(0, 11), left < k ? NOT : 2);
                    x.lose(left - 1);
                }
            }
        }
    }

    private static void shutByOneStripe() {
        Edges.sentence("SHUT by one of its STRIPES: HOLDERS are not LOST and still have its number");
        Edges.Run before = Edges.then(BOX, x -> {
            x.cut(0, 6);
            x.lose(1);
        });
        Edges.due("three hold both", before, x -> x.packed(0, 0), OPEN);
        Edges.due("two hold the last", Edges.then(before, x -> x.cut(4, 6)), x -> x.packed(0, 0), SHUT);
        Edges.due("three still have it", Edges.then(before, x -> x.cut(4, 7)), x -> x.packed(0, 0), OPEN);
        Edges.due("two hold the last, one lies at the first", Edges.then(before, x -> {
            x.cut(4, 6);
            x.spoil(4, 5, 28);
        }), x -> x.packed(0, 0), SHUT);
        Edges.due("SHUT parts", Edges.then(before, x -> x.cut(4, 6)), x -> x.count(11), 1);
    }

    private static void doubtByAnotherNumber() {
        Edges.sentence("in DOUBT, if a HOLDER of one of its STRIPES has another number than THROUGH there");
        for (int k = 1; k <= 7; k++) {
            String text = "packets " + (k + 1) + ";part " + LETTERS + " " + k + " 1";
            Edges.Run before = Edges.packed(text);
            int last = Edges.after(before).count(9) - 1;
            for (int p = 0; p <= k; p++) {
                int packet = p;
                Edges.Run lies = Edges.then(before, x -> x.spoil(packet, last, (x.number(packet, last) + 1) % 29));
                Edges.due("one of " + (k + 1) + " lies", lies, x -> x.packed(0, 0), DOUBT);
                Edges.Run same = Edges.then(before, x -> x.spoil(packet, last, x.number(packet, last)));
                Edges.due("none lies", same, x -> x.packed(0, 0), OPEN);
                Edges.Run few = Edges.then(lies, x -> x.lose(packet == 0 ? 1 : 0));
                Edges.due("NEED HOLDERS are not in DOUBT", few, x -> x.packed(0, 0), OPEN);
                Edges.Run gone = Edges.then(lies, x -> x.cut(packet, last));
                Edges.due("the lie is cut", gone, x -> x.packed(0, 0), OPEN);
            }
        }
    }

    private static void fewestHolders() {
        Edges.sentence("the fewest HOLDERS of a STRIPE of it (4)");
        int[] want = {2, 3, 2, 3};
        for (int i = 0; i < 4; i++) {
            int part = i;
            Edges.due("of PART " + i, HURT, x -> x.packed(part, 4), want[i]);
        }
        Edges.due("none", Edges.then(HURT, x -> {
            x.lose(0);
            x.cut(3, 5);
        }), x -> x.packed(0, 4), 0);
    }

    private static void setsThatOpen() {
        Edges.sentence("of all sets of PACKETS (2 to the power of n), how many would open it (5)");
        for (int n = 1; n <= 8; n++) {
            for (int k = 1; k <= n; k++) {
                int sets = 0;
                int choose = 1;
                for (int j = 0; j <= n; j++) {
                    sets += j >= k ? choose : 0;
                    choose = choose * (n - j) / (j + 1);
                }
                Edges.Run before = Edges.packed("packets " + n + ";part ab " + k + " 1");
                Edges.due("n " + n + ", NEED " + k, before, x -> x.packed(0, 5), sets);
                Edges.due("whatever is LOST", Edges.then(before, x -> x.lose(0)), x -> x.packed(0, 5), sets);
                Edges.due("whatever is cut", Edges.then(before, x -> x.cut(0, 0)), x -> x.packed(0, 5), sets);
                Edges.due("whatever n is now", Edges.then(before, x -> x.packets(4)), x -> x.packed(0, 5), sets);
            }
        }
    }

    private static void readOfALetter() {
        Edges.sentence("read() The i-th letter (0 on) of a PACKED PART. UNKNOWN");
        for (int i = 0; i < 6; i++) {
            int letter = i;
            Edges.due("read(0, " + i + ")", BOX, x -> x.read(0, letter), i);
        }
        for (int i : new int[] {-1, 6, 7, 12, LEAST, MOST}) {
            Edges.refused("read(0, " + i + ")", BOX, x -> x.read(0, i), UNKNOWN);
            Edges.refused("read(0, " + i + ") of a SHUT one", HURT, x -> x.read(0, i), UNKNOWN);
        }
        Edges.due("what was PACKED", Edges.then(BOX, x -> x.drop(0)), x -> x.read(0, 5), 5);
        Edges.nothingChanges("read(2, 0)", HURT, x -> x.read(2, 0));
    }

    private static void readByTheLowestPackets() {
        Edges.sentence("THROUGH: the numbers of the first NEED of them, by the lowest PACKETS (0 .. 28)");
        Edges.Run before = Edges.packed("packets 4;part lo 1 1");
        Edges.due("28", Edges.then(before, x -> x.spoil(0, 0, 28)), x -> x.read(0, 0), 28);
        Edges.due("0", Edges.then(before, x -> x.spoil(0, 0, 0)), x -> x.read(0, 0), 0);
        Edges.due("a lie of the second", Edges.then(before, x -> x.spoil(1, 0, 28)), x -> x.read(0, 0), 11);
        Edges.due("the other STRIPE", Edges.then(before, x -> x.spoil(0, 0, 28)), x -> x.read(0, 1), 14);
        Edges.due("the lowest that is left", Edges.then(before, x -> {
            x.spoil(0, 0, 28);
            x.lose(0);
        }), x -> x.read(0, 0), 11);
        Edges.Run two = Edges.packed("packets 4;part lo 2 1");
        for (int p = 2; p < 4; p++) {
            int packet = p;
            Edges.due("a lie of PACKET " + p, Edges.then(two, x -> x.spoil(packet, 0, 0)), x -> x.read(0, 0), 11);
        }
        Edges.Run line = Edges.then(two, x -> {
            x.spoil(0, 0, 27);
            x.spoil(1, 0, 0);
        });
        Edges.due("the line by 27 and 0", line, x -> x.read(0, 0), 25);
        Edges.due("its slope", line, x -> x.read(0, 1), 2);
    }

    private static void readWithFewerHoldersThanNeed() {
        Edges.sentence("read() NOT: that STRIPE has fewer HOLDERS than NEED");
        Edges.Run before = Edges.then(BOX, x -> {
            x.lose(0);
            x.lose(1);
            x.cut(2, 6);
        });
        Edges.due("three have the first", before, x -> x.read(0, 0), 0);
        Edges.refused("two have the last", before, x -> x.read(0, 3), NOT);
        Edges.refused("mended(), two have the last", before, x -> x.mended(0, 5), NOT);
        Edges.due("mended(), three have the first", before, x -> x.mended(0, 2), 2);
        Edges.Run none = Edges.then(before, x -> {
            x.lose(2);
            x.lose(3);
            x.lose(4);
        });
        Edges.refused("all LOST", none, x -> x.read(3, 0), NOT);
        Edges.refused("mended(), all LOST", none, x -> x.mended(3, 0), NOT);
        Edges.refused("all LOST, no such letter", none, x -> x.read(3, 2), UNKNOWN);
        Edges.due("one is left", Edges.then(none, x -> x.again(4)), x -> x.read(3, 1), 12);
    }

    private static void mendedOfALetter() {
        Edges.sentence("mended() Likewise by MENDED; UNKNOWN");
        for (int i = 0; i < 6; i++) {
            int letter = i;
            Edges.due("mended(0, " + i + ")", BOX, x -> x.mended(0, letter), i);
        }
        for (int i : new int[] {-1, 6, 7, 12, LEAST, MOST}) {
            Edges.refused("mended(0, " + i + ")", BOX, x -> x.mended(0, i), UNKNOWN);
            Edges.refused("mended(0, " + i + ") of a SHUT one", HURT, x -> x.mended(0, i), UNKNOWN);
        }
        Edges.nothingChanges("mended(2, 0)", HURT, x -> x.mended(2, 0));
    }

    /** The first numbers of so many PACKETS, from one on, become other ones. */
    private static void lie(FirstParts x, int from, int liars) {
        for (int p = from; p < from + liars; p++) {
            x.spoil(p, 0, (x.number(p, 0) + LIES[p]) % 29);
        }
    }

    private static void mendedButHalf() {
        Edges.sentence("all HOLDERS but half of (h less NEED) at most, cut down; there may be none; NONE");
        for (int n = 1; n <= 8; n++) {
            for (int k = 1; k <= n; k++) {
                int half = (n - k) / 2;
                Edges.Run before = Edges.packed("packets " + n + ";part " + LETTERS.substring(0, k) + " " + k + " 1");
                for (int l = 0; l <= half + 1 && n > k; l++) {
                    int liars = l;
                    mendedDue(n + ", " + k + ": the first " + l, Edges.then(before, x -> lie(x, 0, liars)), k, l <= half);
                    int from = n - l;
                    mendedDue(n + ", " + k + ": the last " + l, Edges.then(before, x -> lie(x, from, liars)), k, l <= half);
                }
                if (n == k) {
                    FirstParts x = Edges.after(Edges.then(before, y -> lie(y, 0, 1)));
                    Edges.due("as many as NEED: as THROUGH", x.mended(0, 0), x.read(0, 0));
                    Edges.due("none is BLAMED", x.blamed(0), 0);
                }
            }
        }
    }

    private static void mendedDue(String what, Edges.Run run, int letters, boolean there) {
        FirstParts x = Edges.after(run);
        for (int i = 0; i < letters; i++) {
            Edges.due(what + ", letter " + i, x.mended(0, i), there ? LETTERS.charAt(i) - 'a' : NONE);
        }
    }

    private static void mendedWithFewerHolders() {
        Edges.sentence("MENDED of a STRIPE with h HOLDERS, NEED or more");
        Edges.Run whole = Edges.packed("packets 8;part " + LETTERS.substring(0, 2) + " 2 1");
        for (int liars = 0; liars <= 4; liars++) {
            for (int lost = 0; lost + liars <= 8; lost++) {
                int half = (8 - lost - 2) / 2;
                int lies = liars;
                int from = 8 - lost;
                Edges.Run gone = Edges.then(whole, x -> {
                    lie(x, 0, lies);
                    for (int p = from; p < 8; p++) {
                        x.lose(p);
                    }
                });
                Edges.Run cut = Edges.then(whole, x -> {
                    lie(x, 0, lies);
                    for (int p = from; p < 8; p++) {
                        x.cut(p, 0);
                    }
                });
                String what = liars + " of " + from + " lie";
                if (from < 2) {
                    Edges.due(what, gone, x -> x.mended(0, 0), NOT);
                    Edges.due(what + ", cut", cut, x -> x.mended(0, 0), NOT);
                } else if (from > 2) {
                    mendedDue(what, gone, 2, liars <= half);
                    mendedDue(what + ", cut", cut, 2, liars <= half);
                }
            }
        }
    }

    private static void mendedByLiarsWhoAgree() {
        Edges.sentence("the CURVE that all HOLDERS but so many have their numbers of; there is one at most");
        for (int n = 1; n <= 8; n++) {
            Edges.Run before = Edges.packed("packets " + n + ";part h 1 1");
            for (int l = 0; l <= n; l++) {
                int liars = l;
                FirstParts x = Edges.after(Edges.then(before, y -> {
                    for (int p = 0; p < liars; p++) {
                        y.spoil(p, 0, 28);
                    }
                }));
                int half = (n - 1) / 2;
                int want = liars <= half ? 7 : n - liars <= half ? 28 : NONE;
                Edges.due(l + " of " + n + " say the same", x.mended(0, 0), want);
            }
        }
        FirstParts y = Edges.after(Edges.packed("packets 5;part ab 2 1"));
        int[] line = {27, 26, 25, 24};
        for (int p = 0; p < 4; p++) {
            y.spoil(p, 0, line[p]);
        }
        Edges.due("four of five on another line", y.mended(0, 0), 28);
        Edges.due("its slope", y.mended(0, 1), 28);
        Edges.due("who tells the truth is BLAMED", y.blamed(4), 1);
        Edges.due("who lies is not", y.blamed(0), 0);
    }

    private static void blamedOfAPacket() {
        Edges.sentence("By how many STRIPES of all PACKED PARTS a PACKET is BLAMED. UNKNOWN");
        for (int p = 0; p < 5; p++) {
            int packet = p;
            Edges.due("none lies", BOX, x -> x.blamed(packet), 0);
            Edges.nothingChanges("blamed(" + p + ")", HURT, x -> x.blamed(packet));
            Edges.Run lies = Edges.then(BOX, x -> {
                for (int i = 0; i < 7; i++) {
                    x.spoil(packet, i, (x.number(packet, i) + 1) % 29);
                }
            });
            Edges.due("it lies in all of them", lies, x -> x.blamed(packet), 7);
            Edges.due("another one", lies, x -> x.blamed((packet + 1) % 5), 0);
        }
        Edges.refused("blamed(-1)", HURT, x -> x.blamed(-1), UNKNOWN);
        Edges.refused("blamed(5)", HURT, x -> x.blamed(5), UNKNOWN);
    }

    private static void blamedOnlyWhereMended() {
        Edges.sentence("BLAMED by a STRIPE, if that has a MENDED one");
        for (int n = 2; n <= 8; n++) {
            for (int k = 1; k < n; k++) {
                int half = (n - k) / 2;
                Edges.Run before = Edges.packed("packets " + n + ";part " + LETTERS.substring(0, k) + " " + k + " 1");
                for (int l = 1; l <= half + 1; l++) {
                    int liars = l;
                    FirstParts x = Edges.after(Edges.then(before, y -> lie(y, 0, liars)));
                    for (int p = 0; p < n; p++) {
                        Edges.due(l + " of " + n + ", NEED " + k, x.blamed(p), p < l && l <= half ? 1 : 0);
                    }
                }
            }
        }
    }

    private static void blamedOnlyIfAHolder() {
        Edges.sentence("BLAMED, if the PACKET is a HOLDER, and has another number there");
        Edges.Run lies = Edges.then(Edges.packed("packets 8;part abc 1 1"), x -> {
            for (int i = 0; i < 3; i++) {
                x.spoil(2, i, 28);
            }
        });
        for (int left = 0; left <= 3; left++) {
            int m = left;
            Edges.due("cut to " + m, Edges.then(lies, x -> x.cut(2, m)), x -> x.blamed(2), m);
        }
        Edges.due("LOST", Edges.then(lies, x -> x.lose(2)), x -> x.blamed(2), 0);
        Edges.due("as it was in one", Edges.then(lies, x -> x.spoil(2, 0, 0)), x -> x.blamed(2), 2);
        Edges.due("sent again", Edges.then(lies, x -> x.again(2)), x -> x.blamed(2), 0);
    }

    private static void blamedByEachStripe() {
        Edges.sentence("BLAMED by how many STRIPES: one that is SHUT, one that has no MENDED one, count nothing");
        Edges.Run before = Edges.packed("packets 4;part ab 1 1;part cd 2 1;part ef 3 1;part gh 4 1");
        Edges.Run lies = Edges.then(before, x -> {
            for (int i = 0; i < 5; i++) {
                x.spoil(0, i, (x.number(0, i) + 1) % 29);
            }
        });
        Edges.due("by both of NEED 1, by the one of NEED 2", lies, x -> x.blamed(0), 3);
        Edges.due("three are left: by those of NEED 1", Edges.then(lies, x -> x.lose(3)), x -> x.blamed(0), 2);
        Edges.due("two are left", Edges.then(lies, x -> {
            x.lose(3);
            x.lose(2);
        }), x -> x.blamed(0), 0);
    }

    private static void openedIs0To8() {
        Edges.sentence("PACKED PARTS (bits) whose NEED is m (0 .. 8) or less. OUTSIDE");
        Edges.Run before = Edges.packed("packets 8;part a 8 1;part b 1 1;part c 7 1;part d 2 1;part e 1 1;part f 8 1");
        int[] want = {0, 18, 26, 26, 26, 26, 26, 30, 63};
        for (int i = 0; i <= 8; i++) {
            int m = i;
            Edges.due("opened(" + m + ")", before, x -> x.opened(m), want[m]);
            Edges.due("all LOST, opened(" + m + ")", Edges.then(before, x -> {
                for (int p = 0; p < 8; p++) {
                    x.lose(p);
                }
            }), x -> x.opened(m), want[m]);
            Edges.due("nothing PACKED", Edges.nothing(), x -> x.opened(m), 0);
            Edges.due("not PACKED yet", Edges.told("part a 1 1"), x -> x.opened(m), 0);
            Edges.nothingChanges("opened(" + m + ")", HURT, x -> x.opened(m));
        }
        for (int m : new int[] {-1, 9, LEAST, MOST}) {
            Edges.refused("opened(" + m + ")", HURT, x -> x.opened(m), OUTSIDE);
            Edges.refused("opened(" + m + ") of nothing", Edges.nothing(), x -> x.opened(m), OUTSIDE);
        }
        Edges.due("NEED as it was", Edges.then(BOX, x -> x.need(0, 1)), x -> x.opened(1), 8);
    }

    private static void all512Calls() {
        Edges.sentence("An object is used for at most 512 calls after it has been made");
        String text = "packets 8;room 40;part abcdefghijkl 1 1;part zz 8 9";
        FirstParts x = Edges.after(Edges.told(text));
        for (int calls = text.length() + 1; calls < 512 - 4; calls++) {
            Edges.due("pack()", x.pack(), 13);
        }
        Edges.due("undo()", x.undo(), 7);
        Edges.due("lose()", x.lose(7), 13);
        Edges.due("read()", x.read(0, 11), 11);
        Edges.due("the 512th", x.count(10), 1);
    }
}
