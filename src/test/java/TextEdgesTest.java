/** The edges that the document names for a new object and THE TEXT: promises 1 to 5 and their terms. */
public final class TextEdgesTest {
    private static final int NONE = -1, UNKNOWN = -2, OUTSIDE = -3, NOT = -4, FULL = -5;
    private static final int LEAST = Integer.MIN_VALUE, MOST = Integer.MAX_VALUE;
    private static final String SIX = "part a1 1;part b2 2;part c3 3;part d4 4;part e5 5;part f6 6";
    private static final String FIVE = "part a1 1;part b2 2;part c3 3;part d4 4;part e5 5";

    public static void main(String[] args) {
        newObjectHasNoParts();
        newObjectHasNothingPacked();
        letterIs0To255();
        textIs200AtMost();
        textIsEmptyBehindErase();
        atLeastOneClause();
        atMost24Clauses();
        semicolonsStandBetween();
        clauseIsOneOfFour();
        packetsAre1To8();
        roomIs1To40();
        needIs1To8();
        weightIs1To9();
        numbersHave1Or2Digits();
        wordHas1To12Letters();
        lettersAreSmallOnes();
        digitsAre0To9();
        blanksAre32Alone();
        blanksMayStandAheadAndBehind();
        blanksAreNeededBetweenLikeRows();
        partsAre6AtMost();
        partsByThen();
        faultIsWhereTheTokenBegins();
        faultIsTheFirst();
        faultAtTheEnd();
        faultChangesNothing();
        tellCountsClauses();
        tellRefusesAFault();
        clausesGoInTheirOrder();
        allIsAsAtFirst();
        whatThereWasStays();
        nothingCanBeUndoneBehindTell();
        packedStaysBehindTell();
        Edges.finish();
    }

    private static void newObjectHasNoParts() {
        Edges.sentence("n 1 .. 8; 4 at first; ROOM 20 at first; PARTS none at first");
        FirstParts x = new FirstParts();
        Edges.due("PARTS", x.count(0), 0);
        Edges.due("n", x.count(1), 4);
        Edges.due("ROOM", x.count(2), 20);
        Edges.due("undone", x.count(13), 0);
        Edges.due("letters", x.count(14), 0);
        Edges.due("part(0, 0)", x.part(0, 0), UNKNOWN);
        Edges.due("letter(0, 0)", x.letter(0, 0), UNKNOWN);
        Edges.due("erase()", x.erase(), 0);
    }

    private static void newObjectHasNothingPacked() {
        Edges.sentence("nothing PACKED: there is none");
        FirstParts x = new FirstParts();
        for (int what = 7; what <= 12; what++) {
            Edges.due("count(" + what + ")", x.count(what), 0);
        }
        for (int p = -1; p <= 8; p++) {
            int packet = p;
            Edges.refused("lose " + p, Edges.nothing(), y -> y.lose(packet), UNKNOWN);
            Edges.refused("cut " + p, Edges.nothing(), y -> y.cut(packet, 0), UNKNOWN);
            Edges.refused("spoil " + p, Edges.nothing(), y -> y.spoil(packet, 0, 0), UNKNOWN);
            Edges.refused("again " + p, Edges.nothing(), y -> y.again(packet), UNKNOWN);
            Edges.refused("number " + p, Edges.nothing(), y -> y.number(packet, 0), UNKNOWN);
            Edges.refused("blamed " + p, Edges.nothing(), y -> y.blamed(packet), UNKNOWN);
            Edges.refused("packed " + p, Edges.nothing(), y -> y.packed(packet, 0), UNKNOWN);
            Edges.refused("read " + p, Edges.nothing(), y -> y.read(packet, 0), UNKNOWN);
            Edges.refused("mended " + p, Edges.nothing(), y -> y.mended(packet, 0), UNKNOWN);
        }
    }

    private static void letterIs0To255() {
        Edges.sentence("A letter (its number, 0 .. 255) more of THE TEXT: how many it has. OUTSIDE");
        Edges.due("write(0)", Edges.nothing(), x -> x.write(0), 1);
        Edges.due("write(255)", Edges.nothing(), x -> x.write(255), 1);
        Edges.due("a second", Edges.written("a"), x -> x.write(0), 2);
        Edges.Run before = Edges.written("room 3");
        for (int v : new int[] {-1, 256, LEAST, MOST, 48 + 256, 48 - 256}) {
            Edges.refused("write(" + v + ")", before, x -> x.write(v), OUTSIDE);
        }
        Edges.due("the next one", Edges.then(before, x -> x.write(256)), x -> x.write(48), 7);
    }

    private static void textIs200AtMost() {
        Edges.sentence("THE TEXT is a row of letters, 200 at most; FULL");
        String full = "room" + " ".repeat(195) + "9";
        Edges.due("the 199th", Edges.written(full.substring(0, 198)), x -> x.write(' '), 199);
        Edges.due("the 200th", Edges.written(full.substring(0, 199)), x -> x.write('9'), 200);
        Edges.Run before = Edges.written(full);
        for (int v : new int[] {'8', ' ', ';', 0, 255}) {
            Edges.refused("write(" + v + "), the 201st", before, x -> x.write(v), FULL);
        }
        Edges.refused("the 201st, too small", before, x -> x.write(-1), OUTSIDE);
        Edges.refused("the 201st, too large", before, x -> x.write(256), OUTSIDE);
        Edges.due("a full one is read to its last letter", before, FirstParts::fault, NONE);
        FirstParts x = Edges.after(Edges.then(before, y -> y.write('1')));
        Edges.due("tell()", x.tell(), 1);
        Edges.due("ROOM by the 200th letter", x.count(2), 9);
        Edges.due("write() behind tell()", x.write('a'), 1);
    }

    private static void textIsEmptyBehindErase() {
        Edges.sentence("THE TEXT is empty: how many letters it had");
        Edges.due("none", Edges.nothing(), FirstParts::erase, 0);
        Edges.due("one", Edges.written("a"), FirstParts::erase, 1);
        Edges.due("200", Edges.written(" ".repeat(200)), FirstParts::erase, 200);
        Edges.due("twice", Edges.then(Edges.written("all"), FirstParts::erase), FirstParts::erase, 0);
        FirstParts x = Edges.after(Edges.written("room 31;all"));
        x.erase();
        Edges.due("count(14)", x.count(14), 0);
        Edges.due("fault() of none", x.fault(), 0);
        Edges.writeAll(x, "room 3");
        Edges.due("the old letters are gone", x.tell(), 1);
        Edges.due("ROOM", x.count(2), 3);
        FirstParts full = Edges.after(Edges.written(" ".repeat(201)));
        full.erase();
        Edges.due("write() where it was full", full.write(' '), 1);
        Edges.nothingChanges("erase() of none", Edges.packed("part abc 2 1"), FirstParts::erase);
    }

    private static void place(String text, int want) {
        Edges.due("fault() of '" + text + "'", Edges.written(text), FirstParts::fault, want);
        int told = Edges.after(Edges.written(text)).tell();
        if (want == NONE ? told < 1 : told != NOT) {
            Edges.fails("tell() of '" + text + "' answered " + told);
        }
    }

    private static void placeBehind(Edges.Run before, String text, int want) {
        Edges.due("fault() of '" + text + "'", Edges.then(before, Edges.written(text)), FirstParts::fault, want);
    }

    private static void atLeastOneClause() {
        Edges.sentence("1 to 24 CLAUSES: not none");
        place("", 0);
        place(" ", 1);
        place(" ".repeat(200), 200);
        place("all", NONE);
    }

    private static void atMost24Clauses() {
        Edges.sentence("the ; behind a 24th CLAUSE");
        String ahead = "all;".repeat(22);
        place(ahead + "all", NONE);
        place(ahead + "all;all", NONE);
        place(ahead + "all;all;", 95);
        place(ahead + "all;all ;", 96);
        place(ahead + "all;all;all", 95);
        place(ahead + "all;all;;", 95);
        place(ahead + "all;room 40", NONE);
        place(ahead + "all;room 41", 97);
        place(ahead + "all;", 92);
        place(ahead + "all;all!", 95);
        place(ahead + "all;part ab 1 1;", 103);
    }

    private static void semicolonsStandBetween() {
        Edges.sentence("CLAUSES with ; between");
        place("all;all", NONE);
        place("all all", 4);
        place(";", 0);
        place(";all", 0);
        place("all;;all", 4);
        place("all;", 4);
        place("all,all", 3);
        place("all:all", 3);
    }

    private static void clauseIsOneOfFour() {
        Edges.sentence("each is one of: all. packets N. room R. part W K G. (As written here, without points)");
        for (String good : new String[] {"all", "packets 1", "room 1", "part a 1 1"}) {
            place(good, NONE);
            place(good + ".", good.length());
            place(good + " 1", good.length() + 1);
            place(good + " a", good.length() + 1);
        }
        for (String bad : new String[] {"al", "alla", "ball", "packet", "packetss", "rooms", "roo", "par", "parts",
            "ALL", "All", "Room", "bll", "alk", "qackets", "soom", "qart", "undo", "1", "!", "a"}) {
            place(bad, 0);
            place(bad + " 1", 0);
            place("all;" + bad, 4);
        }
        place("all;rooM 1", 4);
        place("packets a", 8);
        place("room a", 5);
        place("part 1 1 1", 5);
        place("part a a 1", 7);
        place("part a 1 a", 9);
        place("packets;", 7);
        place("room;", 4);
        place("part;", 4);
        place("part a;", 6);
        place("part a 1;", 8);
        place("part all 1 1;part part 1 1;part room 1 1;part packets 1 1", NONE);
    }

    private static void packetsAre1To8() {
        Edges.sentence("n 1 .. 8: packets N, a number out of its bounds");
        place("packets 0", 8);
        place("packets 1", NONE);
        place("packets 8", NONE);
        place("packets 9", 8);
        place("packets 10", 8);
        place("packets 99", 8);
        place("packets -1", 8);
        Edges.due("n at least", Edges.told("packets 1"), x -> x.count(1), 1);
        Edges.due("n at most", Edges.told("packets 8"), x -> x.count(1), 8);
    }

    private static void roomIs1To40() {
        Edges.sentence("ROOM 1 .. 40: room R, a number out of its bounds");
        place("room 0", 5);
        place("room 1", NONE);
        place("room 40", NONE);
        place("room 41", 5);
        place("room 99", 5);
        Edges.due("ROOM at least", Edges.told("room 1"), x -> x.count(2), 1);
        Edges.due("ROOM at most", Edges.told("room 40"), x -> x.count(2), 40);
    }

    private static void needIs1To8() {
        Edges.sentence("a NEED (1 .. 8): part W K G, a number out of its bounds");
        place("part ab 0 5", 8);
        place("part ab 1 5", NONE);
        place("part ab 8 5", NONE);
        place("part ab 9 5", 8);
        place("part ab 10 5", 8);
        Edges.due("NEED at least", Edges.told("part ab 1 5"), x -> x.part(0, 1), 1);
        Edges.due("NEED at most", Edges.told("part ab 8 5"), x -> x.part(0, 1), 8);
        Edges.due("NEED above n", Edges.told("packets 1;part ab 8 5"), x -> x.part(0, 1), 8);
    }

    private static void weightIs1To9() {
        Edges.sentence("a WEIGHT (1 .. 9): part W K G, a number out of its bounds");
        place("part ab 5 0", 10);
        place("part ab 5 1", NONE);
        place("part ab 5 9", NONE);
        place("part ab 5 10", 10);
        place("part ab 5 99", 10);
        Edges.due("WEIGHT at least", Edges.told("part ab 5 1"), x -> x.part(0, 2), 1);
        Edges.due("WEIGHT at most", Edges.told("part ab 5 9"), x -> x.part(0, 2), 9);
    }

    private static void numbersHave1Or2Digits() {
        Edges.sentence("numbers of 1 or 2 digits; of more digits");
        place("packets 08", NONE);
        place("packets 00", 8);
        place("packets 008", 8);
        place("packets 100", 8);
        place("room 01", NONE);
        place("room 001", 5);
        place("room 040", 5);
        place("room 4294967297", 5);
        place("room 0000000001", 5);
        place("room " + "0".repeat(194) + "1", 5);
        place("part a 08 09", NONE);
        place("part a 008 9", 7);
        place("part a 8 009", 9);
        Edges.due("packets 08", Edges.told("packets 08"), x -> x.count(1), 8);
        Edges.due("room 07", Edges.told("room 07"), x -> x.count(2), 7);
        Edges.due("room 39", Edges.told("room 39"), x -> x.count(2), 39);
        Edges.due("NEED 03", Edges.told("part a 03 04"), x -> x.part(0, 1), 3);
        Edges.due("WEIGHT 04", Edges.told("part a 03 04"), x -> x.part(0, 2), 4);
    }

    private static void wordHas1To12Letters() {
        Edges.sentence("a row of 1 to 12 small letters; a word of more letters");
        place("part 1 1", 5);
        place("part a 1 1", NONE);
        place("part abcdefghijkl 1 1", NONE);
        place("part abcdefghijklm 1 1", 5);
        place("part " + "a".repeat(195), 5);
        Edges.due("one letter", Edges.told("part a 1 1"), x -> x.part(0, 0), 1);
        Edges.due("12 letters", Edges.told("part abcdefghijkl 1 1"), x -> x.part(0, 0), 12);
        Edges.due("the 12th", Edges.told("part abcdefghijkz 1 1"), x -> x.letter(0, 11), 25);
    }

    private static void lettersAreSmallOnes() {
        Edges.sentence("a row of small letters: a .. z are 0 .. 25");
        FirstParts x = Edges.after(Edges.told("part az 1 1"));
        Edges.due("a", x.letter(0, 0), 0);
        Edges.due("z", x.letter(0, 1), 25);
        for (int sign : new int[] {'a' - 1, 'z' + 1, 'A', 'Z', '@', '[', 'a' + 128, 'z' + 128, 223, 255}) {
            place("part " + (char) sign + " 1 1", 5);
            place("part b" + (char) sign + " 1 1", 6);
        }
    }

    private static void digitsAre0To9() {
        Edges.sentence("a row of digits");
        for (int v = 1; v <= 9; v++) {
            int want = v;
            Edges.due("room " + v, Edges.told("room " + v), x -> x.count(2), want);
            Edges.due("room 2" + v, Edges.told("room 2" + v), x -> x.count(2), 20 + want);
        }
        for (int sign : new int[] {'0' - 1, '9' + 1, '0' + 128, '9' + 128, 178, 179, 185}) {
            place("room " + (char) sign, 5);
            place("room 1" + (char) sign, 6);
        }
    }

    private static void blanksAre32Alone() {
        Edges.sentence("blanks (32)");
        place("room 1", NONE);
        for (int sign : new int[] {0, 9, 10, 11, 12, 13, 31, 33, 95, 127, 133, 160, 255}) {
            place("room" + (char) sign + "1", 4);
            place((char) sign + "all", 0);
            place("all" + (char) sign, 3);
        }
    }

    private static void blanksMayStandAheadAndBehind() {
        Edges.sentence("blanks may stand ahead of each TOKEN and behind the last");
        place("  all", NONE);
        place("all  ", NONE);
        place("  all  ;  room  3  ;  part  ab  1  2  ", NONE);
        place("all" + " ".repeat(197), NONE);
        place(" ".repeat(197) + "all", NONE);
        FirstParts x = Edges.after(Edges.told("  packets  3  ;  room  4  ;  part  ab  5  6  "));
        Edges.due("n", x.count(1), 3);
        Edges.due("ROOM", x.count(2), 4);
        Edges.due("letters", x.part(0, 0), 2);
        Edges.due("NEED", x.part(0, 1), 5);
        Edges.due("WEIGHT", x.part(0, 2), 6);
        place("ro om 1", 0);
        place("room 1 2", 7);
        place("part a b 1 1", 7);
    }

    private static void blanksAreNeededBetweenLikeRows() {
        Edges.sentence("needed only where two rows of letters, of digits would else be one");
        place("packets1;room2;part a3 4;all", NONE);
        place("parta3 4", 0);
        place("part a34", 6);
        place("part a3", 7);
        place("part a12 1", 6);
        place("part a01 1", NONE);
        place("part a 1 1;part b1 1", NONE);
        place("allall", 0);
        FirstParts x = Edges.after(Edges.told("packets1;room2;part a3 4"));
        Edges.due("n", x.count(1), 1);
        Edges.due("ROOM", x.count(2), 2);
        Edges.due("NEED", x.part(0, 1), 3);
        Edges.due("WEIGHT", x.part(0, 2), 4);
    }

    private static void partsAre6AtMost() {
        Edges.sentence("PARTS, 0 on, 6 at most");
        place(SIX, NONE);
        place(SIX + ";part g1 1", SIX.length() + 1);
        FirstParts x = Edges.after(Edges.told(SIX));
        Edges.due("PARTS", x.count(0), 6);
        Edges.due("the sixth", x.letter(5, 0), 5);
        Edges.due("a seventh", x.letter(6, 0), UNKNOWN);
    }

    private static void partsByThen() {
        Edges.sentence("the token part where there are 6 PARTS by then");
        placeBehind(Edges.told(FIVE), "part f6 6", NONE);
        placeBehind(Edges.told(FIVE), "part f6 6;part g7 7", 10);
        placeBehind(Edges.told(SIX), "part g7 7", 0);
        placeBehind(Edges.told(SIX), "  part", 2);
        placeBehind(Edges.told(SIX), "part 9", 0);
        placeBehind(Edges.told(SIX), "parts", 0);
        placeBehind(Edges.told(SIX), "room 4;packets 3", NONE);
        placeBehind(Edges.told(SIX), "room 4;part g7 7", 7);
        placeBehind(Edges.told(SIX), "all;" + SIX, NONE);
        placeBehind(Edges.told(SIX), "all;" + SIX + ";part g7 7", 5 + SIX.length());
        placeBehind(Edges.told(SIX), "part g7 7;all", 0);
        placeBehind(Edges.then(Edges.told(SIX), x -> x.drop(0)), "part g7 7", NONE);
        placeBehind(Edges.then(Edges.told(SIX), x -> x.drop(0)), "part g7 7;part h8 8", 10);
        Edges.Run undone = Edges.then(Edges.told(SIX), x -> {
            x.drop(5);
            x.undo();
        });
        placeBehind(undone, "part g7 7", 0);
        Edges.refused("tell() of a seventh", Edges.then(Edges.told(SIX), Edges.written("part g7 7")),
                FirstParts::tell, NOT);
        Edges.due("tell() of a sixth", Edges.then(Edges.told(FIVE), Edges.written("part f6 6")),
                FirstParts::tell, 1);
    }

    private static void faultIsWhereTheTokenBegins() {
        Edges.sentence("The place of the FAULT (the letter with which the TOKEN begins, or the length)");
        place("   rooms", 3);
        place("room   123", 7);
        place("part   abcdefghijklm", 7);
        place("all   all", 6);
        place("all   ##", 6);
        place("#" + "all", 0);
        place("room 3" + (char) 0, 6);
        place("room 3" + (char) 255, 6);
    }

    private static void faultIsTheFirst() {
        Edges.sentence("A FAULT is at the first TOKEN that cannot stand there");
        place("room 0;room 0", 5);
        place("room 1;room 0", 12);
        place("part abcdefghijklm 0 0", 5);
        place("part a 0 0", 7);
        place("part a 1 0", 9);
        place("room 41 !", 5);
        place("all!;", 3);
    }

    private static void faultAtTheEnd() {
        Edges.sentence("or at the end, if it comes too soon");
        String text = "part ab 1 2;room 3;packets 4;all";
        int[] want = {
            0, 0, 0, 0, 4, 5, 6, 7, 8, 9, 10, NONE, 12,
            12, 12, 12, 16, 17, NONE, 19,
            19, 19, 19, 19, 19, 19, 26, 27, NONE, 29,
            29, 29, NONE};
        for (int length = 0; length <= text.length(); length++) {
            place(text.substring(0, length), want[length]);
        }
        place("part  ", 6);
        place("room    ", 8);
        place("all;   ", 7);
        place("part a   ", 9);
        place("part a 1   ", 11);
        place("all;".repeat(23), 92);
    }

    private static void faultChangesNothing() {
        Edges.sentence("The place of the FAULT; NONE: it is asked, not done");
        for (String text : new String[] {"", "room 3;all", "room 3;all;", "part a 1 1;packets 9"}) {
            Edges.Run before = Edges.then(Edges.packed("packets 3;part abc 2 1"), Edges.written(text));
            Edges.nothingChanges("fault() of '" + text + "'", before, FirstParts::fault);
        }
    }

    private static void tellCountsClauses() {
        Edges.sentence("THE TEXT's CLAUSES are done, and it is empty then: how many there were");
        Edges.due("one", Edges.written("all"), FirstParts::tell, 1);
        Edges.due("two", Edges.written("all;all"), FirstParts::tell, 2);
        Edges.due("24", Edges.written("all;".repeat(23) + "all"), FirstParts::tell, 24);
        FirstParts x = Edges.after(Edges.told("room 3"));
        Edges.due("letters", x.count(14), 0);
        Edges.due("erase()", x.erase(), 0);
        Edges.due("fault()", x.fault(), 0);
        Edges.due("tell() again", x.tell(), NOT);
        Edges.writeAll(x, "all;".repeat(23) + "room 7");
        Edges.due("the 24th is done, too", x.tell() == 24 ? x.count(2) : 0, 7);
        Edges.writeAll(x, "room 8");
        Edges.due("behind a longer one, one", x.tell(), 1);
    }

    private static void tellRefusesAFault() {
        Edges.sentence("tell() NOT: it has a FAULT");
        for (String text : new String[] {"", "   ", "room 3;", "room 3;room 41", "part a 1 1;part b", "all;all!",
            "packets 2;" + SIX + ";part g1 1", "all;".repeat(24)}) {
            Edges.Run before = Edges.then(Edges.packed("packets 3;part abc 2 1"), Edges.written(text));
            Edges.refused("tell() of '" + text + "'", before, FirstParts::tell, NOT);
        }
    }

    private static void clausesGoInTheirOrder() {
        Edges.sentence("CLAUSES are done in their order");
        Edges.due("the later ROOM", Edges.told("room 3;room 5"), x -> x.count(2), 5);
        Edges.due("the later n", Edges.told("packets 3;packets 5"), x -> x.count(1), 5);
        Edges.due("all last", Edges.told("room 3;all"), x -> x.count(2), 20);
        Edges.due("all first", Edges.told("all;room 3"), x -> x.count(2), 3);
        Edges.due("a PART ahead of all", Edges.told("part a1 1;all"), x -> x.count(0), 0);
        Edges.due("a PART behind all", Edges.told("all;part a1 1"), x -> x.count(0), 1);
        Edges.due("PARTS by their place", Edges.told("part a1 1;part b1 1"), x -> x.letter(1, 0), 1);
    }

    private static void allIsAsAtFirst() {
        Edges.sentence("all: n, ROOM, PARTS are as at first");
        FirstParts x = Edges.after(Edges.told("packets 8;room 40;" + FIVE));
        Edges.tellAll(x, "all");
        Edges.due("n", x.count(1), 4);
        Edges.due("ROOM", x.count(2), 20);
        Edges.due("PARTS", x.count(0), 0);
        Edges.due("part(0, 0)", x.part(0, 0), UNKNOWN);
        Edges.due("LENGTH", x.count(3), 0);
        Edges.tellAll(x, "part z1 1");
        Edges.due("the next PART is the first", x.letter(0, 0), 25);
    }

    private static void whatThereWasStays() {
        Edges.sentence("part: a PART more, behind all; what there was stays");
        FirstParts x = Edges.after(Edges.told("packets 3;room 9;part ab 2 3"));
        Edges.tellAll(x, "part cd 4 5");
        Edges.due("n", x.count(1), 3);
        Edges.due("ROOM", x.count(2), 9);
        Edges.due("PARTS", x.count(0), 2);
        Edges.due("the first", x.letter(0, 0), 0);
        Edges.due("its NEED", x.part(0, 1), 2);
        Edges.due("the second", x.letter(1, 0), 2);
        Edges.tellAll(x, "packets 5");
        Edges.due("ROOM behind packets", x.count(2), 9);
        Edges.due("PARTS behind packets", x.count(0), 2);
        Edges.tellAll(x, "room 7");
        Edges.due("n behind room", x.count(1), 5);
        Edges.due("PARTS behind room", x.count(0), 2);
    }

    private static void nothingCanBeUndoneBehindTell() {
        Edges.sentence("Behind them nothing can be undone");
        FirstParts x = new FirstParts();
        for (int r = 1; r <= 9; r++) {
            x.room(r);
        }
        Edges.writeAll(x, "packets 4");
        Edges.due("ahead of it", x.count(13), 8);
        x.tell();
        Edges.due("behind it", x.count(13), 0);
        Edges.due("undo()", x.undo(), NOT);
        Edges.due("ROOM", x.count(2), 9);
        x.room(30);
        Edges.due("a later one can be", x.undo(), 0);
        Edges.due("ROOM then", x.count(2), 9);
        Edges.due("no more", x.undo(), NOT);
        Edges.refused("undo()", Edges.then(Edges.packed("part abc 2 1"), Edges.told("room 3")), FirstParts::undo, NOT);
    }

    private static void packedStaysBehindTell() {
        Edges.sentence("Behind them what is PACKED stays");
        FirstParts x = Edges.after(Edges.packed("packets 3;part abc 1 1;part d 2 2"));
        x.lose(0);
        x.cut(1, 2);
        x.spoil(2, 0, 28);
        Edges.tellAll(x, "all");
        Edges.due("PACKED PARTS", x.count(7), 2);
        Edges.due("PACKETS", x.count(8), 3);
        Edges.due("numbers", x.count(9), 4);
        Edges.due("LOST", x.number(0, 0), NONE);
        Edges.due("cut", x.number(1, 2), NONE);
        Edges.due("not cut", x.number(1, 1), 1);
        Edges.due("spoiled", x.number(2, 0), 28);
        Edges.due("its word", x.packed(0, 2), 3);
    }
}
