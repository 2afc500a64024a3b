import java.util.ArrayList;
import java.util.List;

/** "Refused, and nothing changes": every call with numbers at and beyond the edges, in states of many kinds. */
public final class RefusalTest {
    private static final int UNKNOWN = -2, FULL = -5;
    private static final int IN_ONE_RUN = 100;
    private static final int[] FIRST = {Integer.MIN_VALUE, -1, 0, 1, 2, 3, 4, 5, 6, 7, 8, Integer.MAX_VALUE};
    private static final int[] SECOND = {
        Integer.MIN_VALUE, -1, 0, 1, 2, 3, 4, 5, 6, 7, 8, 9, 10, 11, 12, 13, 14, 15, 28, 29, 39, 40, 41,
        255, 256, Integer.MAX_VALUE};
    private static final int[] THIRD = {Integer.MIN_VALUE, -1, 0, 28, 29, Integer.MAX_VALUE};

    /** A call, what it is called, and whether it only asks. */
    private record Named(String name, boolean asks, Edges.Call call) {
    }

    public static void main(String[] args) {
        List<Named> calls = allCalls();
        state("a new object", Edges.nothing(), calls);
        state("PARTS, nothing PACKED", Edges.told("packets 3;part abc 2 1;part d 1 9"), calls);
        state("a full text", Edges.written("room" + " ".repeat(195) + "9"), calls);
        state("a text with a FAULT", Edges.then(Edges.packed("part abc 2 1"), Edges.written("room 3;room 41")), calls);
        state("all whole", Edges.packed("packets 5;part abcdef 3 1;part gh 2 2;part ijk 2 3;part lm 1 4"), calls);
        state("LOST, cut, spoiled", hurt(), calls);
        state("all LOST", allLost(), calls);
        state("PARTS dropped, n other", Edges.then(hurt(), x -> {
            x.drop(0);
            x.drop(2);
            x.packets(8);
        }), calls);
        state("8 calls to undo", eightToUndo(), calls);
        state("undone", Edges.then(eightToUndo(), x -> {
            x.undo();
            x.undo();
            x.undo();
        }), calls);
        state("no PLAN", Edges.told("packets 1;room 1;part abc 8 1;part d 1 9"), calls);
        state("the most of all", Edges.packed("packets 8;room 40;part abcdefghijkl 1 9;part abcdefghijkl 1 9"
                + ";part abcdefghijkl 1 9;part ab 1 9;part z 1 9;part z 8 9"), calls);
        Edges.finish();
    }

    private static Edges.Run hurt() {
        return Edges.then(Edges.packed("packets 5;part abcdef 3 1;part gh 2 2;part ijk 2 3;part lm 1 4"), x -> {
            x.cut(1, 4);
            x.lose(1);
            x.cut(2, 4);
            x.spoil(3, 3, 28);
            x.cut(4, 0);
        });
    }

    private static Edges.Run allLost() {
        return Edges.then(Edges.packed("packets 3;part abcd 2 1;part ef 1 2"), x -> {
            x.lose(0);
            x.cut(1, 2);
            x.lose(1);
            x.spoil(2, 0, 28);
            x.lose(2);
        });
    }

    private static Edges.Run eightToUndo() {
        return Edges.then(Edges.packed("packets 4;part abcd 2 1;part ef 1 2"), x -> {
            x.room(9);
            x.lose(0);
            x.need(0, 3);
            x.pack();
            x.spoil(1, 1, 28);
            x.weigh(1, 9);
            x.cut(2, 1);
            x.again(0);
            x.packets(5);
            x.drop(0);
        });
    }

    private static List<Named> allCalls() {
        List<Named> calls = new ArrayList<>();
        calls.add(new Named("fault()", true, FirstParts::fault));
        calls.add(new Named("tell()", false, FirstParts::tell));
        calls.add(new Named("pack()", false, FirstParts::pack));
        calls.add(new Named("undo()", false, FirstParts::undo));
        for (int a : SECOND) {
            addOfOne(calls, a);
        }
        for (int a : FIRST) {
            for (int b : SECOND) {
                addOfTwo(calls, a, b);
                for (int c : THIRD) {
                    calls.add(new Named("spoil(" + a + ", " + b + ", " + c + ")", false, x -> x.spoil(a, b, c)));
                }
            }
        }
        return calls;
    }

    private static void addOfOne(List<Named> calls, int a) {
        String with = "(" + a + ")";
        calls.add(new Named("write" + with, false, x -> x.write(a)));
        calls.add(new Named("packets" + with, false, x -> x.packets(a)));
        calls.add(new Named("room" + with, false, x -> x.room(a)));
        calls.add(new Named("drop" + with, false, x -> x.drop(a)));
        calls.add(new Named("lose" + with, false, x -> x.lose(a)));
        calls.add(new Named("again" + with, false, x -> x.again(a)));
        calls.add(new Named("blamed" + with, true, x -> x.blamed(a)));
        calls.add(new Named("opened" + with, true, x -> x.opened(a)));
        calls.add(new Named("plan" + with, true, x -> x.plan(a)));
        calls.add(new Named("lesser" + with, true, x -> x.lesser(a)));
        calls.add(new Named("count" + with, true, x -> x.count(a)));
    }

    private static void addOfTwo(List<Named> calls, int a, int b) {
        String with = "(" + a + ", " + b + ")";
        calls.add(new Named("part" + with, true, x -> x.part(a, b)));
        calls.add(new Named("letter" + with, true, x -> x.letter(a, b)));
        calls.add(new Named("need" + with, false, x -> x.need(a, b)));
        calls.add(new Named("weigh" + with, false, x -> x.weigh(a, b)));
        calls.add(new Named("cut" + with, false, x -> x.cut(a, b)));
        calls.add(new Named("number" + with, true, x -> x.number(a, b)));
        calls.add(new Named("packed" + with, true, x -> x.packed(a, b)));
        calls.add(new Named("read" + with, true, x -> x.read(a, b)));
        calls.add(new Named("mended" + with, true, x -> x.mended(a, b)));
    }

    /** Those that are refused here, and those that only ask, one behind the other: all stays as it was. */
    private static void state(String name, Edges.Run before, List<Named> calls) {
        Edges.sentence("Refused, and nothing changes: " + name);
        List<Named> block = new ArrayList<>();
        List<Integer> alone = new ArrayList<>();
        for (Named named : calls) {
            int answer = named.call.on(Edges.after(before));
            if (answer < FULL) {
                Edges.fails(named.name + " answered " + answer);
            }
            if (named.asks || answer <= UNKNOWN) {
                block.add(named);
                alone.add(answer);
            }
            if (block.size() == IN_ONE_RUN) {
                nothingChanges(before, block, alone);
                block = new ArrayList<>();
                alone = new ArrayList<>();
            }
        }
        nothingChanges(before, block, alone);
    }

    private static void nothingChanges(Edges.Run before, List<Named> block, List<Integer> alone) {
        if (block.isEmpty()) {
            return;
        }
        FirstParts x = Edges.after(before);
        for (int i = 0; i < block.size(); i++) {
            Edges.due(block.get(i).name + " behind others", block.get(i).call.on(x), alone.get(i));
        }
        String what = "one of " + block.get(0).name + " to " + block.get(block.size() - 1).name;
        Edges.nothingChanges(what, before, y -> {
            for (Named named : block) {
                named.call.on(y);
            }
        });
    }
}
