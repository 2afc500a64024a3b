import java.util.ArrayList;
import java.util.IdentityHashMap;
import java.util.List;
import java.util.Map;

/** What the tests of the edges share: answers that are due, and whether a call changed anything. */
final class Edges {
    static final int NONE = -1, UNKNOWN = -2, OUTSIDE = -3, NOT = -4, FULL = -5;
    static final int LEAST = Integer.MIN_VALUE, MOST = Integer.MAX_VALUE;

    /** Calls on a new object, up to the one that is looked at. */
    interface Run {
        void on(FirstParts x);
    }

    /** The one call that is looked at. */
    interface Call {
        int on(FirstParts x);
    }

    private static final Map<Run, List<String>> SEEN_BEFORE = new IdentityHashMap<>();
    private static String sentence = "";
    private static int sentences = 0;
    private static int wrong = 0;

    private Edges() {
    }

    /** The document's words that the checks behind this call are for. */
    static void sentence(String words) {
        sentence = words;
        sentences++;
    }

    static void due(String what, int got, int want) {
        if (got != want) {
            fails(what + " answered " + got + ", due is " + want);
        }
    }

    static void fails(String what) {
        wrong++;
        System.out.println("'" + sentence + "': " + what);
    }

    /** A call on a new object behind a run. */
    static void due(String what, Run before, Call call, int want) {
        due(what, call.on(after(before)), want);
    }

    static void finish() {
        System.out.println(wrong == 0 ? sentences + " sentences hold" : wrong + " answers are not as due");
        if (wrong != 0) {
            System.exit(1);
        }
    }

    static FirstParts after(Run run) {
        FirstParts x = new FirstParts();
        run.on(x);
        return x;
    }

    static Run nothing() {
        return x -> { };
    }

    static void writeAll(FirstParts x, String text) {
        for (int i = 0; i < text.length(); i++) {
            x.write(text.charAt(i));
        }
    }

    static Run written(String text) {
        return x -> writeAll(x, text);
    }

    static void tellAll(FirstParts x, String text) {
        writeAll(x, text);
        if (x.tell() < 1) {
            fails("this could not be told: " + text);
        }
    }

    static Run told(String text) {
        return x -> tellAll(x, text);
    }

    static void packNow(FirstParts x) {
        if (x.pack() < 1) {
            fails("this could not be packed");
        }
    }

    static Run packed(String text) {
        return x -> {
            tellAll(x, text);
            packNow(x);
        };
    }

    static Run then(Run first, Run next) {
        return x -> {
            first.on(x);
            next.on(x);
        };
    }

    /** "Refused, and nothing changes". */
    static void refused(String what, Run before, Call call, int want) {
        due(what, before, call, want);
        nothingChanges(what, before, x -> call.on(x));
    }

    /** Behind undo() all is as it was; fewer than 8 calls can be undone ahead of the call. */
    static void undone(String what, Run before, Call call) {
        int could = after(before).count(13);
        Run there = x -> {
            before.on(x);
            if (call.on(x) < 0) {
                fails(what + " is refused");
            }
        };
        due("count(13) behind " + what, there, x -> x.count(13), could + 1);
        due("undo() behind " + what, there, x -> x.undo(), could);
        nothingChanges(what + " and undo()", before, x -> {
            call.on(x);
            x.undo();
        });
    }

    static void nothingChanges(String what, Run before, Run calls) {
        List<String> want = SEEN_BEFORE.computeIfAbsent(before, Edges::seen);
        List<String> got = seen(then(before, calls));
        for (int i = 0; i < Math.min(want.size(), got.size()); i++) {
            if (!want.get(i).equals(got.get(i))) {
                fails(what + " changed " + want.get(i) + " to " + got.get(i));
                return;
            }
        }
        if (want.size() != got.size()) {
            fails(what + " changed how many calls can be undone");
        }
    }

    /** All that the calls tell: as it is, behind each undo() that is left, and behind tell(). */
    private static List<String> seen(Run run) {
        List<String> all = new ArrayList<>();
        int steps = Math.min(after(run).count(13), 20);
        for (int back = 0; back <= steps; back++) {
            int undos = back;
            look(all, "behind " + back + " undo() ", then(run, x -> {
                for (int i = 0; i < undos; i++) {
                    x.undo();
                }
            }));
        }
        look(all, "behind tell() ", then(run, FirstParts::tell));
        return all;
    }

    /** A new object for each kind of question, as one object is good for 512 calls. */
    private static void look(List<String> all, String where, Run run) {
        lookAtLine(all, where, after(run));
        lookAtNumbers(all, where, after(run), 0);
        lookAtNumbers(all, where, after(run), 4);
        lookAtPackedParts(all, where, after(run));
        lookAtWhatWasSent(all, where, after(run));
    }

    private static void note(List<String> all, String where, String call, int answer) {
        all.add(where + call + " = " + answer);
    }

    private static void lookAtLine(List<String> all, String where, FirstParts x) {
        note(all, where, "fault()", x.fault());
        for (int what = 0; what < 15; what++) {
            note(all, where, "count " + what, x.count(what));
        }
        for (int part = 0; part < 6; part++) {
            for (int what = 0; what < 4; what++) {
                note(all, where, "part " + part + " " + what, x.part(part, what));
            }
            for (int i = 0; i < 12; i++) {
                note(all, where, "letter " + part + " " + i, x.letter(part, i));
            }
            note(all, where, "plan " + part, x.plan(part));
        }
        for (int r = 0; r <= 40; r++) {
            note(all, where, "lesser " + r, x.lesser(r));
        }
    }

    private static void lookAtNumbers(List<String> all, String where, FirstParts x, int from) {
        for (int packet = from; packet < from + 4; packet++) {
            for (int i = 0; i < 40; i++) {
                note(all, where, "number " + packet + " " + i, x.number(packet, i));
            }
        }
    }

    private static void lookAtPackedParts(List<String> all, String where, FirstParts x) {
        for (int part = 0; part < 6; part++) {
            for (int what = 0; what < 6; what++) {
                note(all, where, "packed " + part + " " + what, x.packed(part, what));
            }
            for (int i = 0; i < 12; i++) {
                note(all, where, "read " + part + " " + i, x.read(part, i));
                note(all, where, "mended " + part + " " + i, x.mended(part, i));
            }
        }
        for (int m = 0; m <= 8; m++) {
            note(all, where, "opened " + m, x.opened(m));
        }
    }

    private static void lookAtWhatWasSent(List<String> all, String where, FirstParts x) {
        for (int packet = 0; packet < 8; packet++) {
            note(all, where, "blamed " + packet, x.blamed(packet));
        }
        for (int packet = 0; packet < 8; packet++) {
            note(all, where, "again " + packet, x.again(packet));
        }
        note(all, where, "pack()", x.pack());
        note(all, where, "erase()", x.erase());
    }
}
