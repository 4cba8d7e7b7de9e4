import java.util.ArrayList;
import java.util.List;
import java.util.function.Consumer;

/** A run of calls on a new object, each call told as text, with the answers that are due. */
final class Run {
    private final int blocks;
    private final int journal;
    private final Consumer<String> report;
    private final List<Call> calls = new ArrayList<>();
    private final PackedTree object;
    private String known = null;

    Run(int blocks, int journal, Consumer<String> report) {
        this.blocks = blocks;
        this.journal = journal;
        this.report = report;
        this.object = new PackedTree(blocks, journal);
    }

    /** Calls whose answers the test does not turn upon; none of them may be refused. */
    Run does(String... texts) {
        for (String text : texts) {
            String got = next(Call.of(text));
            if (!got.matches("-?\\d+")) {
                wrong(text + " on the way threw " + got);
            }
        }
        return this;
    }

    Run due(String text, long answer) {
        return answers(text, Long.toString(answer));
    }

    /** The call throws, and everything is as it was. */
    Run refused(String text, String exception) {
        if (calls.size() >= Replay.MOST_BEFORE) {
            wrong("this run is too long for a refused call");
        }
        String before = known == null ? everything() : known;
        answers(text, exception);
        known = everything();
        if (!before.equals(known)) {
            wrong(text + " threw " + exception + ", but changed something:\n    was " + before + "\n    is  " + known);
        }
        return this;
    }

    /** All nodes, items and objects are as they are behind other calls, and are so in later calls. */
    Run sameThings(Run other) {
        seen("whole", other.replay().things(), replay().things());
        return seen("whole behind more calls", other.replay().stirred(), replay().stirred());
    }

    /** Of each node of a height "block:children", of each leaf "block:items:USED". */
    Run row(int height, String due) {
        return seen("row " + height, due, replay().row(height));
    }

    /** The blocks of the parents of all nodes of a height. */
    Run parents(int height, String due) {
        return seen("row of parents of row " + height, due, replay().parents(height));
    }

    private Run seen(String what, String due, String got) {
        if (!due.equals(got)) {
            wrong("the " + what + " is " + got + ", due is " + due);
        }
        return this;
    }

    private Run answers(String text, String answer) {
        String got = next(Call.of(text));
        if (!got.equals(answer)) {
            wrong(text + " answered " + got + ", due is " + answer);
        }
        return this;
    }

    private String next(Call call) {
        calls.add(call);
        if (calls.size() > Replay.MOST_CALLS) {
            wrong("this run has more than " + Replay.MOST_CALLS + " calls");
        }
        known = null;
        return call.answer(object);
    }

    private void wrong(String text) {
        report.accept(text + "\n    in new PackedTree(" + blocks + ", " + journal + ") " + calls);
    }

    private Replay replay() {
        return new Replay(blocks, journal, calls);
    }

    /** All that can be asked, and what shows only later: what is committed, in the journal, told of a FAIL. */
    private String everything() {
        StringBuilder s = new StringBuilder(replay().whole());
        Replay back = replay();
        s.append("\n    back ").append(back.does("back")).append(back.whole());
        Replay home = replay();
        s.append("\n    checkpoint ").append(home.does("checkpoint")).append(home.does("off"));
        s.append("\n    writes ").append(replay().writesToCome());
        s.append("\n    more calls ").append(replay().stirred());
        Replay on = replay();
        s.append("\n    recover ").append(on.does("recover")).append(on.whole()).append(on.writesToCome());
        return s.toString();
    }
}
