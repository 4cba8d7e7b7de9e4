import java.util.ArrayList;
import java.util.List;
import java.util.function.Consumer;

/**
 * A run of calls on a new object, each call told as text. No object is used for more than the 512 calls that the
 * document promises: what is asked beside the run is asked of other objects that had the same calls.
 */
final class Run {
    static final int MOST_CALLS = 512;
    private final int blocks;
    private final int journal;
    private final Consumer<String> report;
    private final List<Call> calls = new ArrayList<>();
    private final PackedTree object;
    private String known = null;

    Run(int blocks, int journal, Consumer<String> report) {
        this.blocks = blocks;
        this.journal = journal;
        this.report = report;
        this.object = new PackedTree(blocks, journal);
    }

    record Call(String name, long... args) {
        /** Numbers, true, false, NONE, and least and greatest for the ends of int. */
        static Call of(String text) {
            String[] words = text.split("[(), ]+");
            long[] args = new long[words.length - 1];
            for (int i = 0; i < args.length; i++) {
                args[i] = number(words[i + 1]);
            }
            return new Call(words[0], args);
        }

        private static long number(String word) {
            return switch (word) {
                case "true" -> 1;
                case "false" -> 0;
                case "NONE" -> PackedTree.NONE;
                case "least" -> Integer.MIN_VALUE;
                case "greatest" -> Integer.MAX_VALUE;
                default -> Long.parseLong(word);
            };
        }

        private int at(int i) {
            return (int) args[i];
        }

        private long on(PackedTree t) {
            switch (name) {
                case "make": return t.make(at(0), at(1), args[2] != 0);
                case "link": return t.link(at(0), at(1), at(2));
                case "unlink": return t.unlink(at(0), at(1));
                case "move": return t.move(at(0), at(1), at(2), at(3));
                case "write": return t.write(at(0), at(1), args[2], at(3));
                case "fill": return t.fill(at(0), at(1), at(2), at(3));
                case "cut": return t.cut(at(0), at(1));
                case "read": return t.read(at(0), at(1));
                case "look": return t.look(at(0), at(1));
                case "name": return t.name(at(0), at(1));
                case "about": return t.about(at(0), at(1));
                case "node": return t.node(at(0), at(1), at(2));
                case "item": return t.item(at(0), at(1));
                case "commit": return t.commit();
                case "checkpoint": return t.checkpoint();
                case "back": return t.back();
                case "recover": return t.recover();
                case "count": return t.count(at(0));
                case "off": return t.off() ? 1 : 0;
                case "fail":
                    t.fail(at(0));
                    return 0;
                default: throw new AssertionError("there is no call " + name);
            }
        }

        /** A number, or the name of the exception that was thrown. */
        String answer(PackedTree t) {
            try {
                return Long.toString(on(t));
            } catch (RuntimeException e) {
                return e.getClass().getSimpleName();
            }
        }

        @Override
        public String toString() {
            StringBuilder s = new StringBuilder(name).append('(');
            for (int i = 0; i < args.length; i++) {
                s.append(i > 0 ? ", " : "").append(args[i]);
            }
            return s.append(')').toString();
        }
    }

    /** Calls whose answers the test does not turn upon; none of them may be refused. */
    Run does(String... texts) {
        for (String text : texts) {
            String got = next(Call.of(text));
            if (!got.matches("-?\\d+")) {
                wrong(text + " on the way threw " + got);
            }
        }
        return this;
    }

    Run due(String text, long answer) {
        return answers(text, Long.toString(answer));
    }

    /** The call throws, and everything is as it was. */
    Run refused(String text, String exception) {
        String before = known == null ? everything() : known;
        answers(text, exception);
        known = everything();
        if (!before.equals(known)) {
            wrong(text + " threw " + exception + ", but changed something:\n    was " + before + "\n    is  " + known);
        }
        return this;
    }

    /** All nodes, items and objects are as they are behind other calls. */
    Run sameThings(Run other) {
        return seen("whole", other.new Asker().things(), new Asker().things());
    }

    /** Of each node of a height its block, how many items or children it has and, of a leaf, USED. */
    Run row(int height, String due) {
        return seen("row " + height, due, new Asker().row(height));
    }

    /** The blocks of the parents of all nodes of a height. */
    Run parents(int height, String due) {
        return seen("parents of row " + height, due, new Asker().parents(height));
    }

    private Run seen(String what, String due, String got) {
        if (!due.equals(got)) {
            wrong("the " + what + " is " + got + ", due is " + due);
        }
        return this;
    }

    private Run answers(String text, String answer) {
        String got = next(Call.of(text));
        if (!got.equals(answer)) {
            wrong(text + " answered " + got + ", due is " + answer);
        }
        return this;
    }

    private String next(Call call) {
        calls.add(call);
        if (calls.size() > MOST_CALLS) {
            wrong("this run has more than " + MOST_CALLS + " calls");
        }
        known = null;
        return call.answer(object);
    }

    private void wrong(String text) {
        report.accept(text + "\n    in new PackedTree(" + blocks + ", " + journal + ") " + calls);
    }

    /** All that can be asked, and what shows only later: what is committed, in the journal, told of a FAIL. */
    private String everything() {
        StringBuilder s = new StringBuilder(new Asker().whole());
        Asker back = new Asker();
        s.append("\n    back ").append(back.does("back")).append(back.whole());
        Asker home = new Asker();
        s.append("\n    checkpoint ").append(home.does("checkpoint")).append(home.does("off"));
        s.append("\n    writes ").append(new Asker().writesToCome());
        Asker on = new Asker();
        s.append("\n    recover ").append(on.does("recover")).append(on.whole()).append(on.writesToCome());
        return s.toString();
    }

    private final class Asker {
        private final List<Call> had = new ArrayList<>(calls);
        private PackedTree asked;
        private int used = MOST_CALLS;

        private String ask(String name, long... args) {
            if (used >= MOST_CALLS) {
                asked = new PackedTree(blocks, journal);
                for (Call call : had) {
                    call.answer(asked);
                }
                used = had.size();
            }
            used++;
            return new Call(name, args).answer(asked);
        }

        private String does(String name, long... args) {
            String answer = ask(name, args);
            had.add(new Call(name, args));
            return answer + " ";
        }

        private int number(String name, long... args) {
            String answer = ask(name, args);
            return answer.matches("-?\\d+") ? Integer.parseInt(answer) : 0;
        }

        private boolean isThere(String name, long... args) {
            return Character.isDigit(ask(name, args).charAt(0));
        }

        String whole() {
            StringBuilder s = new StringBuilder(ask("off")).append(' ');
            for (int what = 0; what <= 9; what++) {
                s.append(ask("count", what)).append(' ');
            }
            return s.append(things()).toString();
        }

        String things() {
            StringBuilder s = new StringBuilder();
            for (int h = number("count", 2) - 1; h >= 0; h--) {
                s.append("| ");
                for (int k = 0; isThere("node", h, k, 0); k++) {
                    s.append(answersOf("node", 4, h, k));
                }
            }
            s.append("| ");
            int items = number("count", 4);
            for (int k = 0; k < items; k++) {
                s.append(answersOf("item", 5, k));
            }
            for (int object = 1; object <= 60; object++) {
                if (isThere("about", object, 0)) {
                    s.append("| ").append(object).append(": ").append(objectOf(object));
                }
            }
            return s.toString();
        }

        private String answersOf(String name, int whats, long... args) {
            StringBuilder s = new StringBuilder();
            long[] all = java.util.Arrays.copyOf(args, args.length + 1);
            for (int what = 0; what < whats; what++) {
                all[args.length] = what;
                s.append(ask(name, all)).append(what + 1 < whats ? ',' : ' ');
            }
            return s.toString();
        }

        private String objectOf(int object) {
            StringBuilder s = new StringBuilder(answersOf("about", 5 + number("about", object, 3), object));
            int size = number("about", object, 2);
            boolean file = number("about", object, 0) == 1;
            for (int k = 0; k < size; k++) {
                if (file) {
                    s.append(ask("read", object, k)).append(' ');
                } else {
                    int name = number("name", object, k);
                    s.append(name).append('>').append(ask("look", object, name)).append(' ');
                }
            }
            return s.toString();
        }

        String row(int height) {
            StringBuilder s = new StringBuilder();
            for (int k = 0; isThere("node", height, k, 0); k++) {
                s.append(k > 0 ? " " : "").append(ask("node", height, k, 0)).append(':').append(ask("node", height, k, 1));
                s.append(height == 0 ? ":" + ask("node", height, k, 2) : "");
            }
            return s.toString();
        }

        String parents(int height) {
            StringBuilder s = new StringBuilder();
            for (int k = 0; isThere("node", height, k, 0); k++) {
                s.append(k > 0 ? " " : "").append(ask("node", height, k, 3));
            }
            return s.toString();
        }

        /** New files committed until the power goes OFF, if it does: their numbers and blocks are told, too. */
        String writesToCome() {
            StringBuilder s = new StringBuilder();
            for (int k = 0; k < 12 && had.size() + 5 < MOST_CALLS && ask("off").equals("0"); k++) {
                s.append(does("make", 1, 980 + k, 0)).append(does("commit")).append(ask("count", 7)).append(' ');
            }
            return s.append(ask("off")).toString();
        }
    }
}
