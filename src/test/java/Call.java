/** A call of the face with its arguments; a boolean counts 1 or 0. */
record Call(String name, long... args) {
    /** Numbers, true, false, NONE, and least and greatest for the ends of int. */
    static Call of(String text) {
        String[] words = text.split("[(), ]+");
        long[] args = new long[words.length - 1];
        for (int i = 0; i < args.length; i++) {
            args[i] = number(words[i + 1]);
        }
        return new Call(words[0], args);
    }

    private static long number(String word) {
        return switch (word) {
            case "true" -> 1;
            case "false" -> 0;
            case "NONE" -> PackedTree.NONE;
            case "least" -> Integer.MIN_VALUE;
            case "greatest" -> Integer.MAX_VALUE;
            default -> Long.parseLong(word);
        };
    }

    int at(int i) {
        return (int) args[i];
    }

    private long on(PackedTree t) {
        switch (name) {
            case "make": return t.make(at(0), at(1), args[2] != 0);
            case "link": return t.link(at(0), at(1), at(2));
            case "unlink": return t.unlink(at(0), at(1));
            case "move": return t.move(at(0), at(1), at(2), at(3));
            case "write": return t.write(at(0), at(1), args[2], at(3));
            case "fill": return t.fill(at(0), at(1), at(2), at(3));
            case "cut": return t.cut(at(0), at(1));
            case "read": return t.read(at(0), at(1));
            case "look": return t.look(at(0), at(1));
            case "name": return t.name(at(0), at(1));
            case "about": return t.about(at(0), at(1));
            case "node": return t.node(at(0), at(1), at(2));
            case "item": return t.item(at(0), at(1));
            case "commit": return t.commit();
            case "checkpoint": return t.checkpoint();
            case "back": return t.back();
            case "recover": return t.recover();
            case "count": return t.count(at(0));
            case "off": return t.off() ? 1 : 0;
            case "fail":
                t.fail(at(0));
                return 0;
            default: throw new AssertionError("there is no call " + name);
        }
    }

    /** A number, or the name of the exception that was thrown. */
    String answer(PackedTree t) {
        try {
            return Long.toString(on(t));
        } catch (RuntimeException e) {
            return e.getClass().getSimpleName();
        }
    }

    @Override
    public String toString() {
        StringBuilder s = new StringBuilder(name).append('(');
        for (int i = 0; i < args.length; i++) {
            s.append(i > 0 ? ", " : "").append(args[i]);
        }
        return s.append(')').toString();
    }
}
