import java.util.Objects;

/** What the tests share: a reader of a text, a TREE as a line, and answers against those that are due. */
final class Check {
    private static int wrong = 0;

    private Check() {
    }

    /** A call whose exception is looked at. */
    interface Call {
        void run();
    }

    static void same(String what, long got, long due) {
        if (got != due) {
            tell(what, String.valueOf(got), String.valueOf(due));
        }
    }

    static void same(String what, double got, double due) {
        if (Double.compare(got, due) != 0) {
            tell(what, String.valueOf(got), String.valueOf(due));
        }
    }

    static void same(String what, String got, String due) {
        if (!Objects.equals(got, due)) {
            tell(what, got, due);
        }
    }

    /** The exception's class must be this very one. */
    static void thrown(String what, Class<?> due, Call call) {
        String got = "nothing";
        try {
            call.run();
        } catch (RuntimeException e) {
            got = e.getClass().getSimpleName();
        }
        same(what + " throws", got, due.getSimpleName());
    }

    static void noState(String what, Call call) {
        thrown(what, IllegalStateException.class, call);
    }

    static void noArgument(String what, Call call) {
        thrown(what, IllegalArgumentException.class, call);
    }

    static void noIndex(String what, Call call) {
        thrown(what, IndexOutOfBoundsException.class, call);
    }

    private static void tell(String what, String got, String due) {
        wrong++;
        System.out.println(what + " answered " + got + ", due is " + due);
    }

    /** A reader that has this text and has not read it. */
    static SqlReader of(String text) {
        SqlReader reader = new SqlReader();
        put(reader, text);
        return reader;
    }

    /** A reader whose THE TEXT has so many bytes: blanks, and this text as their end. */
    static SqlReader filled(int bytes, String end) {
        return of(times(" ", bytes - end.length()) + end);
    }

    /** Puts a text to the end of THE TEXT, 20 bytes at once as long as it can be. */
    static void put(SqlReader reader, String text) {
        int fed = 0;
        for (; fed + 20 <= text.length(); fed += 20) {
            reader.feed(four(text, fed), four(text, fed + 4), four(text, fed + 8), four(text, fed + 12),
                    four(text, fed + 16));
        }
        for (; fed < text.length(); fed++) {
            reader.add(text.charAt(fed));
        }
    }

    private static int four(String text, int from) {
        int four = 0;
        for (int i = from; i < from + 4; i++) {
            four = four << 8 | text.charAt(i);
        }
        return four;
    }

    /** How many STATEMENTS a text has, or -2 minus the place with which nothing goes on. */
    static int outcome(String text) {
        SqlReader reader = of(text);
        try {
            return reader.read();
        } catch (IllegalArgumentException e) {
            return -2 - reader.where();
        }
    }

    /** A text of the GRAMMAR with so many STATEMENTS. */
    static void good(String text, int statements) {
        same("read of " + shown(text), outcome(text), statements);
    }

    /** A text in which ^ stands before the TOKEN with which nothing goes on, or at the end that is missing. */
    static void bad(String marked) {
        int place = marked.indexOf('^');
        refused(marked.substring(0, place) + marked.substring(place + 1), place);
    }

    static void refused(String text, int place) {
        SqlReader reader = of(text);
        noArgument("read of " + shown(text), () -> reader.read());
        same("where of " + shown(text), reader.where(), place);
        same("edges of " + shown(text), reader.edges(), 0);
    }

    private static String shown(String text) {
        return text.length() <= 200 ? text : text.substring(0, 200) + " .. " + text.length() + " bytes";
    }

    /** The one STATEMENT of a text has this TREE, written as by tree. */
    static void tree(String text, String due) {
        SqlReader reader = of(text);
        String got;
        try {
            got = reader.read() == 1 ? tree(reader, 0) : "not one statement";
        } catch (IllegalArgumentException e) {
            got = "refused at " + reader.where();
        }
        same("tree of " + text, got, due);
    }

    /** KIND.MARK@PLACE/OWN#LENGTH=DIGITS(PARTS), each but KIND and PLACE only if it is not the usual one. */
    static String tree(SqlReader reader, int statement) {
        int count = reader.statement(statement);
        StringBuilder out = new StringBuilder();
        int behind = tree(reader, 0, out);
        return behind == count ? out.toString() : out + " of " + behind + " nodes, told are " + count;
    }

    /** All that can be asked of a reader without changing it: its bytes, where, the edges and THE TREE. */
    static String state(SqlReader reader) {
        StringBuilder out = new StringBuilder();
        int bytes = 0;
        int hash = 0;
        for (; hasByte(reader, bytes); bytes++) {
            hash = 31 * hash + reader.byteAt(bytes);
        }
        out.append(bytes).append(" bytes of hash ").append(hash).append(", where ").append(reader.where());
        out.append(", edges");
        for (int i = 0; i < reader.edges(); i++) {
            out.append(' ').append(reader.edge(i, false)).append('-').append(reader.edge(i, true));
        }
        out.append(", tree ");
        int behind = hasNode(reader, 0) ? tree(reader, 0, out) : 0;
        return out.append(hasNode(reader, behind) ? " and more" : "").toString();
    }

    private static boolean hasByte(SqlReader reader, int place) {
        try {
            return reader.byteAt(place) >= 0;
        } catch (IndexOutOfBoundsException e) {
            return false;
        }
    }

    private static boolean hasNode(SqlReader reader, int k) {
        try {
            return reader.node(k, 0) > 0;
        } catch (IndexOutOfBoundsException e) {
            return false;
        }
    }

    private static int tree(SqlReader reader, int k, StringBuilder out) {
        out.append(reader.node(k, 0));
        unlessUsual(out, '.', reader.node(k, 1), 0);
        out.append('@').append(reader.node(k, 2));
        unlessUsual(out, '/', reader.node(k, 3), reader.node(k, 2));
        unlessUsual(out, '#', reader.node(k, 5), 0);
        unlessUsual(out, '=', reader.whole(k), 0);
        int next = k + 1;
        int parts = reader.node(k, 4);
        for (int part = 0; part < parts; part++) {
            out.append(part == 0 ? '(' : ' ');
            next = tree(reader, next, out);
        }
        if (parts > 0) {
            out.append(')');
        }
        return next;
    }

    private static void unlessUsual(StringBuilder out, char sign, long value, long usual) {
        if (value != usual) {
            out.append(sign).append(value);
        }
    }

    static String times(String text, int times) {
        return text.repeat(times);
    }

    /** Ends the test: with exit code 1 if an answer was wrong. */
    static void finish() {
        if (wrong > 0) {
            System.out.println(wrong + " answers are wrong");
            System.exit(1);
        }
    }
}
