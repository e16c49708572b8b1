/**
 * Runs of many calls, made up by a fixed rule: all answers are those of a new object that is given the same THE TEXT
 * at once, whatever has been called before (promises 2 to 11).
 */
public final class HistoryTest {
    private static final int RUNS = 300;
    // The document promises nothing behind the 512th call, and the last step may make some fifty.
    private static final int CALLS = 460;
    private static final String[] GOOD = {"begin;", "commit ;", ";", " rollback to s;", "select a;", "select 1.5, b c;",
        "select (a) from t;", "update t set a = 1;", "drop view v;\n", "-- x\n", "select not - 7 in (8, 9);"};
    private static final String[] WRONG = {"select ", "!", "'", "a", "begin", "select a from", ")", "select ((1)"};

    private static long seed = 1;

    public static void main(String[] args) {
        for (int run = 0; run < RUNS; run++) {
            new Run(run).go();
        }
        Check.finish();
    }

    private static int next(int bound) {
        seed = seed * 6364136223846793005L + 1442695040888963407L;
        return (int) ((seed >>> 33) % bound);
    }

    /** One object, and beside it what is due of it. */
    private static final class Run {
        private final int number;
        private final SqlReader reader = new SqlReader();
        private final StringBuilder text = new StringBuilder();
        private int calls;
        private int statements;
        private int where = -1;
        private String tree = "none";
        private SqlReader latest = new SqlReader();

        Run(int number) {
            this.number = number;
        }

        void go() {
            while (calls < CALLS) {
                int way = next(14);
                if (way < 4) {
                    addPiece(GOOD[next(GOOD.length)]);
                } else if (way == 4) {
                    addPiece(WRONG[next(WRONG.length)]);
                } else if (way == 5) {
                    feedPiece(GOOD[next(GOOD.length)]);
                } else if (way == 6) {
                    cut(next(text.length() + 3) - 1);
                } else if (way == 7) {
                    cut(text.lastIndexOf(";", Math.max(where, 0)) + 1);
                } else if (way < 11) {
                    read();
                    statement();
                } else {
                    statement();
                }
            }
            same("tree at the end", treeOf(reader), tree);
        }

        private void same(String what, String got, String due) {
            Check.same("run " + number + ", call " + calls + ", " + what + " with text " + text, got, due);
        }

        private void same(String what, int got, int due) {
            same(what, String.valueOf(got), String.valueOf(due));
        }

        private void addPiece(String piece) {
            for (int i = 0; i < piece.length(); i++) {
                text.append(piece.charAt(i));
                same("add", reader.add(piece.charAt(i)), text.length());
                calls++;
            }
            statements = 0;
        }

        private void feedPiece(String good) {
            String piece = (good + "                    ").substring(0, 20);
            int due = text.append(piece).length();
            Check.put(reader, piece);
            calls++;
            same("place behind a feed", has(reader, due - 1) && !has(reader, due) ? 1 : 0, 1);
            calls += 2;
            statements = 0;
        }

        private static boolean has(SqlReader reader, int place) {
            try {
                return reader.byteAt(place) >= 0;
            } catch (IndexOutOfBoundsException e) {
                return false;
            }
        }

        private void cut(int n) {
            calls++;
            int gone = -1;
            try {
                gone = reader.end(n);
            } catch (IllegalArgumentException e) {
                gone = -2;
            }
            boolean isGood = n >= 0 && n <= text.length();
            same("end", gone, isGood ? text.length() - n : -2);
            if (isGood) {
                text.setLength(n);
                statements = 0;
            }
        }

        private void read() {
            latest = Check.of(text.toString());
            int due = outcome(latest);
            same("read", outcome(reader), due);
            statements = Math.max(due, 0);
            where = due < 0 ? latest.where() : -1;
            tree = "none";
            same("where", reader.where(), where);
            same("edges", reader.edges(), statements);
            same("tree behind read", treeOf(reader), "none");
            calls += 4;
        }

        private static int outcome(SqlReader reader) {
            try {
                return reader.read();
            } catch (IllegalArgumentException e) {
                return -1;
            }
        }

        private void statement() {
            int i = next(statements + 2) - 1;
            boolean isGood = i >= 0 && i < statements;
            int got = -1;
            try {
                got = reader.statement(i);
            } catch (IndexOutOfBoundsException e) {
                got = -2;
            }
            same("statement", got, isGood ? latest.statement(i) : -2);
            if (isGood) {
                tree = treeOf(latest);
                same("start", reader.edge(i, false), latest.edge(i, false));
                same("end", reader.edge(i, true), latest.edge(i, true));
                same("tree", treeOf(reader), tree);
                calls += 23;
            }
            same("where", reader.where(), where);
            same("edges", reader.edges(), statements);
            calls += 3;
        }

        /** Asks only for the KIND, the MARK and the PLACE of some NODES, as each question is a call. */
        private static String treeOf(SqlReader reader) {
            StringBuilder out = new StringBuilder();
            try {
                for (int k = 0; k < 7; k++) {
                    out.append(reader.node(k, 0)).append('.').append(reader.node(k, 1));
                    out.append('@').append(reader.node(k, 2)).append(' ');
                }
            } catch (IndexOutOfBoundsException e) {
                return out.length() == 0 ? "none" : out.toString();
            }
            return out.toString();
        }
    }
}
