/** What is asked of a NODE, and its numbers: promises 11 to 13. Above a test: the words it is for. */
public final class NodeTest {
    public static void main(String[] args) {
        allOfOne();
        noSuchNode();
        noTree();
        nodeIsLookedAtFirst();
        anotherWhat();
        wholes();
        wholesOfOthers();
        noSuchNumber();
        reals();
        realsByPower();
        realsOfOthers();
        longestTree();
        Check.finish();
    }

    private static SqlReader treeOf(String text) {
        SqlReader reader = Check.of(text);
        reader.read();
        reader.statement(0);
        return reader;
    }

    /** "what 0: KIND, 1: MARK, 2: PLACE, 3: OWN place, 4: how many PARTS, 5: LENGTH" */
    private static void allOfOne() {
        SqlReader reader = treeOf("select ((1.50)) between x and 'it''s'");
        int[][] due = {
            {25, 0, 0, 0, 1, 0}, {28, 0, 0, 0, 1, 0}, {33, 0, 7, 7, 1, 0}, {58, 0, 7, 7, 3, 0},
            {41, 2, 7, 9, 0, 4}, {44, 0, 24, 24, 1, 0}, {39, 0, 24, 24, 0, 1}, {42, 0, 30, 30, 0, 7}};
        for (int k = 0; k < due.length; k++) {
            for (int what = 0; what < 6; what++) {
                Check.same("node(" + k + ", " + what + ")", reader.node(k, what), due[k][what]);
            }
        }
    }

    /** "IndexOutOfBoundsException if there is no NODE k" */
    private static void noSuchNode() {
        SqlReader reader = treeOf("savepoint s");
        String before = Check.state(reader);
        Check.same("the last that there is", reader.node(1, 0), 39);
        int[] wrong = {-1, -2, 2, 3, 2048, 2049, Integer.MIN_VALUE, Integer.MAX_VALUE};
        for (int k : wrong) {
            for (int what = 0; what < 6; what++) {
                int asked = what;
                Check.noIndex("node(" + k + ", " + what + ") of two", () -> reader.node(k, asked));
            }
        }
        Check.same("all behind those that threw", Check.state(reader), before);
        SqlReader smaller = Check.of("select a, b, c; begin");
        smaller.read();
        smaller.statement(0);
        smaller.statement(1);
        Check.noIndex("node(1, 0) that an earlier tree had", () -> smaller.node(1, 0));
    }

    /** The same where there is no TREE at all. */
    private static void noTree() {
        SqlReader reader = new SqlReader();
        Check.noIndex("node(0, 0) of a new object", () -> reader.node(0, 0));
        Check.put(reader, "begin");
        Check.noIndex("node(0, 0) before a read", () -> reader.node(0, 0));
        reader.read();
        Check.noIndex("node(0, 0) before a statement", () -> reader.node(0, 0));
        Check.noIndex("whole(0) before a statement", () -> reader.whole(0));
        Check.noIndex("real(0) before a statement", () -> reader.real(0));
    }

    /** "(looked at first)" */
    private static void nodeIsLookedAtFirst() {
        SqlReader reader = treeOf("begin");
        int[] what = {-1, 6, Integer.MIN_VALUE, Integer.MAX_VALUE};
        for (int asked : what) {
            Check.noIndex("node(1, " + asked + ") of one", () -> reader.node(1, asked));
            Check.noIndex("node(-1, " + asked + ") of one", () -> reader.node(-1, asked));
            Check.noIndex("node(0, " + asked + ") without a tree", () -> Check.of("begin").node(0, asked));
        }
    }

    /** "IllegalArgumentException for another what." */
    private static void anotherWhat() {
        SqlReader reader = treeOf("savepoint s");
        String before = Check.state(reader);
        Check.same("the first what that there is", reader.node(1, 0), 39);
        Check.same("the last what that there is", reader.node(1, 5), 1);
        int[] wrong = {-1, -2, 6, 7, 256, Integer.MIN_VALUE, Integer.MAX_VALUE};
        for (int what : wrong) {
            Check.noArgument("node(0, " + what + ")", () -> reader.node(0, what));
            Check.noArgument("node(1, " + what + ")", () -> reader.node(1, what));
        }
        Check.same("all behind those that threw", Check.state(reader), before);
    }

    /** "Of NODE k, an INTEGER or DECIMAL, all its digits as a number" */
    private static void wholes() {
        SqlReader reader = treeOf("select 0, 42, 9223372036854775807, 00012, 12.50, 0.001, 12345678901234.5, "
                + "9223372036854775806, 2147483648, 4294967296, 0.00000000000001, 99999999999999.9");
        long[] due = {0, 42, 9223372036854775807L, 12, 1250, 1, 123456789012345L, 9223372036854775806L, 2147483648L,
            4294967296L, 1, 999999999999999L};
        for (int i = 0; i < due.length; i++) {
            Check.same("whole of number " + i, reader.whole(3 + 2 * i), due[i]);
        }
        SqlReader minus = treeOf("select -7");
        Check.same("whole of the minus", minus.whole(3), 0);
        Check.same("whole behind the minus", minus.whole(4), 7);
        SqlReader limit = treeOf("select a limit 30 offset 9223372036854775807");
        Check.same("whole of a limit", limit.whole(6), 30);
        Check.same("whole of an offset", limit.whole(7), 9223372036854775807L);
        SqlReader byDefault = treeOf("create table t (a real default -2.50)");
        Check.same("whole of a default", byDefault.whole(6), 250);
    }

    /** "0 of others" */
    private static void wholesOfOthers() {
        SqlReader reader = treeOf("select '12', null, a12, f(x) + 1");
        for (int k = 0; k < 16; k++) {
            Check.same("whole(" + k + ") of no number", reader.whole(k), 0);
        }
        Check.same("the number there", reader.node(16, 0), 40);
        Check.same("whole of it", reader.whole(16), 1);
        SqlReader later = Check.of("select 77, 88.5; select a, b");
        later.read();
        later.statement(0);
        int nodes = later.statement(1);
        for (int k = 0; k < nodes; k++) {
            Check.same("whole(" + k + ") where an earlier tree had numbers", later.whole(k), 0);
        }
    }

    /** "IndexOutOfBoundsException if there is no NODE k.", "Thrown as by whole." */
    private static void noSuchNumber() {
        SqlReader reader = treeOf("select 5");
        String before = Check.state(reader);
        Check.same("the last that there is", reader.whole(3), 5);
        Check.same("the last that there is, as a double", reader.real(3), 5.0);
        int[] wrong = {-1, -2, 4, 5, 2048, 2049, Integer.MIN_VALUE, Integer.MAX_VALUE};
        for (int k : wrong) {
            Check.noIndex("whole(" + k + ") of four", () -> reader.whole(k));
            Check.noIndex("real(" + k + ") of four", () -> reader.real(k));
        }
        Check.same("all behind those that threw", Check.state(reader), before);
    }

    /** "Of NODE k, an INTEGER or DECIMAL, its digits as a double" */
    private static void reals() {
        SqlReader reader = treeOf("select 0, 7, 9223372036854775807, 12.50, 0.1, 0.00000000000001, 00.0, "
                + "123456789012.345, 9007199254740993, 1.1, 99999999999999.9, 9007199254740995, "
                + "9223372036854775295, 9223372036854775296");
        double[] due = {0.0, 7.0, 9223372036854775808.0, 12.5, 0.1, 1e-14, 0.0, 123456789012.345,
            9007199254740992.0, 1.1, 99999999999999.9, 9007199254740996.0, 9223372036854774784.0,
            9223372036854775808.0};
        for (int i = 0; i < due.length; i++) {
            Check.same("real of number " + i, reader.real(3 + 2 * i), due[i]);
        }
    }

    /** "by 10 as often as digits stand behind the . (that power as a double)": from none to all but one. */
    private static void realsByPower() {
        String digits = "314159265358979";
        double power = 1.0;
        for (int behind = 0; behind <= 14; behind++) {
            int point = digits.length() - behind;
            String number = digits.substring(0, point) + (behind == 0 ? "" : "." + digits.substring(point));
            SqlReader reader = treeOf("select " + number);
            Check.same("mark of " + number, reader.node(3, 1), behind);
            Check.same("whole of " + number, reader.whole(3), 314159265358979L);
            Check.same("real of " + number, reader.real(3), 314159265358979.0 / power);
            power *= 10.0;
        }
    }

    /** "0.0 of others" */
    private static void realsOfOthers() {
        SqlReader reader = treeOf("select '12', null, a12, f(x) + 1");
        for (int k = 0; k < 16; k++) {
            Check.same("real(" + k + ") of no number", reader.real(k), 0.0);
        }
        SqlReader index = treeOf("create unique index i on t (a desc)");
        Check.same("real of a NODE with a MARK", index.real(0), 0.0);
        Check.same("real of a NAME with a MARK", index.real(3), 0.0);
    }

    /** "They are numbered from 0 on": in the longest STATEMENTS that there are. */
    private static void longestTree() {
        SqlReader reader = treeOf("select a" + Check.times("+a*b", 255) + "-c");
        int nodes = reader.statement(0);
        Check.same("nodes of 1024 tokens", nodes, 6 + 255 * 7 + 3);
        Check.same("kind of the last", reader.node(nodes - 1, 0), 39);
        Check.same("place of the last", reader.node(nodes - 1, 2), 8 + 4 * 255 + 1);
        Check.same("parts of the sum", reader.node(3, 4), 257);
        Check.noIndex("node behind the last", () -> reader.node(nodes, 0));
        SqlReader dense = treeOf("select a*b+c*d" + Check.times(",a*b+c*d", 127));
        int all = dense.statement(0);
        Check.same("nodes of 128 sums of products", all, 2 + 128 * 15);
        Check.same("kind of the last of them", dense.node(all - 1, 0), 39);
        Check.noIndex("node behind the last of them", () -> dense.node(all, 0));
    }
}
