/** What is asked of a NODE, and its numbers: promises 11 to 13. */
public final class NodeTest {
    public static void main(String[] args) {
        allOfOne();
        wrongNodes();
        wrongWhats();
        wholes();
        wholesOfOthers();
        reals();
        longestTree();
        Check.finish();
    }

    private static SqlReader treeOf(String text) {
        SqlReader reader = Check.of(text);
        reader.read();
        reader.statement(0);
        return reader;
    }

    private static void allOfOne() {
        SqlReader reader = treeOf("select ((1.50)) between x and 'it''s'");
        int[][] due = {
            {25, 0, 0, 0, 1, 0}, {28, 0, 0, 0, 1, 0}, {33, 0, 7, 7, 1, 0}, {58, 0, 7, 7, 3, 0},
            {41, 2, 7, 9, 0, 4}, {44, 0, 24, 24, 1, 0}, {39, 0, 24, 24, 0, 1}, {42, 0, 30, 30, 0, 7}};
        for (int k = 0; k < due.length; k++) {
            for (int what = 0; what < 6; what++) {
                Check.same("node(" + k + ", " + what + ")", reader.node(k, what), due[k][what]);
            }
        }
    }

    private static void wrongNodes() {
        SqlReader reader = treeOf("begin");
        int[] wrong = {-1, 1, 2, Integer.MIN_VALUE, Integer.MAX_VALUE};
        for (int k : wrong) {
            Check.noIndex("node(" + k + ", 0)", () -> reader.node(k, 0));
            Check.noIndex("node(" + k + ", 9): k is looked at first", () -> reader.node(k, 9));
            Check.noIndex("whole(" + k + ")", () -> reader.whole(k));
            Check.noIndex("real(" + k + ")", () -> reader.real(k));
        }
        SqlReader none = Check.of("begin");
        none.read();
        Check.noIndex("node(0, -1) without a tree", () -> none.node(0, -1));
    }

    private static void wrongWhats() {
        SqlReader reader = treeOf("begin");
        int[] wrong = {-1, 6, 7, Integer.MIN_VALUE, Integer.MAX_VALUE};
        for (int what : wrong) {
            Check.noArgument("node(0, " + what + ")", () -> reader.node(0, what));
        }
        Check.same("node behind those that threw", reader.node(0, 0), 20);
    }

    private static void wholes() {
        SqlReader reader = treeOf("select 0, 42, 9223372036854775807, 00012, 12.50, 0.001, 12345678901234.5");
        long[] due = {0, 42, 9223372036854775807L, 12, 1250, 1, 123456789012345L};
        for (int i = 0; i < due.length; i++) {
            Check.same("whole of number " + i, reader.whole(3 + 2 * i), due[i]);
        }
        SqlReader minus = treeOf("select -7");
        Check.same("whole of the minus", minus.whole(3), 0);
        Check.same("whole behind the minus", minus.whole(4), 7);
        SqlReader limit = treeOf("select a limit 30 offset 40");
        Check.same("whole of a limit", limit.whole(6), 30);
        Check.same("whole of an offset", limit.whole(7), 40);
        SqlReader byDefault = treeOf("create table t (a real default -2.50)");
        Check.same("whole of a default", byDefault.whole(6), 250);
    }

    private static void wholesOfOthers() {
        SqlReader reader = treeOf("select '12', null, a12, f(x) + 1");
        for (int k = 0; k < 16; k++) {
            Check.same("whole(" + k + ") of no number", reader.whole(k), 0);
            Check.same("real(" + k + ") of no number", reader.real(k), 0.0);
        }
        Check.same("the number there", reader.node(16, 0), 40);
        Check.same("whole of it", reader.whole(16), 1);
        SqlReader index = treeOf("create unique index i on t (a desc)");
        Check.same("real of a NAME with a MARK", index.real(3), 0.0);
    }

    private static void reals() {
        SqlReader reader = treeOf("select 0, 7, 9223372036854775807, 12.50, 0.1, 0.00000000000001, 00.0, "
                + "123456789012.345, 9007199254740993, 1.1, 99999999999999.9");
        double[] due = {0.0, 7.0, 9223372036854775808.0, 12.5, 0.1, 1e-14, 0.0, 123456789012.345,
            9007199254740992.0, 1.1, 99999999999999.9};
        for (int i = 0; i < due.length; i++) {
            Check.same("real of number " + i, reader.real(3 + 2 * i), due[i]);
        }
    }

    private static void longestTree() {
        SqlReader reader = treeOf("select a" + Check.times("+a*b", 255) + "-c");
        int nodes = reader.statement(0);
        Check.same("nodes of 1024 tokens", nodes, 6 + 255 * 7 + 3);
        Check.same("kind of the last", reader.node(nodes - 1, 0), 39);
        Check.same("place of the last", reader.node(nodes - 1, 2), 8 + 4 * 255 + 1);
        Check.same("parts of the sum", reader.node(3, 4), 257);
        Check.noIndex("node behind the last", () -> reader.node(nodes, 0));
    }
}
