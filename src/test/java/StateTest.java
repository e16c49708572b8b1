/** What each call leaves behind for the others: promises 6 to 10. */
public final class StateTest {
    public static void main(String[] args) {
        counts();
        whereStays();
        changesHideStatements();
        treeStays();
        readDropsTree();
        wrongStatementLeavesTree();
        readAgain();
        refusedAgainAndAgain();
        edges();
        wrongIndexes();
        manyStatements();
        Check.finish();
    }

    private static void counts() {
        Check.good("", 0);
        Check.good(" \n ", 0);
        Check.good("-- begin", 0);
        Check.good(";", 0);
        Check.good(";;;", 0);
        Check.good("begin", 1);
        Check.good("begin;", 1);
        Check.good(";begin;", 1);
        Check.good("; ; begin ; -- x\n ; commit ;;", 2);
        Check.good("begin;commit;rollback", 3);
        Check.good("select 1;select 2;", 2);
        Check.good("select ';';begin", 2);
    }

    private static void whereStays() {
        SqlReader reader = Check.of("select a from");
        Check.same("where before a read", reader.where(), -1);
        Check.noArgument("read", () -> reader.read());
        Check.same("where", reader.where(), 13);
        reader.add(' ');
        Check.same("where behind an add", reader.where(), 13);
        reader.end(3);
        Check.same("where behind an end", reader.where(), 13);
        reader.feed(0x20202020, 0x20202020, 0x20202020, 0x20202020, 0x20202020);
        Check.same("where behind a feed", reader.where(), 13);
        Check.noArgument("read of sel", () -> reader.read());
        Check.same("where of sel", reader.where(), 0);
        reader.end(0);
        Check.same("where behind end(0)", reader.where(), 0);
        Check.same("read of nothing", reader.read(), 0);
        Check.same("where of nothing", reader.where(), -1);
        reader.add('(');
        Check.same("where before the next read", reader.where(), -1);
    }

    private static void changesHideStatements() {
        for (int change = 0; change < 4; change++) {
            SqlReader reader = Check.of("begin; commit");
            Check.same("read", reader.read(), 2);
            Check.same("edges", reader.edges(), 2);
            change(reader, change);
            String behind = " behind change " + change;
            Check.same("edges" + behind, reader.edges(), 0);
            Check.noIndex("statement(0)" + behind, () -> reader.statement(0));
            Check.noIndex("edge(0, false)" + behind, () -> reader.edge(0, false));
            Check.noIndex("edge(0, true)" + behind, () -> reader.edge(0, true));
            Check.same("where" + behind, reader.where(), -1);
            Check.same("read" + behind, reader.read(), 2);
            Check.same("edges after reading" + behind, reader.edges(), 2);
            Check.same("statement(1) after reading" + behind, reader.statement(1), 1);
        }
    }

    private static void change(SqlReader reader, int change) {
        if (change == 0) {
            reader.add(' ');
        } else if (change == 1) {
            reader.end(13);
        } else if (change == 2) {
            reader.feed(0x20202020, 0x20202020, 0x20202020, 0x20202020, 0x20202020);
        } else {
            reader.end(12);
            reader.add('T');
        }
    }

    private static void treeStays() {
        SqlReader reader = Check.of("begin; select 12.5, 7");
        reader.read();
        Check.noIndex("node behind read", () -> reader.node(0, 0));
        Check.same("statement(1)", reader.statement(1), 6);
        reader.end(0);
        Check.put(reader, "!!! no statement at all, with more bytes !!!");
        Check.same("kind behind a changed text", reader.node(3, 0), 41);
        Check.same("mark behind a changed text", reader.node(3, 1), 1);
        Check.same("place behind a changed text", reader.node(3, 2), 14);
        Check.same("length behind a changed text", reader.node(3, 5), 4);
        Check.same("whole behind a changed text", reader.whole(3), 125);
        Check.same("real behind a changed text", reader.real(3), 12.5);
        Check.same("last node behind a changed text", reader.whole(5), 7);
        Check.noIndex("node(6, 0)", () -> reader.node(6, 0));
    }

    private static void readDropsTree() {
        SqlReader reader = Check.of("select 1");
        reader.read();
        reader.statement(0);
        Check.same("node of a tree", reader.node(3, 0), 40);
        reader.read();
        Check.noIndex("node behind a good read", () -> reader.node(0, 0));
        Check.noIndex("whole behind a good read", () -> reader.whole(0));
        Check.noIndex("real behind a good read", () -> reader.real(0));
        reader.statement(0);
        reader.add('!');
        Check.same("node behind an add", reader.node(0, 0), 25);
        Check.noArgument("read of a wrong text", () -> reader.read());
        Check.noIndex("node behind a wrong read", () -> reader.node(0, 0));
        Check.noIndex("statement behind a wrong read", () -> reader.statement(0));
        Check.noIndex("edge behind a wrong read", () -> reader.edge(0, true));
        Check.same("edges behind a wrong read", reader.edges(), 0);
    }

    private static void wrongStatementLeavesTree() {
        SqlReader reader = Check.of("begin;select 1");
        reader.read();
        reader.statement(1);
        Check.noIndex("statement(2)", () -> reader.statement(2));
        Check.same("node behind a statement that threw", reader.node(0, 0), 25);
        Check.same("statement(0)", reader.statement(0), 1);
        Check.same("node of statement 0", reader.node(0, 0), 20);
        Check.noIndex("node 1 of statement 0", () -> reader.node(1, 0));
    }

    private static void readAgain() {
        SqlReader reader = Check.of("begin; comit");
        Check.noArgument("read", () -> reader.read());
        Check.same("where", reader.where(), 7);
        reader.end(7);
        Check.put(reader, "commit;release x");
        Check.same("read of the mended text", reader.read(), 3);
        Check.same("where of it", reader.where(), -1);
        Check.same("statement 2 of it", Check.tree(reader, 2), "24@14(39@22#1)");
        Check.same("read once more", reader.read(), 3);
        Check.same("statement 1 of it", Check.tree(reader, 1), "21@7");
    }

    private static void refusedAgainAndAgain() {
        SqlReader reader = Check.of("select a or b and not c = d + e * f || -");
        for (int i = 0; i < 200; i++) {
            Check.noArgument("read " + i, () -> reader.read());
            Check.same("where of read " + i, reader.where(), 40);
        }
        reader.add('g');
        Check.same("read of the whole text", reader.read(), 1);
        for (int i = 0; i < 200; i++) {
            Check.same("statement for the time " + i, reader.statement(0), 27);
        }
    }

    private static void edges() {
        SqlReader reader = Check.of(" begin -- a\n;; select 'x;' ;--;\n commit");
        Check.same("read", reader.read(), 3);
        int[] due = {1, 6, 15, 26, 33, 39};
        for (int i = 0; i < 3; i++) {
            Check.same("start of " + i, reader.edge(i, false), due[2 * i]);
            Check.same("end of " + i, reader.edge(i, true), due[2 * i + 1]);
        }
        reader.statement(0);
        Check.same("end of 2 behind statement(0)", reader.edge(2, true), 39);
        Check.same("edges behind statement(0)", reader.edges(), 3);
        Check.same("where behind statement(0)", reader.where(), -1);
    }

    private static void wrongIndexes() {
        SqlReader reader = Check.of("begin;commit");
        reader.read();
        int[] wrong = {-1, 2, 3, Integer.MIN_VALUE, Integer.MAX_VALUE};
        for (int i : wrong) {
            Check.noIndex("statement(" + i + ")", () -> reader.statement(i));
            Check.noIndex("edge(" + i + ", false)", () -> reader.edge(i, false));
            Check.noIndex("edge(" + i + ", true)", () -> reader.edge(i, true));
        }
        SqlReader empty = Check.of(";");
        empty.read();
        Check.noIndex("statement(0) of none", () -> empty.statement(0));
        Check.noIndex("edge(0, false) of none", () -> empty.edge(0, false));
    }

    private static void manyStatements() {
        SqlReader reader = Check.of(Check.times("begin;", 10922) + "begi");
        Check.noArgument("read", () -> reader.read());
        Check.same("where", reader.where(), 65532);
        reader.end(65532);
        Check.same("read of many", reader.read(), 10922);
        Check.same("start of the last", reader.edge(10921, false), 65526);
        Check.same("end of the last", reader.edge(10921, true), 65531);
        Check.same("tree of the last", Check.tree(reader, 10921), "20@65526");
        SqlReader semicolons = Check.of(Check.times(";", 65536));
        Check.same("read of semicolons alone", semicolons.read(), 0);
        Check.same("where of semicolons alone", semicolons.where(), -1);
    }
}
