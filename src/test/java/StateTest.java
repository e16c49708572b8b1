/** What each call leaves behind for the others: promises 6 to 10. Above a test: the words it is for. */
public final class StateTest {
    private static final int MOST = 65536;
    private static final int BLANKS = 0x20202020;

    public static void main(String[] args) {
        counts();
        noneIfRefused();
        noTreeBehindRead();
        noTreeBehindRefusedRead();
        whereOfToken();
        whereOfMissingEnd();
        whereOfLatestRead();
        whereOfGoodOrNoRead();
        statementOfEach();
        treeStaysWhateverComes();
        treeStaysTillStatement();
        statementThatIsNone();
        changesHideStatements();
        refusedChangesHideNothing();
        edgesOfEach();
        edgeThatIsNone();
        readAgain();
        refusedAgainAndAgain();
        manyStatements();
        Check.finish();
    }

    /** "how many STATEMENTS (what is empty between ; is none)" */
    private static void counts() {
        Check.good("", 0);
        Check.good(" ", 0);
        Check.good(" \n ", 0);
        Check.good("-- begin", 0);
        Check.good(";", 0);
        Check.good(";;;", 0);
        Check.good(" ; -- begin\n ;", 0);
        Check.good("begin", 1);
        Check.good("begin;", 1);
        Check.good("begin;;", 1);
        Check.good(";begin", 1);
        Check.good(";begin;", 1);
        Check.good("; ; begin ; -- x\n ; commit ;;", 2);
        Check.good("begin;commit;rollback", 3);
        Check.good("select 1;select 2;", 2);
        Check.good("select ';';begin", 2);
    }

    /** "IllegalArgumentException if it is not of the GRAMMAR: there are none then." */
    private static void noneIfRefused() {
        SqlReader reader = Check.of("begin; commit; comit");
        Check.noArgument("read", () -> reader.read());
        Check.same("edges", reader.edges(), 0);
        Check.noIndex("statement(0)", () -> reader.statement(0));
        Check.noIndex("edge(0, false)", () -> reader.edge(0, false));
        Check.noIndex("edge(1, true)", () -> reader.edge(1, true));
        Check.same("the text stays", reader.byteAt(19), 't');
        SqlReader before = Check.of("begin; commit");
        Check.same("read of two", before.read(), 2);
        before.add('t');
        Check.noArgument("read with one byte more", () -> before.read());
        Check.same("edges of the earlier read", before.edges(), 0);
        Check.noIndex("statement(0) of the earlier read", () -> before.statement(0));
    }

    /** "There is no TREE behind it.": behind a read that answered. */
    private static void noTreeBehindRead() {
        SqlReader reader = Check.of("select 1");
        reader.read();
        Check.noIndex("node behind the first read", () -> reader.node(0, 0));
        reader.statement(0);
        Check.same("node of a tree", reader.node(3, 0), 40);
        reader.read();
        Check.noIndex("node behind a read", () -> reader.node(0, 0));
        Check.noIndex("whole behind a read", () -> reader.whole(0));
        Check.noIndex("real behind a read", () -> reader.real(0));
        Check.same("edges behind a read", reader.edges(), 1);
    }

    /** "There is no TREE behind it.": behind a read that threw. */
    private static void noTreeBehindRefusedRead() {
        SqlReader reader = Check.of("select 1");
        reader.read();
        reader.statement(0);
        reader.add('!');
        Check.same("node behind an add", reader.node(0, 0), 25);
        Check.noArgument("read of a wrong text", () -> reader.read());
        Check.noIndex("node behind a read that threw", () -> reader.node(0, 0));
        Check.noIndex("whole behind a read that threw", () -> reader.whole(0));
        Check.noIndex("real behind a read that threw", () -> reader.real(0));
    }

    /** "The place (from 0) of the TOKEN with which nothing went on" */
    private static void whereOfToken() {
        Check.bad("^x");
        Check.bad("^!");
        Check.bad(" ^)");
        Check.bad("--\n^x");
        Check.bad("begin^.");
        Check.bad("begin; commit; ^comit; release");
        Check.bad("select 1 ^2; from t");
        Check.bad("savepoint ^; begin");
        Check.bad("select a ^'b' !");
        Check.refused(Check.times(" ", MOST - 1) + "x", MOST - 1);
    }

    /** "(how many bytes there were, if the end is missing)" */
    private static void whereOfMissingEnd() {
        Check.bad("select^");
        Check.bad("select ^");
        Check.bad("select \n\n ^");
        Check.bad("select -- a^");
        Check.bad("select -- a\n^");
        Check.bad("begin; savepoint^");
        Check.bad("select (1^");
        Check.bad("select a between 1^");
        Check.bad("select a < ^");
        Check.refused(Check.times(" ", MOST - 6) + "select", MOST);
    }

    /** "in the latest read": whatever has come to THE TEXT since. */
    private static void whereOfLatestRead() {
        SqlReader reader = Check.of("select a from");
        Check.noArgument("read", () -> reader.read());
        Check.same("where", reader.where(), 13);
        reader.add(' ');
        Check.same("where behind an add", reader.where(), 13);
        reader.end(3);
        Check.same("where behind an end", reader.where(), 13);
        reader.feed(BLANKS, BLANKS, BLANKS, BLANKS, BLANKS);
        Check.same("where behind a feed", reader.where(), 13);
        Check.noIndex("statement", () -> reader.statement(0));
        Check.same("where behind a statement that threw", reader.where(), 13);
        Check.noArgument("read of sel", () -> reader.read());
        Check.same("where of sel", reader.where(), 0);
        reader.end(0);
        Check.same("where behind end(0)", reader.where(), 0);
    }

    /** "-1 if it was of the GRAMMAR, or there was none" */
    private static void whereOfGoodOrNoRead() {
        SqlReader reader = new SqlReader();
        Check.same("where of a new object", reader.where(), -1);
        Check.put(reader, "beginn");
        Check.same("where before the first read", reader.where(), -1);
        Check.noArgument("read", () -> reader.read());
        Check.same("where of it", reader.where(), 0);
        reader.end(5);
        Check.same("read of begin", reader.read(), 1);
        Check.same("where of begin", reader.where(), -1);
        reader.statement(0);
        Check.same("where behind a statement", reader.where(), -1);
        reader.add('n');
        Check.same("where before the next read", reader.where(), -1);
        reader.end(0);
        Check.same("read of nothing", reader.read(), 0);
        Check.same("where of nothing", reader.where(), -1);
    }

    /** "THE TREE becomes that of STATEMENT i (from 0) ...: how many NODES." */
    private static void statementOfEach() {
        SqlReader reader = Check.of("begin; savepoint s;; select 1");
        reader.read();
        Check.same("nodes of the last", reader.statement(2), 4);
        Check.same("tree of the last", Check.tree(reader, 2), "25@21(28@21(33@28(40@28#1=1)))");
        Check.same("nodes of the first", reader.statement(0), 1);
        Check.same("tree of the first", Check.tree(reader, 0), "20@0");
        Check.same("nodes of the second", reader.statement(1), 2);
        Check.same("tree of the second", Check.tree(reader, 1), "23@7(39@17#1)");
        Check.same("tree of the second once more", Check.tree(reader, 1), "23@7(39@17#1)");
    }

    /** "and stays so till the next statement or read, whatever comes to THE TEXT" */
    private static void treeStaysWhateverComes() {
        SqlReader reader = Check.of("begin; select 12.5, 7");
        reader.read();
        Check.same("statement(1)", reader.statement(1), 6);
        reader.end(0);
        Check.put(reader, "!!! no statement at all, with more bytes !!!");
        Check.same("kind behind a changed text", reader.node(3, 0), 41);
        Check.same("mark behind a changed text", reader.node(3, 1), 1);
        Check.same("place behind a changed text", reader.node(3, 2), 14);
        Check.same("own place behind a changed text", reader.node(3, 3), 14);
        Check.same("parts behind a changed text", reader.node(2, 4), 1);
        Check.same("length behind a changed text", reader.node(3, 5), 4);
        Check.same("whole behind a changed text", reader.whole(3), 125);
        Check.same("real behind a changed text", reader.real(3), 12.5);
        Check.same("last node behind a changed text", reader.whole(5), 7);
        Check.noIndex("node(6, 0)", () -> reader.node(6, 0));
    }

    /** The same up to the next statement: one that throws leaves THE TREE. */
    private static void treeStaysTillStatement() {
        SqlReader reader = Check.of("begin;select 1");
        reader.read();
        reader.statement(1);
        String before = Check.state(reader);
        Check.noIndex("statement(2)", () -> reader.statement(2));
        Check.noIndex("statement(-1)", () -> reader.statement(-1));
        Check.same("all behind statements that threw", Check.state(reader), before);
        Check.same("statement(0)", reader.statement(0), 1);
        Check.same("node of statement 0", reader.node(0, 0), 20);
        Check.noIndex("node 1 of statement 0", () -> reader.node(1, 0));
    }

    /** "IndexOutOfBoundsException if there is none such" */
    private static void statementThatIsNone() {
        SqlReader reader = Check.of("begin;commit");
        reader.read();
        Check.same("the last that there is", reader.statement(1), 1);
        int[] wrong = {-1, -2, 2, 3, 64, MOST, Integer.MIN_VALUE, Integer.MAX_VALUE};
        for (int i : wrong) {
            Check.noIndex("statement(" + i + ") of two", () -> reader.statement(i));
        }
        SqlReader empty = Check.of(";");
        Check.noIndex("statement(0) before a read", () -> Check.of("begin").statement(0));
        empty.read();
        Check.noIndex("statement(0) of none", () -> empty.statement(0));
        SqlReader fewer = Check.of("begin;commit");
        fewer.read();
        fewer.end(6);
        fewer.read();
        Check.noIndex("statement(1) that an earlier read had", () -> fewer.statement(1));
    }

    /** "(nor behind a feed, add or end that did not throw, till read)", "0 behind a feed, add or end" */
    private static void changesHideStatements() {
        for (int change = 0; change < 5; change++) {
            SqlReader reader = Check.of("begin; commit");
            Check.same("read", reader.read(), 2);
            Check.same("edges", reader.edges(), 2);
            change(reader, change);
            String behind = " behind change " + change;
            Check.same("edges" + behind, reader.edges(), 0);
            Check.noIndex("statement(0)" + behind, () -> reader.statement(0));
            Check.noIndex("statement(1)" + behind, () -> reader.statement(1));
            Check.noIndex("edge(0, false)" + behind, () -> reader.edge(0, false));
            Check.noIndex("edge(1, true)" + behind, () -> reader.edge(1, true));
            Check.same("where" + behind, reader.where(), -1);
            Check.same("read" + behind, reader.read(), change == 4 ? 0 : 2);
            Check.same("edges after reading" + behind, reader.edges(), change == 4 ? 0 : 2);
        }
    }

    private static void change(SqlReader reader, int change) {
        if (change == 0) {
            reader.add(' ');
        } else if (change == 1) {
            reader.end(13);
        } else if (change == 2) {
            reader.feed(BLANKS, BLANKS, BLANKS, BLANKS, BLANKS);
        } else if (change == 3) {
            reader.end(12);
            reader.add('T');
        } else {
            reader.end(0);
        }
    }

    /** The same behind those that did throw: there still are all. */
    private static void refusedChangesHideNothing() {
        SqlReader reader = Check.filled(MOST, "begin; commit;");
        reader.read();
        Check.noState("feed", () -> reader.feed(BLANKS, BLANKS, BLANKS, BLANKS, BLANKS));
        Check.same("edges behind a feed that threw", reader.edges(), 2);
        Check.same("statement(1) behind it", reader.statement(1), 1);
        Check.same("edge(1, true) behind it", reader.edge(1, true), MOST - 1);
        Check.noState("add", () -> reader.add(' '));
        Check.same("edges behind an add that threw", reader.edges(), 2);
        Check.same("statement(0) behind it", reader.statement(0), 1);
        Check.same("edge(0, false) behind it", reader.edge(0, false), MOST - 14);
        Check.noArgument("end(65537)", () -> reader.end(MOST + 1));
        Check.noArgument("end(-1)", () -> reader.end(-1));
        Check.same("edges behind ends that threw", reader.edges(), 2);
        Check.same("statement(1) behind them", reader.statement(1), 1);
        Check.same("edge(0, true) behind them", reader.edge(0, true), MOST - 9);
    }

    /** "The place of the first byte of STATEMENT i, or (end) the one behind its last TOKEN." */
    private static void edgesOfEach() {
        SqlReader reader = Check.of(" begin -- a\n;; select 'x;' ;--;\n commit");
        Check.same("read", reader.read(), 3);
        Check.same("edges", reader.edges(), 3);
        int[] due = {1, 6, 15, 26, 33, 39};
        for (int i = 0; i < 3; i++) {
            Check.same("start of " + i, reader.edge(i, false), due[2 * i]);
            Check.same("end of " + i, reader.edge(i, true), due[2 * i + 1]);
        }
        reader.statement(0);
        Check.same("end of 2 behind statement(0)", reader.edge(2, true), 39);
        Check.same("edges behind statement(0)", reader.edges(), 3);
        SqlReader open = Check.of("begin  \n-- end");
        open.read();
        Check.same("start of a statement at 0", open.edge(0, false), 0);
        Check.same("end before blanks and a comment", open.edge(0, true), 5);
    }

    /** "IndexOutOfBoundsException as by statement." */
    private static void edgeThatIsNone() {
        SqlReader reader = Check.of("begin;commit");
        Check.noIndex("edge(0, false) before a read", () -> reader.edge(0, false));
        reader.read();
        reader.statement(0);
        String before = Check.state(reader);
        Check.same("the last that there is", reader.edge(1, true), 12);
        int[] wrong = {-1, -2, 2, 3, 64, MOST, Integer.MIN_VALUE, Integer.MAX_VALUE};
        for (int i : wrong) {
            Check.noIndex("edge(" + i + ", false) of two", () -> reader.edge(i, false));
            Check.noIndex("edge(" + i + ", true) of two", () -> reader.edge(i, true));
        }
        Check.same("all behind edges that threw", Check.state(reader), before);
        SqlReader empty = Check.of(";");
        empty.read();
        Check.noIndex("edge(0, false) of none", () -> empty.edge(0, false));
        Check.noIndex("edge(0, true) of none", () -> empty.edge(0, true));
    }

    private static void readAgain() {
        SqlReader reader = Check.of("begin; comit");
        Check.noArgument("read", () -> reader.read());
        Check.same("where", reader.where(), 7);
        reader.end(7);
        Check.put(reader, "commit;release x");
        Check.same("read of the mended text", reader.read(), 3);
        Check.same("where of it", reader.where(), -1);
        Check.same("statement 2 of it", Check.tree(reader, 2), "24@14(39@22#1)");
        Check.same("read once more", reader.read(), 3);
        Check.same("statement 1 of it", Check.tree(reader, 1), "21@7");
    }

    /** "An object is used for at most 512 calls": the last of them answers as the first did. */
    private static void refusedAgainAndAgain() {
        SqlReader reader = new SqlReader();
        String text = "select a or b and not c = d + e * f || -";
        for (int i = 0; i < text.length(); i++) {
            reader.add(text.charAt(i));
        }
        for (int i = 0; i < 120; i++) {
            Check.noArgument("read " + i, () -> reader.read());
            Check.same("where of read " + i, reader.where(), 40);
        }
        reader.add('g');
        Check.same("read of the whole text", reader.read(), 1);
        for (int i = 282; i < 511; i++) {
            Check.same("statement, call " + i, reader.statement(0), 27);
        }
        Check.same("the 512th call", reader.node(26, 2), 40);
    }

    private static void manyStatements() {
        SqlReader reader = Check.of(Check.times("begin;", 10922) + "begi");
        Check.noArgument("read", () -> reader.read());
        Check.same("where", reader.where(), 65532);
        reader.end(65532);
        Check.same("read of many", reader.read(), 10922);
        Check.same("edges of many", reader.edges(), 10922);
        Check.same("start of the last", reader.edge(10921, false), 65526);
        Check.same("end of the last", reader.edge(10921, true), 65531);
        Check.same("tree of the last", Check.tree(reader, 10921), "20@65526");
        Check.noIndex("statement behind the last", () -> reader.statement(10922));
        Check.noIndex("edge behind the last", () -> reader.edge(10922, false));
        int[] around = {63, 64, 65, 127, 128, 129};
        for (int i : around) {
            Check.same("start of " + i, reader.edge(i, false), 6 * i);
            Check.same("end of " + i, reader.edge(i, true), 6 * i + 5);
        }
    }
}
