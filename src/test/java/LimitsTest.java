/**
 * How much may be open, and how many TOKENS a STATEMENT may have: the limits behind promises 6 and 7. Above a test:
 * the words it is for.
 */
public final class LimitsTest {
    private static final int MOST_OPEN = 30;

    /** What is one TOKEN in the STATEMENTS below. */
    private static final String TOKEN = " *([a-z]+|[0-9]|[-+,=()]) *";

    /** STATEMENTS of 1024 TOKENS. */
    private static final String[] MOST_TOKENS = {
        "select " + Check.times("1,", 511) + "1",
        "select a" + Check.times("+b", 511),
        "select distinct " + Check.times("f(a),", 203) + "f(-a) as b",
        "insert into t values (" + Check.times("1,", 508) + "-1)",
        "create table t (a integer" + Check.times(" not null", 508) + " unique)",
        "create index i on t (a" + Check.times(",b", 508) + ")",
        "update t set a=1" + Check.times(",b=2", 253) + ",c=(1)",
        "delete from t where " + Check.times("a and ", 509) + "-b"};

    public static void main(String[] args) {
        brackets();
        cases();
        nots();
        minuses();
        mixedOpens();
        bracketsOfEachRule();
        queriesThatOpen();
        bracketsEnd();
        casesEnd();
        notsEnd();
        minusesEnd();
        whatDoesNotOpen();
        whereOfOpenEnd();
        openIsOfOneStatement();
        deepQueries();
        mostTokens();
        oneTokenMore();
        lastTokenIsMissing();
        whatIsNoToken();
        tokensOfEachStatement();
        Check.finish();
    }

    /** So many open and all closed again is good; one more is refused at the TOKEN that opens it. */
    private static void atLimit(String before, String opening, String middle, String closing, int open, String end) {
        String least = before + Check.times(opening, open);
        Check.good(least + middle + Check.times(closing, open) + end, 1);
        Check.refused(least + opening + middle + Check.times(closing, open + 1) + end,
                least.length() + tokenPlace(opening));
    }

    /** Where in an opening text the TOKEN stands that is open: the last of its brackets, or its first word. */
    private static int tokenPlace(String opening) {
        return Math.max(opening.lastIndexOf('('), 0);
    }

    private static void atMost(String before, String opening, String middle, String closing) {
        atLimit(before, opening, middle, closing, MOST_OPEN, "");
    }

    /** An EXPR in so many brackets. */
    private static String inside(int brackets, String expression) {
        return "select " + Check.times("(", brackets) + expression + Check.times(")", brackets);
    }

    /** "A ( is open till its ) ...: with 30 open one more is a TOKEN with which nothing goes on." */
    private static void brackets() {
        atMost("select ", "(", "1", ")");
        atMost("delete from t where ", "(", "1", ")");
        atMost("update t set a = ", "(", "1", ")");
        atLimit("select (", "(", "1", ")", 29, ")");
        atLimit("insert into t values (", "(", "1", ")", 29, ")");
        atLimit("insert into t (a, b) values (1), (", "(", "1", ")", 29, ")");
        atLimit("create table t (check (", "(", "1", ")", 28, "))");
        atLimit("create table t (a text check (", "(", "1", ")", 28, "))");
        atLimit("create view v (a) as select ", "(", "1", ")", 30, "");
        atLimit("with a (b) as (select 1) select ", "(", "1", ")", 30, "");
        atLimit("select case ", "(", "1", ")", 29, " when 1 then 2 end");
    }

    /** "a case till its end" */
    private static void cases() {
        atMost("select ", "case when ", "1", " then 2 end");
        atMost("select ", "case ", "1", " when 1 then 2 end");
        atMost("select ", "case when 1 then ", "1", " end");
        atMost("select ", "case when 1 then 2 else ", "1", " end");
        atMost("select ", "case 1 when 2 then 3 when ", "1", " then 2 end");
    }

    /** "a not (of NOT) ... till the NOT ... behind it ends" */
    private static void nots() {
        atMost("select ", "not ", "1", "");
        atMost("select a and ", "not ", "1", "");
        atMost("delete from t where a or ", "not\n", "1", "");
    }

    /** "a - (of SIGNED) till the ... SIGNED behind it ends" */
    private static void minuses() {
        atMost("select ", "- ", "1", "");
        atMost("select a + ", "-\n", "1", "");
        atMost("select a - ", "- ", "1", "");
        atMost("select a || ", "- ", "1", "");
        atMost("select a between b and ", "- ", "1", "");
    }

    /** Of all kinds together 30. */
    private static void mixedOpens() {
        atLimit("select " + Check.times("not ", 15), "- ", "1", "", 15, "");
        atLimit("select " + Check.times("not (", 15), "- ", "1", "", 0, Check.times(")", 15));
        atLimit("select " + Check.times("not - (", 10), "(", "1", ")", 0, Check.times(")", 10));
        atLimit("select " + Check.times("case when not (", 10), "- ", "1", "", 0, Check.times(") then 2 end", 10));
        Check.bad(inside(29, "not ^(b)"));
        Check.bad(inside(29, "- ^(b)"));
        Check.bad(inside(29, "not ^- b"));
        Check.bad(inside(29, "not ^not b"));
        Check.bad(inside(29, "- ^- b"));
        Check.bad(inside(29, "not f^(b)"));
        Check.bad(inside(29, "not exists ^(select 1)"));
        Check.bad(inside(29, "not ^case when 1 then 2 end"));
        Check.bad(inside(29, "case when ^(1) then 2 end"));
        Check.bad(inside(28, "not a in (^(1))"));
        Check.good(inside(28, "not exists (select 1)"), 1);
        Check.good(inside(28, "not - b"), 1);
        Check.good(inside(28, "- f(1)"), 1);
    }

    /** "A ( is open till its )": each rule that has one. */
    private static void bracketsOfEachRule() {
        atMost("select ", "f(", "", ")");
        atMost("select ", "f(1, 2, ", "3", ")");
        atMost("select ", "count(", "1", ")");
        atMost("select ", "count(distinct ", "1", ")");
        atMost("select ", "max(", "1", ")");
        atMost("select ", "group_concat(", "1", ")");
        atMost("select ", "replace(", "1", ", 2, 3)");
        atMost("select ", "replace(1, 2, ", "3", ")");
        atMost("select ", "cast(", "1", " as text)");
        atMost("select ", "a in (", "1", ")");
        atMost("select ", "a not in (1, ", "2", ")");
        Check.good(inside(29, "count(*)"), 1);
        Check.bad(inside(30, "count^(*)"));
        Check.bad(inside(30, "f^()"));
        Check.bad(inside(30, "a in ^(1)"));
        Check.bad(inside(30, "a not in ^(1)"));
    }

    /** The same for those with a QUERY, and for NAMES in brackets. */
    private static void queriesThatOpen() {
        atMost("select ", "exists (select ", "1", ")");
        atMost("select ", "(select ", "1", ")");
        atMost("select ", "a in (select ", "1", ")");
        atMost("select ", "a not in (select ", "1", ")");
        atMost("select ", "* from (select ", "1", ") a");
        atMost("select 1 from t join ", "(select 1 from ", "u", ") a");
        atMost("", "with a as (", "select 1", ") select 2");
        atMost("insert into t (a) ", "with a as (", "select 1", ") select 2");
        String deep = Check.times("with a as (", 29);
        Check.good(deep + "with b (c) as (select 1) select 2" + Check.times(") select 3", 29), 1);
        Check.bad("with a as (" + deep + "with b ^(c) as (select 1) select 2");
        Check.bad("with a as (" + deep + "with b as ^(select 1) select 2");
    }

    /** "A ( is open till its )": no longer. */
    private static void bracketsEnd() {
        Check.good("select " + Check.times("(1) + ", 200) + "(1)", 1);
        Check.good("select " + Check.times("f(1), ", 150) + "f(1)", 1);
        Check.good(inside(29, "(1) + f() * count(*) || (select 1)"), 1);
        Check.good(inside(29, "a in (1) and b in (select 2) or exists (select 3)"), 1);
        Check.good("insert into t values " + Check.times("((1)), ", 100) + "(2)", 1);
        Check.good("select " + Check.times("(", 30) + "1" + Check.times(")", 15) + " + " + Check.times("(", 15) + "1"
                + Check.times(")", 30), 1);
        Check.refused("select " + Check.times("(", 30) + "1" + Check.times(")", 15) + " + " + Check.times("(", 16),
                7 + 30 + 1 + 15 + 3 + 15);
        Check.good("create table t (" + Check.times("check (1), ", 100) + "unique (a), primary key (b))", 1);
    }

    /** "a case till its end": no longer. */
    private static void casesEnd() {
        String one = "case when 1 then 2 end";
        Check.good("select " + Check.times(one + ", ", 100) + one, 1);
        Check.good(inside(29, one + " + " + one + " = " + one), 1);
        Check.bad(inside(30, "^" + one));
    }

    /** "a not (of NOT) ... till the NOT ... behind it ends": no longer, and no shorter. */
    private static void notsEnd() {
        Check.good("select " + Check.times("not a and ", 200) + "not b", 1);
        Check.good("select " + Check.times("not a, ", 200) + "not b", 1);
        Check.good(inside(29, "not a and not b"), 1);
        Check.good(inside(29, "not a or not b = c"), 1);
        Check.good(inside(29, "not a is null and (b)"), 1);
        Check.good(inside(29, "not a like 1 or (b)"), 1);
        Check.good(inside(28, "f(not a, not b, (c))"), 1);
        Check.bad(inside(29, "not a = ^(b)"));
        Check.bad(inside(29, "not a + ^(b)"));
        Check.bad(inside(29, "not a in ^(b)"));
        Check.bad(inside(29, "not a like ^(b)"));
        Check.bad(inside(29, "not a between ^(b) and c"));
        Check.bad(inside(29, "not a between b and ^-c"));
        Check.bad(inside(30, "^not a"));
    }

    /** "a - (of SIGNED) till the ... SIGNED behind it ends": no longer, and no shorter. */
    private static void minusesEnd() {
        Check.good("select " + Check.times("- a + ", 200) + "- b", 1);
        Check.good("select " + Check.times("- a, ", 200) + "- b", 1);
        Check.good(inside(29, "-a + -b * -c || -d"), 1);
        Check.good(inside(29, "-a + (b)"), 1);
        Check.good(inside(29, "-a || (b)"), 1);
        Check.good(inside(29, "-a in (b)"), 1);
        Check.good(inside(29, "-a = -b"), 1);
        Check.good(inside(29, "-a between -b and -c"), 1);
        Check.good(inside(29, "-a is not null"), 1);
        Check.good(inside(27, "f(-a, -b, - - c)"), 1);
        Check.bad(inside(28, "f(-a, -b, - ^- c)"));
        Check.bad(inside(29, "- ^(a)"));
        Check.bad(inside(29, "- f^(a)"));
        Check.bad(inside(30, "^-a"));
        String many = Check.times("not not - - (1) + f(-1) and ", 40) + "1";
        Check.good("select " + many, 1);
        Check.good(inside(25, many), 1);
        Check.bad("select " + Check.times("(", 26) + "not not - - ^(1)");
    }

    /** A not that is not of NOT and a - that is not of SIGNED do not open. */
    private static void whatDoesNotOpen() {
        Check.good(inside(30, "a is not null"), 1);
        Check.good(inside(30, "a not like b"), 1);
        Check.good(inside(30, "a not between b and c"), 1);
        Check.good(inside(29, "a not in (b)"), 1);
        Check.good(inside(30, "a - b - c"), 1);
        Check.good("select " + Check.times("a is not null and ", 200) + "1", 1);
        Check.good("create table if not exists t (a text " + Check.times("not null default -1 ", 200) + ")", 1);
        Check.good("create table t (a real default -1, b text check (" + Check.times("(", 28) + "1"
                + Check.times(")", 28) + ") default -1)", 1);
    }

    /** Where nothing more comes, the end is missing; where one more opens, it is told. */
    private static void whereOfOpenEnd() {
        String[] opening = {"(", "not ", "- ", "case ", "f(", "exists (select ", "a in ("};
        for (String one : opening) {
            String open = "select " + Check.times(one, 30);
            Check.refused(open, open.length());
            Check.refused(open + one, open.length() + tokenPlace(one));
            Check.refused(open + Check.times(one, 40), open.length() + tokenPlace(one));
        }
    }

    /** Each STATEMENT and each read begins with nothing open. */
    private static void openIsOfOneStatement() {
        String deep = inside(30, "1");
        Check.good(deep + ";" + deep + ";" + deep, 3);
        Check.good("select " + Check.times("not ", 30) + "1;" + deep, 2);
        SqlReader reader = Check.of("select " + Check.times("(", 31));
        Check.noArgument("read of 31 open", () -> reader.read());
        Check.same("where of it", reader.where(), 37);
        reader.end(37);
        Check.put(reader, "1" + Check.times(")", 30));
        Check.same("read of 30 open", reader.read(), 1);
        Check.same("nodes of it", reader.statement(0), 4);
        Check.same("place of its number", reader.node(3, 2), 7);
        Check.same("own place of its number", reader.node(3, 3), 37);
    }

    private static void deepQueries() {
        String in = "a in (select b from c join d on ";
        Check.good("select " + Check.times(in, 30) + "1" + Check.times(")", 30), 1);
        Check.refused("select " + Check.times(in, 31), 7 + 30 * in.length() + 5);
        String all = "1 or 2 and 3 = 4 + 5 * 6 || ";
        String deep = "select " + Check.times(all + "(", 30) + all + "7" + Check.times(")", 30);
        Check.good(deep, 1);
        SqlReader reader = Check.of("begin;" + deep);
        reader.read();
        Check.same("nodes of all levels in all brackets", reader.statement(1), 3 + 31 * 14 + 1);
    }

    /** "so is the 1025th TOKEN of a STATEMENT": the 1024th is not. */
    private static void mostTokens() {
        for (String most : MOST_TOKENS) {
            Check.same("how many tokens a long statement has", most.replaceAll(TOKEN, "#").length(), 1024);
            Check.good(most, 1);
            Check.good(most + ";", 1);
            Check.good(most + " -- more\n", 1);
        }
    }

    /** "so is the 1025th TOKEN of a STATEMENT": whatever it is. */
    private static void oneTokenMore() {
        String[] more = {"a", ",1", ")", "'open", "!", "+ 1", "from t", "12345678901234567890", "(", "order by 1"};
        for (String most : MOST_TOKENS) {
            for (String token : more) {
                Check.bad(most + "\n^" + token);
                Check.bad("begin;" + most + "\n^" + token + "; begin");
            }
        }
        Check.bad("select " + Check.times("1,", 511) + "(^1)");
        Check.bad("create table t (a integer" + Check.times(" not null", 508) + " unique unique ^)");
        Check.bad("insert into t values (" + Check.times("1,", 508) + "- -1^)");
        Check.bad("select " + Check.times("1,", 300) + "^, " + Check.times("1,", 300));
    }

    /** Where the 1024 TOKENS are no whole STATEMENT, the end or the ; behind them is told. */
    private static void lastTokenIsMissing() {
        Check.bad("select " + Check.times("1,", 511) + "(^");
        Check.bad("select " + Check.times("1,", 511) + "( -- end\n^");
        Check.bad("select " + Check.times("1,", 511) + "(^; begin");
        Check.bad("insert into t values (" + Check.times("1,", 508) + "- -1^");
        Check.bad("insert into t values (" + Check.times("1,", 508) + "- -1^;");
    }

    /** Blanks and comments are no TOKENS. */
    private static void whatIsNoToken() {
        Check.good("select " + Check.times("1 --,\n,\n", 511) + "1 -- 1", 1);
        Check.bad("select " + Check.times("1 --,\n,\n", 511) + "1 -- 1\n^1");
    }

    /** "the 1025th TOKEN of a STATEMENT", not of THE TEXT. */
    private static void tokensOfEachStatement() {
        String most = MOST_TOKENS[0];
        Check.good(most + ";" + most + "; -- more\n" + most + ";begin", 4);
        Check.good(Check.times("select 1,2,3;", 500), 500);
        Check.good(Check.times(";", 3000) + most + Check.times(";", 3000), 1);
        Check.bad(most + ";" + most + " ^a");
    }
}
