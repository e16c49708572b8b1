/** How much may be open, and how many TOKENS a STATEMENT may have: the limits behind promises 6 and 7. */
public final class LimitsTest {
    public static void main(String[] args) {
        brackets();
        casesAndPrefixes();
        everythingThatOpens();
        endsWhatWasOpen();
        deepQueries();
        longStatements();
        Check.finish();
    }

    /** So many open and all closed again is good; one more is refused at the TOKEN that opens it. */
    private static void atLimit(String before, String opening, String middle, String closing, int open) {
        String least = before + Check.times(opening, open);
        Check.good(least + middle + Check.times(closing, open), 1);
        Check.refused(least + opening + middle + Check.times(closing, open + 1), least.length() + tokenPlace(opening));
    }

    /** Where in an opening text the TOKEN stands that is open: the last of its brackets, or its first word. */
    private static int tokenPlace(String opening) {
        return Math.max(opening.lastIndexOf('('), 0);
    }

    private static void brackets() {
        atLimit("select ", "(", "1", ")", 30);
        atLimit("delete from t where ", "(", "1", ")", 30);
        atLimit("select (", "(", "1", ")", 29, ")");
        atLimit("create table t (check (", "(", "1", ")", 28, "))");
        atLimit("create table t (a text check (", "(", "1", ")", 28, "))");
        atLimit("insert into t values (", "(", "1", ")", 29, ")");
        atLimit("insert into t (a, b) values (1), (", "(", "1", ")", 29, ")");
        atLimit("with a (b) as (select 1) select ", "(", "1", ")", 30, "");
        atLimit("select case ", "(", "1", ")", 29, " when 1 then 2 end");
    }

    private static void atLimit(String before, String opening, String middle, String closing, int open, String end) {
        String least = before + Check.times(opening, open);
        Check.good(least + middle + Check.times(closing, open) + end, 1);
        Check.refused(least + opening + middle + Check.times(closing, open + 1) + end,
                least.length() + tokenPlace(opening));
    }

    private static void casesAndPrefixes() {
        atLimit("select ", "not ", "1", "", 30);
        atLimit("select ", "- ", "1", "", 30);
        atLimit("select a + ", "-\n", "1", "", 30);
        atLimit("select ", "case when ", "1", " then 2 end", 30);
        atLimit("select ", "case ", "1", " when 1 then 2 end", 30);
        atLimit("select ", "case when 1 then 2 else ", "1", " end", 30, "");
        atLimit("select " + Check.times("not ", 15), "- ", "1", "", 15);
        atLimit("select " + Check.times("not (", 15), "- ", "1", "", 0, Check.times(")", 15));
    }

    private static void everythingThatOpens() {
        atLimit("select ", "f(", "", ")", 30);
        atLimit("select ", "f(1, 2, ", "3", ")", 30);
        atLimit("select ", "count(", "1", ")", 30);
        atLimit("select ", "max(", "1", ")", 30);
        atLimit("select ", "replace(", "1", ", 2, 3)", 30);
        atLimit("select ", "cast(", "1", " as text)", 30);
        atLimit("select ", "exists (select ", "1", ")", 30);
        atLimit("select ", "(select ", "1", ")", 30);
        atLimit("select ", "a in (", "1", ")", 30);
        atLimit("select ", "a not in (select ", "1", ")", 30);
        atLimit("select ", "* from (select ", "1", ") a", 30);
        atLimit("", "with a as (", "select 1", ") select 2", 30);
        Check.bad("select " + Check.times("(", 30) + "count^(*)" + Check.times(")", 30));
        Check.bad(Check.times("with a as (", 30) + "with b ^(c) as (select 1) select 2"
                + Check.times(") select 3", 30));
        Check.bad("select " + Check.times("(", 29) + "a in (f^(1))" + Check.times(")", 29));
        Check.good("select " + Check.times("(", 29) + "a in (1)" + Check.times(")", 29), 1);
    }

    private static void endsWhatWasOpen() {
        String many = Check.times("not not - - (1) + f(-1) and ", 40) + "1";
        Check.good("select " + many, 1);
        Check.good("select " + Check.times("(", 25) + many + Check.times(")", 25), 1);
        Check.bad("select " + Check.times("(", 26) + "not not - - ^(1)");
        Check.good("select " + Check.times("(", 29) + "not a and not b" + Check.times(")", 29), 1);
        Check.good("select " + Check.times("(", 29) + "not a or not b = c" + Check.times(")", 29), 1);
        Check.good("select " + Check.times("(", 29) + "-a + -b * -c || -d" + Check.times(")", 29), 1);
        Check.good("select " + Check.times("(", 29) + "-a = -b" + Check.times(")", 29), 1);
        Check.good("select " + Check.times("(", 29) + "-a between -b and -c" + Check.times(")", 29), 1);
        Check.good("select " + Check.times("(", 29) + "-a is not null" + Check.times(")", 29), 1);
        Check.good("select " + Check.times("(", 30) + "a is not null" + Check.times(")", 30), 1);
        Check.good("select " + Check.times("(", 30) + "a not like b" + Check.times(")", 30), 1);
        Check.good("select " + Check.times("(", 30) + "a not between b and c" + Check.times(")", 30), 1);
        Check.good("select f(" + Check.times("(", 28) + "-a" + Check.times(")", 28) + ", -b, - - c)", 1);
        Check.bad("select " + Check.times("(", 29) + "not a = ^(b)" + Check.times(")", 29));
        Check.bad("select " + Check.times("(", 29) + "not a between b and ^-c" + Check.times(")", 29));
        Check.bad("select " + Check.times("(", 29) + "- ^-a" + Check.times(")", 29));
        Check.bad("select " + Check.times("(", 30) + "^case when 1 then 2 end" + Check.times(")", 30));
        Check.bad("select " + Check.times("(", 30) + "^not a" + Check.times(")", 30));
        Check.good("create table t (a real default -1, b text check (" + Check.times("(", 28) + "1"
                + Check.times(")", 28) + ") default -1)", 1);
    }

    private static void deepQueries() {
        String in = "a in (select b from c join d on ";
        Check.good("select " + Check.times(in, 30) + "1" + Check.times(")", 30), 1);
        Check.refused("select " + Check.times(in, 31), 7 + 30 * in.length() + 5);
        String all = "1 or 2 and 3 = 4 + 5 * 6 || ";
        String deep = "select " + Check.times(all + "(", 30) + all + "7" + Check.times(")", 30);
        Check.good(deep, 1);
        SqlReader reader = Check.of("begin;" + deep);
        reader.read();
        Check.same("nodes of all levels in all brackets", reader.statement(1), 3 + 31 * 14 + 1);
    }

    private static void longStatements() {
        String most = "select " + Check.times("1,", 511) + "1";
        Check.good(most, 1);
        Check.good(most + ";", 1);
        Check.good(most + "; -- more\n" + most + ";begin", 3);
        Check.bad(most + " ^a");
        Check.bad(most + "^,1");
        Check.bad(most + "\n^)");
        Check.bad(most + " ^'open");
        Check.bad("begin;" + most + " ^a; begin");
        Check.bad("select " + Check.times("1,", 511) + "^");
        Check.bad("select " + Check.times("1,", 300) + "^, " + Check.times("1,", 300));
        Check.bad("select a" + Check.times("+b", 511) + "^+c");
        Check.bad("create table t (a integer" + Check.times(" not null", 508) + " unique unique ^)");
        Check.good("create table t (a integer" + Check.times(" not null", 508) + " unique)", 1);
        Check.good(Check.times("select 1,2,3;", 500), 500);
    }
}
