/** "[ ] is once or not, { } any number of times": each such place of the GRAMMAR (promises 6 to 8). */
public final class RepeatsTest {
    public static void main(String[] args) {
        optionsOfCreate();
        optionsOfChanges();
        optionsOfQueries();
        optionsOfSources();
        optionsOfExpressions();
        repeatsOfStatements();
        repeatsOfQueries();
        repeatsOfExpressions();
        Check.finish();
    }

    /** Good without what is between the two ^, and with it; refused at the second if it stands there twice. */
    private static void once(String... marked) {
        for (String text : marked) {
            int from = text.indexOf('^');
            int to = text.lastIndexOf('^');
            String before = text.substring(0, from);
            String option = text.substring(from + 1, to);
            String behind = text.substring(to + 1);
            Check.good(before + behind, 1);
            Check.good(before + option + behind, 1);
            Check.refused(before + option + option + behind, to - 1);
        }
    }

    /** The same where it stands once in any case: refused without it, at the TOKEN that follows. */
    private static void exactlyOnce(String... marked) {
        for (String text : marked) {
            int from = text.indexOf('^');
            int to = text.lastIndexOf('^');
            String before = text.substring(0, from);
            String needed = text.substring(from + 1, to);
            String behind = text.substring(to + 1);
            Check.refused(before + behind, from);
            Check.good(before + needed + behind, 1);
            Check.refused(before + needed + needed + behind, to - 1);
        }
    }

    private static void optionsOfCreate() {
        once("create table ^if not exists ^t (a text)", "create ^unique ^index i on t (a)",
                "create index ^if not exists ^i on t (a)", "create index i on t (a ^desc ^)",
                "create index i on t (a, b ^desc ^, c)", "create view ^if not exists ^v as select 1",
                "create view v ^(a, b) ^as select 1", "drop table ^if exists ^t", "drop index ^if exists ^i",
                "drop view ^if exists ^v");
        once("create table t (a text default ^- ^1)", "create table t (a text default ^- ^1.5)",
                "create table t (a text references u (b) ^on delete cascade ^)",
                "create table t (a text references u (b) ^on delete set null ^)",
                "create table t (a text references u (b) ^on delete restrict ^)");
        exactlyOnce("create table t (a ^text ^)", "create table t (a text references u ^(b) ^)",
                "create index i on t ^(a) ^", "create view v as ^select 1 ^");
    }

    private static void optionsOfChanges() {
        once("insert ^or ignore ^into t values (1)", "insert ^or replace ^into t values (1)",
                "insert into t ^(a) ^values (1)", "insert into t ^(a, b) ^select 1",
                "update t set a = 1 ^where b ^", "delete from t ^where b ^", "rollback ^to s ^");
        exactlyOnce("update t ^set ^a = 1", "delete ^from ^t", "insert ^into ^t values (1)", "savepoint ^s ^",
                "release ^s ^", "update t set a ^= ^1");
    }

    private static void optionsOfQueries() {
        once("^with a as (select 1) ^select 2", "with a ^(b) ^as (select 1) select 2",
                "select 1 ^order by a ^", "select 1 ^order by a ^limit 2", "select 1 ^limit 2 ^",
                "select 1 limit 2 ^offset 3 ^", "select 1 order by a ^asc ^", "select 1 order by a ^desc ^, b",
                "select ^distinct ^a", "select a ^from t ^", "select a ^from t ^where b", "select a ^where b ^",
                "select a ^where b ^group by c", "select a ^group by b ^", "select a ^group by b ^having c",
                "select a ^having b ^", "select a from t ^having b ^union select 2", "select a ^as b ^",
                "select 1 ^as b ^from t", "select t.a ^b ^from t", "select 1 union ^all ^select 2");
        exactlyOnce("select 1 order ^by ^a", "select 1 group ^by ^a", "select 1 limit ^2 ^");
    }

    private static void optionsOfSources() {
        once("select 1 from t ^as u ^", "select 1 from t ^u ^where a", "select 1 from t ^inner ^join u",
                "select 1 from t join u ^on a ^", "select 1 from t inner join u ^on a ^, v",
                "select 1 from t left ^outer ^join u on a", "select 1 from (select 1) ^as ^u",
                "select 1 from t, u ^as v ^");
        exactlyOnce("select 1 from (select 1) ^u ^", "select 1 from t left join u ^on a ^",
                "select 1 from t left outer join u v ^on a ^where b", "select 1 from t cross ^join ^u",
                "select 1 from t inner ^join ^u", "select 1 from t left ^join ^u on a");
    }

    private static void optionsOfExpressions() {
        once("select a is ^not ^null", "select a ^= b ^", "select a ^is null ^", "select a ^like b ^",
                "select a ^between b and c ^", "select a ^in (b) ^", "select a ^in (select 1) ^",
                "select a ^not like b ^", "select a ^not between b and c ^", "select a ^not in (b) ^",
                "select count(^distinct ^a)", "select sum(^distinct ^a)",
                "select case when a then b ^else c ^end", "select case ^'x' ^when b then c end",
                "select a^.b ^");
        Check.good("select a not like b, a not between b and c, a not in (d)", 1);
        Check.bad("select a not ^not like b");
        Check.bad("select a not ^not between b and c");
        Check.bad("select a not ^not in (d)");
        exactlyOnce("select case when a ^then b ^end", "select cast(a ^as text ^)", "select replace(a, b^, c ^)",
                "select count(^* ^)", "select exists (^select 1 ^)");
    }

    /** Good as often as it may stand there, each time with as many NODES more. */
    private static void often(String before, String repeated, String behind) {
        int first = nodes(before, repeated, behind, 1);
        int more = nodes(before, repeated, behind, 2) - first;
        int[] times = {3, 4, 50, 100};
        Check.same("nodes without " + repeated + " in " + before + behind,
                nodes(before, repeated, behind, 0) < first ? 1 : 0, 1);
        for (int count : times) {
            Check.same("nodes of " + before + repeated + behind + " with " + count,
                    nodes(before, repeated, behind, count), first + (count - 1) * more);
        }
    }

    private static int nodes(String before, String repeated, String behind, int times) {
        String text = before + Check.times(repeated, times) + behind;
        SqlReader reader = Check.of(text);
        try {
            return reader.read() == 1 ? reader.statement(0) : -1;
        } catch (IllegalArgumentException e) {
            Check.same("read of " + text + " refused", reader.where(), -1);
            return 0;
        }
    }

    private static void repeatsOfStatements() {
        often("create table t (a text", ", b real", ")");
        often("create table t (a text", ", unique (b)", ", check (c))");
        often("create table t (a text", " not null", ")");
        often("create table t (a text", " check (b)", " unique)");
        often("create table t (primary key (a", ", b", "))");
        often("create table t (unique (a", ", b", "))");
        often("create index i on t (a", ", b desc", ")");
        often("create view v (a", ", b", ") as select 1");
        often("insert into t (a", ", b", ") values (1)");
        often("insert into t values (1", ", 2", ")");
        often("insert into t values (1)", ", (2)", "");
        often("update t set a = 1", ", b = 2", " where c");
        for (int count = 0; count < 100; count++) {
            Check.good(Check.times("begin; ;", count), count);
        }
    }

    private static void repeatsOfQueries() {
        often("with a as (select 1)", ", b as (select 2)", " select 3");
        often("with a (b", ", c", ") as (select 1) select 2");
        often("select 1", " union select 2", "");
        often("select 1", " union all select 2", " limit 1");
        often("select 1", " intersect select 2", "");
        often("select 1", " except select 2", " order by 1");
        often("select 1 order by a", ", b desc", "");
        often("select a", ", b", " from t");
        often("select *", ", t.*", "");
        often("select 1 from a", ", b", "");
        often("select 1 from a", " cross join b", " where c");
        often("select 1 from a", " join b", "");
        often("select 1 from a", " left join b on c", "");
        often("select 1 group by a", ", b", " having c");
    }

    private static void repeatsOfExpressions() {
        often("select a", " or b", "");
        often("select a", " and b", "");
        often("select a", " + b", "");
        often("select a", " - b", " = c");
        often("select a", " * b", "");
        often("select a", " / b", " + c");
        often("select a", " % b", "");
        often("select a", " || b", "");
        often("select f(a", ", b", ")");
        often("select case when a then b", " when c then d", " end");
        often("select a in (b", ", c", ")");
        often("select a not in (b", ", c", ") or d");
    }
}
