/** The TOKEN with which nothing goes on, in each rule of the GRAMMAR: promises 6 and 7. */
public final class WhereTest {
    public static void main(String[] args) {
        statements();
        tables();
        indexesAndViews();
        changes();
        queries();
        cores();
        sources();
        atoms();
        operators();
        tests();
        Check.finish();
    }

    private static void bad(String... marked) {
        for (String text : marked) {
            Check.bad(text);
        }
    }

    private static void statements() {
        bad("^a", "^1", "^(", "^(select 1)", "^values (1)", "^where", "^table t", "^end", "^not", "^*", "^'x'");
        bad("begin ^begin", "begin ^a", "begin ^1", "commit ^(", "begin; ;^, commit");
        bad("rollback ^s", "rollback to^", "rollback to ^1", "rollback to ^to", "rollback to s ^t", "rollback ^to2");
        bad("savepoint^", "savepoint ^;", "savepoint ^'s'", "savepoint s ^s", "release^", "release ^*",
                "release s ^.");
        bad("begin; commit; ^x", "begin; select^", "begin ; select ^; commit", ";;; ^, ;", "begin ^commit; !");
    }

    private static void tables() {
        bad("create^", "create ^t", "create ^;", "create ^drop", "create ^unique2", "create ^if not exists t");
        bad("create table^", "create table ^(", "create table if2 ^if", "create table if^",
                "create table if ^exists t", "create table if not^", "create table if not ^t",
                "create table if not exists^");
        bad("create table t^", "create table t ^as select 1", "create table t (^", "create table t (^)",
                "create table t (^,", "create table t (a^", "create table t (a^)", "create table t (a ^b",
                "create table t (a ^integers)", "create table t (a integer^");
        bad("create table t (a integer,^", "create table t (a integer,^)", "create table t (a integer ^real)",
                "create table t (a integer)^)", "create table t (a integer) ^b",
                "create table t (a integer ^b integer)");
        bad("create table t (a integer not^", "create table t (a integer not ^unique)",
                "create table t (a integer ^null)", "create table t (a integer primary^)",
                "create table t (a integer primary ^unique)", "create table t (a integer ^key)",
                "create table t (a integer unique ^(a))", "create table t (a integer primary key ^(a))");
        bad("create table t (a integer default^)", "create table t (a integer default ^a)",
                "create table t (a integer default -^)", "create table t (a integer default - ^-1)",
                "create table t (a integer default -^'x')", "create table t (a integer default -^null)",
                "create table t (a integer default ^(1))", "create table t (a integer default 1 ^+ 1)",
                "create table t (a integer default 1 ^2)", "create table t (a integer default ^+1)");
        bad("create table t (a integer check ^a)", "create table t (a integer check (^))",
                "create table t (a integer check (a^", "create table t (a integer check (a^, b))",
                "create table t (a integer check (^select 1))", "create table t (check^)",
                "create table t (check (a)^", "create table t (check (a) ^not null)");
        bad("create table t (a text references^)", "create table t (a text references u^)",
                "create table t (a text references u (^))", "create table t (a text references u (b^, c))",
                "create table t (a text references u (b) on^)", "create table t (a text references u (b) on ^update)",
                "create table t (a text references u (b) on delete^)",
                "create table t (a text references u (b) on delete set^)",
                "create table t (a text references u (b) on delete ^null)",
                "create table t (a text references u (b) on delete set ^default)",
                "create table t (a text references u (b) on delete cascade ^on delete cascade)");
        bad("create table t (primary^", "create table t (primary ^(a))", "create table t (primary key ^a)",
                "create table t (primary key (^))", "create table t (primary key (a,^))",
                "create table t (primary key (a ^b))", "create table t (primary key (a) ^unique (b))",
                "create table t (unique ^a)", "create table t (unique (^1))", "create table t (unique^)",
                "create table t (^not null)", "create table t (^references u (a))", "create table t (^default 1)",
                "create table t (primary key (a ^desc))", "create table t (unique (a)^");
    }

    private static void indexesAndViews() {
        bad("create unique^", "create unique ^table", "create unique ^view", "create unique ^unique", "create index^",
                "create index ^on", "create index if not exists^", "create index i^", "create index i ^(a)",
                "create index i on^", "create index i on t^", "create index i on t ^a", "create index i on t (^)",
                "create index i on t (a ^asc)", "create index i on t (a desc ^desc)", "create index i on t (a ^b)",
                "create index i on t (a, ^)", "create index i on t (^1)", "create index i on t (a ^+ 1)",
                "create index i on t (a)^)", "create index i on t (a) ^where b");
        bad("create view^", "create view ^1", "create view v^", "create view v ^select 1",
                "create view v (^) as select 1", "create view v (a ^as", "create view v (a,^) as",
                "create view v (a) ^select 1", "create view v as^", "create view v as ^values (1)",
                "create view v as ^(select 1)", "create view v as select 1 ^(", "create view if^",
                "create view v (a ^desc)");
        bad("drop^", "drop ^t", "drop ^unique", "drop ^savepoint", "drop table^", "drop table if^",
                "drop table if ^not exists t", "drop view if exists^", "drop index ^on", "drop table t^, u",
                "drop table t ^u", "drop table ^'t'");
    }

    private static void changes() {
        bad("insert^", "insert ^t", "insert or^", "insert or ^into t", "insert or ^update", "insert or ignore^",
                "insert or replace ^t", "insert into^", "insert into ^(a)", "insert into t^", "insert into t ^a",
                "insert into t (^)", "insert into t (a^", "insert into t (a, ^)", "insert into t (^select 1)",
                "insert into t (a) ^(select 1)", "insert into t (a)^", "insert into t ^default",
                "insert into t (a) ^(b)");
        bad("insert into t values^", "insert into t values ^1", "insert into t values (^)",
                "insert into t values (1^", "insert into t values (1,^)", "insert into t values (1) ^(2)",
                "insert into t values (1),^", "insert into t values (1), ^2", "insert into t values (1 ^as a)",
                "insert into t values (1) ^select 1", "insert into t values (^*)", "insert into t values (^default)",
                "insert into t values (^select 1)", "insert into t with a as (select 1) ^values (1)");
        bad("update^", "update t^", "update ^set", "update t ^u set", "update t set^", "update t set ^1",
                "update t set a^", "update t set a ^1", "update t set a =^", "update t set a = 1,^",
                "update t set a = 1 ^b = 2", "update t set a ^.b = 1", "update t set a = 1 where^",
                "update t set a = 1 where b ^, c", "update t set a = b = c ^= d", "update t set ^(a) = 1",
                "update t set a = 1 ^order by b", "update t set a ^> 1");
        bad("delete^", "delete ^t", "delete from^", "delete from ^(t)", "delete from t ^u", "delete from t where^",
                "delete from t where a ^where b", "delete from t ^, u", "delete from t ^limit 1",
                "delete from t where ^*");
    }

    private static void queries() {
        bad("with^", "with ^select", "with a^", "with a (^select 1)", "with a as^", "with a as ^select 1",
                "with a as (^)", "with a as (^a)", "with a as (select 1^", "with a as (select 1)^",
                "with a as (select 1),^", "with a as (select 1), ^select 2",
                "with a as (select 1) ^insert into t values (1)", "with a (b) ^select", "with a (^) as",
                "with a (b) ^(select 1)", "with a as (select 1) ^b",
                "with a as (select 1) ^with b as (select 2) select 3");
        bad("select 1 union^", "select 1 union ^distinct select 2", "select 1 union all^",
                "select 1 union ^(select 2)", "select 1 union all ^all select 2", "select 1 intersect ^all select 2",
                "select 1 except ^all select 2", "select 1 union ^with a as (select 1) select 2",
                "select 1 union ^values (1)", "select 1 except ^except select 2");
        bad("select 1 order^", "select 1 order ^1", "select 1 order by^", "select 1 order by 1,^",
                "select 1 order by 1 ^2", "select 1 order by 1 asc ^desc", "select 1 order by 1 desc ^a",
                "select 1 order by ^asc", "select 1 order by ^*", "select 1 order by 1 ^union select 2",
                "select 1 order by 1 ^as b", "select 1 order by a ^b", "select 1 order by 1 ^order by 2",
                "select 1 order by 1 ^where a");
        bad("select 1 limit^", "select 1 limit ^a", "select 1 limit ^-1", "select 1 limit ^1.0",
                "select 1 limit ^'1'", "select 1 limit ^(1)", "select 1 limit 1 ^+ 1", "select 1 limit 1^, 2",
                "select 1 limit 1 offset^", "select 1 limit 1 offset ^a", "select 1 limit 1 offset 2 ^3",
                "select 1 ^offset 1", "select 1 limit 1 ^limit 2", "select 1 limit 1 ^order by 1",
                "select 1 limit 1 ^union select 2", "select 1 limit ^null", "select 1 limit 1 offset ^-2");
    }

    private static void cores() {
        bad("select^", "select ^from t", "select ^,", "select ^;", "select 1,^", "select 1, ^from t",
                "select distinct^", "select distinct ^distinct a", "select ^all a", "select distinct ^from t",
                "select ^)", "select ^as a");
        bad("select * ^a", "select * ^as a", "select t.* ^a", "select t.* ^as a", "select t.^", "select t.^1",
                "select t.^from", "select t.a^.b", "select t.a^.*", "select (t.^*)", "select * ^+ 1", "select 1 + ^*",
                "select f(^*)", "select *^*", "select t.*^.a", "select ^.a");
        bad("select a b ^c", "select a as^", "select a as ^1", "select a as ^'b'", "select a as b ^c",
                "select a as ^select", "select a ^'b'", "select a ^case when 1 then 2 end", "select a as b ^as c",
                "select a b^.c");
        bad("select 1 where^", "select 1 where ^group by a", "select 1 where a ^b", "select 1 where a ^where b",
                "select 1 where a ^from t", "select 1 where a^, b", "select 1 where ^order by a",
                "select 1 where a ^as b");
        bad("select 1 group^", "select 1 group ^a", "select 1 group by^", "select 1 group by a,^",
                "select 1 group by a ^b", "select 1 group by a ^where b", "select 1 group by a ^desc",
                "select 1 group by ^having a", "select 1 group by ^*", "select 1 having^",
                "select 1 having a ^group by b", "select 1 having a^, b", "select 1 having a ^having b",
                "select 1 having ^order by a", "select 1 having a ^where b", "select 1 group by a ^group by b");
    }

    private static void sources() {
        bad("select 1 from^", "select 1 from ^1", "select 1 from ^where a", "select 1 from ^'t'",
                "select 1 from t^.u", "select 1 from t u ^v", "select 1 from t as^", "select 1 from t as ^1",
                "select 1 from t as u ^v", "select 1 from t ^from u", "select 1 from ^join t", "select 1 from f^(1)",
                "select 1 from t as ^on");
        bad("select 1 from (^", "select 1 from (^t)", "select 1 from (^(select 1)) a", "select 1 from (select 1^",
                "select 1 from (select 1)^", "select 1 from (select 1) ^where a", "select 1 from (select 1) as^",
                "select 1 from (select 1) as ^(", "select 1 from (select 1) a ^b", "select 1 from (select 1)^, t",
                "select 1 from (select 1)^)", "select 1 from (select 1) ^union select 2");
        bad("select 1 from t,^", "select 1 from t, ^, u", "select 1 from t, u ^on a", "select 1 from t ^on a",
                "select 1 from t cross^", "select 1 from t cross ^u", "select 1 from t cross ^inner join u",
                "select 1 from t cross join^", "select 1 from t cross join u ^on a",
                "select 1 from t cross join (^u)");
        bad("select 1 from t join^", "select 1 from t join ^on a", "select 1 from t inner^",
                "select 1 from t inner ^u", "select 1 from t inner ^left join u on a", "select 1 from t join u on^",
                "select 1 from t join u on ^join v", "select 1 from t join u on a ^on b",
                "select 1 from t join u on a ^b", "select 1 from t inner join u using ^(a)",
                "select 1 from t ^outer join u on a", "select 1 from t join ^inner u");
        bad("select 1 from t left^", "select 1 from t left ^u", "select 1 from t left outer^",
                "select 1 from t left ^inner join u", "select 1 from t left outer ^u", "select 1 from t left join^",
                "select 1 from t left join u^", "select 1 from t left join u ^where a",
                "select 1 from t left join u^, v", "select 1 from t left join u v ^join w",
                "select 1 from t left join u v^", "select 1 from t left join (select 1) u^",
                "select 1 from t left join u on^", "select 1 from t left join u on a^)",
                "select 1 from t left outer ^outer join u on a");
        bad("select 1 from t u ^using", "select 1 from t right join u right ^right join v",
                "select 1 from t natural ^natural join u");
    }

    private static void atoms() {
        bad("select f(^", "select f(1^", "select f(1,^)", "select f(^,1)", "select f(1 ^2)", "select f(1 ^as a)",
                "select f(^distinct 1)", "select f(^select 1)", "select f()^()", "select f() ^.a", "select a.b^(1)",
                "select a. ^null", "select f(1)^)");
        bad("select count^", "select count ^a", "select count(^)", "select count(*^", "select count(*^, 1)",
                "select count(*^*)", "select count(distinct^)", "select count(distinct ^*)", "select count(a^, b)",
                "select count(distinct a^, b)", "select sum(^*)", "select max(^)", "select min(1^, 2)", "select avg^",
                "select group_concat(a^, b)", "select sum(distinct ^distinct a)", "select sum^.a", "select count ^*",
                "select max(^select 1)");
        bad("select replace^", "select replace(^)", "select replace(1^)", "select replace(1, 2^)",
                "select replace(1, 2, 3^, 4)", "select replace(1, 2,^)", "select replace ^a",
                "select a ^replace(1, 2, 3)", "select replace(^distinct 1, 2, 3)", "select replace(1^");
        bad("select case^", "select case ^end", "select case when^", "select case when ^then", "select case when 1^",
                "select case when 1 ^end", "select case when 1 then^", "select case when 1 then ^end",
                "select case when 1 then 2^", "select case when 1 then 2 ^3", "select case when 1 then 2 else^",
                "select case when 1 then 2 else ^end", "select case when 1 then 2 else 3^",
                "select case when 1 then 2 else 3 ^else 4", "select case ^else 1 end",
                "select case when 1 then 2 else 3 ^when 4", "select case 1^", "select case 1 ^end",
                "select case 1 ^then 2", "select case a ^b when", "select case when 1 ^when 2",
                "select case when 1 then 2 ^then 3", "select case ^then");
        bad("select cast^", "select cast ^1", "select cast(^)", "select cast(1^)", "select cast(1 ^integer)",
                "select cast(1 as^)", "select cast(1 as ^a)", "select cast(1 as text^",
                "select cast(1 as text ^text)", "select cast(1^, 2)", "select cast(^as text)",
                "select cast(1 ^a as text)", "select cast(1 as ^null)", "select cast(1 as ^'text')");
        bad("select exists^", "select exists ^select 1", "select exists (^)", "select exists (^1)",
                "select exists (^(select 1))", "select exists (select 1^", "select exists (^values (1))",
                "select exists (select 1, 2^");
        bad("select (^", "select (^)", "select (1^", "select (1^, 2)", "select (1 ^2)", "select (1 ^a)",
                "select (1 ^as a)", "select (1)^)", "select (select 1^", "select (select 1)^)", "select (select 1 ^(",
                "select ((select 1) ^union select 2)", "select (with^)", "select (^insert)", "select (^*)",
                "select (^from t)", "select (1) ^(2)", "select (a)^.b");
        bad("select null ^null", "select 'a' ^'b'", "select 1 ^1", "select null^.a", "select 1 ^(2)",
                "select 'a'^(1)", "select null^(1)");
    }

    private static void operators() {
        bad("select a or^", "select a or ^or b", "select a || ^|| b", "select ^or a", "select a and^",
                "select a and ^or b", "select ^and a", "select not^", "select not ^or a", "select not ^and",
                "select a or ^= b", "select a and not^", "select not a not ^not b", "select not a not ^b");
        bad("select a +^", "select a + ^+ b", "select a + ^+ b", "select ^+ a", "select a - - ^+ b", "select a *^",
                "select a * ^/ b", "select * ^+ 1", "select a % ^% b", "select ^/ a", "select ^% a", "select ^|| a",
                "select a ||^", "select a || ^* b", "select -^", "select - ^not a", "select - - ^", "select -^)",
                "select a + ^not b", "select a * ^not b", "select a || ^not b", "select a + ^and b", "select - ^* a");
    }

    private static void tests() {
        bad("select a =^", "select a = ^= b", "select a = b ^= c", "select a < b ^> c", "select a = ^not b",
                "select ^= a", "select a <> b ^is null", "select a = b ^like c", "select a = b ^not like c",
                "select a = b ^in (1)", "select a = b ^between c and d", "select a = b ^not in (1)",
                "select a = b + c ^= d", "select a = -b ^<= c", "select not a = b ^= c", "select a and b = c ^= d",
                "select a = exists^", "select a >= ^<= b");
        bad("select a is^", "select a is ^a", "select a is ^1", "select a is not^", "select a is not ^not null",
                "select a is not ^1", "select a is null ^is null", "select a is null ^= b", "select a is null ^+ b",
                "select a is null ^|| b", "select a is null ^not null", "select a is null ^like b",
                "select a is null ^in (1)", "select ^is null", "select a is null ^null", "select a is null ^* 2",
                "select not a is null ^= b", "select a isnull ^b", "select a is not null ^- 1");
        bad("select a like^", "select a not^", "select a not ^null", "select a not ^= b", "select a not ^is null",
                "select a not ^not like b", "select a like ^not b", "select a like b ^like c", "select a like b ^= c",
                "select a not like b ^not like c", "select a like ^like b", "select a not like^", "select a not ^b",
                "select a not ^exists (select 1)", "select a not ^(1)");
        bad("select a between^", "select a between ^and b", "select a between b^", "select a between b ^or c",
                "select a between b and^", "select a between b ^= c and d", "select a between b and c ^= d",
                "select a between ^not b and c", "select a between b and ^not c", "select a between b and ^and c",
                "select a between b^, c", "select a between b and c ^between d and e", "select (a between b^)",
                "select a between b ^is null and c", "select a between b ^between c and d and e",
                "select a between b + c ^or d", "select a between b and c ^is null", "select a not between b ^)",
                "select a between b ^from t", "select a between b ^like c", "select a between b ^in (1) and c",
                "select f(a between b^, c)", "select not a between b ^or c", "select a or b between c ^or d");
        bad("select a in^", "select a in ^1", "select a in ^b", "select a in (^)", "select a in (1^",
                "select a in (1,^)", "select a in (select 1^", "select a in (select 1, 2^", "select a in (1) ^in (2)",
                "select a in (1) ^= b", "select a in (1) ^+ 1", "select a in (1, ^select 2)", "select a not in^",
                "select a not in ^select 1", "select a in (^values (1))", "select a in (1) ^(2)",
                "select a in (select 1) ^is null", "select a in ((select 1)^",
                "select a in ((select 1) ^union select 2)", "select a in (1 ^2)", "select a in (^*)",
                "select ^in (1)", "select not a in (1) ^= 2", "select a in (1) ^|| 'x'", "select a + b in (1) ^* 2");
    }
}
