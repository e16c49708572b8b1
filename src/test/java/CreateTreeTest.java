/** The TREES of create: KINDS 1 to 10 and 13 (promises 8 and 11). */
public final class CreateTreeTest {
    public static void main(String[] args) {
        tables();
        indexes();
        views();
        Check.finish();
    }

    private static void tables() {
        Check.tree("create table t (a integer)",
                "1@0(39@13#1 2@16(39@16#1))");
        Check.tree("create table if not exists t (a integer, b real, c text)",
                "1.1@0(39@27#1 2@30(39@30#1) 2.1@41(39@41#1) 2.2@49(39@49#1))");
        Check.tree("create table t (a integer not null primary key unique)",
                "1@0(39@13#1 2@16(39@16#1 3@26 4@35 5@47))");
        Check.tree("create table t (a integer default 5 default -5 default 2.50 default -0.5 default 'x' "
                + "default null)",
                "1@0(39@13#1 2@16(39@16#1 6@26(40@34#1=5) 6@36(65@44(40@45#1=5)) 6@47(41.2@55#4=250) "
                + "6@60(65@68(41.1@69#3=5)) 6@73(42@81#3) 6@85(43@93#4)))");
        Check.tree("create table t (a text check (a > 1) check ((b)))",
                "1@0(39@13#1 2.2@16(39@16#1 7@23(55.5@30(44@30(39@30#1) 40@34#1=1)) 7@37(44@44/45(39@45#1))))");
        Check.tree("create table t (a text references u (b), c text references v(d) on delete cascade, e text "
                + "references w(f) on delete set null, g text references x(h) on delete restrict)",
                "1@0(39@13#1 2.2@16(39@16#1 8@23(39@34#1 39@37#1)) 2.2@41(39@41#1 8.1@48(39@59#1 39@61#1)) "
                + "2.2@83(39@83#1 8.2@90(39@101#1 39@103#1)) 2.2@126(39@126#1 8@133(39@144#1 39@146#1)))");
        Check.tree("create table t (a integer, primary key (a, b), unique (c), check (a < b))",
                "1@0(39@13#1 2@16(39@16#1) 4@27(39@40#1 39@43#1) 5@47(39@55#1) 7@59(55.3@66(44@66(39@66#1) "
                + "44@70(39@70#1))))");
        Check.tree("create table t (unique (a))",
                "1@0(39@13#1 5@16(39@24#1))");
        Check.tree("create table t (a real not null not null)",
                "1@0(39@13#1 2.1@16(39@16#1 3@23 3@32))");
    }

    private static void indexes() {
        Check.tree("create index i on t (a)",
                "9@0(39@13#1 39@18#1 39@21#1)");
        Check.tree("create unique index i on t (a desc, b)",
                "9.2@0(39@20#1 39@25#1 39.2@28#1 39@36#1)");
        Check.tree("create index if not exists i on t (a desc)",
                "9.1@0(39@27#1 39@32#1 39.2@35#1)");
        Check.tree("create unique index if not exists i on t (a, b desc, c)",
                "9.3@0(39@34#1 39@39#1 39@42#1 39.2@45#1 39@53#1)");
    }

    private static void views() {
        Check.tree("create view v as select 1",
                "10@0(39@12#1 25@17(28@17(33@24(40@24#1=1))) 13@14)");
        Check.tree("create view if not exists v (a, b) as select 1, 2",
                "10.1@0(39@26#1 25@38(28@38(33@45(40@45#1=1) 33@48(40@48#1=2))) 13@28(39@29#1 39@32#1))");
        Check.tree("create view v as with w as (select 1) select 2",
                "10@0(39@12#1 25@17(26@17(27@22(39@22#1 25@28(28@28(33@35(40@35#1=1))) 13@24)) "
                + "28@38(33@45(40@45#1=2))) 13@14)");
        Check.tree("CREATE View v(a)AS select*",
                "10@0(39@12#1 25@19(28@19(31@25)) 13@13(39@14#1))");
    }
}
