/** The TREES of QUERIES: KINDS 25 to 39 (promises 8 and 11). */
public final class QueryTreeTest {
    public static void main(String[] args) {
        items();
        sources();
        clauses();
        compounds();
        Check.finish();
    }

    private static void items() {
        Check.tree("select 1",
                "25@0(28@0(33@7(40@7#1=1)))");
        Check.tree("select *",
                "25@0(28@0(31@7))");
        Check.tree("select t.*, *, a, b c, d as e",
                "25@0(28@0(32@7(39@7#1) 31@12 33@15(44@15(39@15#1)) 33@18(44@18(39@18#1) 39@20#1) "
                + "33@23(44@23(39@23#1) 39@28#1)))");
        Check.tree("select distinct a",
                "25@0(28.1@0(33@16(44@16(39@16#1))))");
    }

    private static void sources() {
        Check.tree("select a from t",
                "25@0(28@0(33@7(44@7(39@7#1)) 34@9(35@14(39@14#1))))");
        Check.tree("select a from t u, v as w",
                "25@0(28@0(33@7(44@7(39@7#1)) 34@9(35@14(39@14#1 39@16#1) 35@19(39@19#1 39@24#1))))");
        Check.tree("select a from t cross join u",
                "25@0(28@0(33@7(44@7(39@7#1)) 34@9(35@14(39@14#1) 35@27(39@27#1))))");
        Check.tree("select a from t join u inner join v on a = b left join w on 1 left outer join x y on 2",
                "25@0(28@0(33@7(44@7(39@7#1)) 34@9(35@14(39@14#1) 35.1@21(39@21#1) 35.1@34(39@34#1 "
                + "36@36(55.1@39(44@39(39@39#1) 44@43(39@43#1)))) 35.2@55(39@55#1 36@57(40@60#1=1)) "
                + "35.2@78(39@78#1 39@80#1 36@82(40@85#1=2)))))");
        Check.tree("select a from (select 1) b",
                "25@0(28@0(33@7(44@7(39@7#1)) 34@9(35@14(25@15(28@15(33@22(40@22#1=1))) 39@25#1))))");
        Check.tree("select a from (select 1) as b join (select 2) c on d",
                "25@0(28@0(33@7(44@7(39@7#1)) 34@9(35@14(25@15(28@15(33@22(40@22#1=1))) 39@28#1) "
                + "35.1@35(25@36(28@36(33@43(40@43#1=2))) 39@46#1 36@48(44@51(39@51#1))))))");
    }

    private static void clauses() {
        Check.tree("select a where b",
                "25@0(28@0(33@7(44@7(39@7#1)) 18@9(44@15(39@15#1))))");
        Check.tree("select a group by b, (c) having d",
                "25@0(28@0(33@7(44@7(39@7#1)) 37@9(44@18(39@18#1) 44@21/22(39@22#1)) 38@25(44@32(39@32#1))))");
        Check.tree("select a having b",
                "25@0(28@0(33@7(44@7(39@7#1)) 38@9(44@16(39@16#1))))");
        Check.tree("select a from t where b group by c having d order by e limit 1 offset 2",
                "25@0(28@0(33@7(44@7(39@7#1)) 34@9(35@14(39@14#1)) 18@16(44@22(39@22#1)) "
                + "37@24(44@33(39@33#1)) 38@35(44@42(39@42#1))) 29@53(44@53(39@53#1)) 30@55(40@61#1=1 "
                + "40@70#1=2))");
        Check.tree("select a order by b, c asc, (d) desc",
                "25@0(28@0(33@7(44@7(39@7#1))) 29@18(44@18(39@18#1)) 29@21(44@21(39@21#1)) "
                + "29.1@28(44@28/29(39@29#1)))");
        Check.tree("select a limit 10",
                "25@0(28@0(33@7(44@7(39@7#1))) 30@9(40@15#2=10))");
    }

    private static void compounds() {
        Check.tree("select a union select b union all select c intersect select d except select e",
                "25@0(28@0(33@7(44@7(39@7#1))) 28.2@15(33@22(44@22(39@22#1))) 28.4@34(33@41(44@41(39@41#1))) "
                + "28.6@53(33@60(44@60(39@60#1))) 28.8@69(33@76(44@76(39@76#1))))");
        Check.tree("select distinct a union select distinct b union all select distinct c intersect select "
                + "distinct d except select distinct e order by 1 limit 2",
                "25@0(28.1@0(33@16(44@16(39@16#1))) 28.3@24(33@40(44@40(39@40#1))) "
                + "28.5@52(33@68(44@68(39@68#1))) 28.7@80(33@96(44@96(39@96#1))) "
                + "28.9@105(33@121(44@121(39@121#1))) 29@132(40@132#1=1) 30@134(40@140#1=2))");
        Check.tree("with a as (select 1) select 2",
                "25@0(26@0(27@5(39@5#1 25@11(28@11(33@18(40@18#1=1))) 13@7)) 28@21(33@28(40@28#1=2)))");
        Check.tree("with a (b, c) as (select 1), d as (with e as (select 2) select 3) select 4 union select 5",
                "25@0(26@0(27@5(39@5#1 25@18(28@18(33@25(40@25#1=1))) 13@7(39@8#1 39@11#1)) 27@29(39@29#1 "
                + "25@35(26@35(27@40(39@40#1 25@46(28@46(33@53(40@53#1=2))) 13@42)) 28@56(33@63(40@63#1=3))) "
                + "13@31)) 28@66(33@73(40@73#1=4)) 28.2@81(33@88(40@88#1=5)))");
    }
}
