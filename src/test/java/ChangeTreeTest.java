/** The TREES of drop, insert, update, delete and the short STATEMENTS: KINDS 11 to 24 (promises 8 and 11). */
public final class ChangeTreeTest {
    public static void main(String[] args) {
        drops();
        inserts();
        changes();
        shortOnes();
        Check.finish();
    }

    private static void drops() {
        Check.tree("drop table t",
                "11@0(39@11#1)");
        Check.tree("drop index i",
                "11.1@0(39@11#1)");
        Check.tree("drop view v",
                "11.2@0(39@10#1)");
        Check.tree("drop table if exists t",
                "11.4@0(39@21#1)");
        Check.tree("drop index if exists i",
                "11.5@0(39@21#1)");
        Check.tree("drop view if exists v",
                "11.6@0(39@20#1)");
    }

    private static void inserts() {
        Check.tree("insert into t values (1)",
                "12@0(39@12#1 13@14 14@14(15@21(40@22#1=1)))");
        Check.tree("insert or ignore into t (a, b) values (1, 'x'), (null, (2))",
                "12.1@0(39@22#1 13@24(39@25#1 39@28#1) 14@31(15@38(40@39#1=1 42@42#3) 15@48(43@49#4 "
                + "40@55/56#1=2)))");
        Check.tree("insert or replace into t select a from u",
                "12.2@0(39@23#1 13@25 25@25(28@25(33@32(44@32(39@32#1)) 34@34(35@39(39@39#1)))))");
        Check.tree("insert into t (a) with w as (select 1) select 2",
                "12@0(39@12#1 13@14(39@15#1) 25@18(26@18(27@23(39@23#1 25@29(28@29(33@36(40@36#1=1))) "
                + "13@25)) 28@39(33@46(40@46#1=2))))");
    }

    private static void changes() {
        Check.tree("update t set a = 1",
                "16@0(39@7#1 17@13(39@13#1 40@17#1=1))");
        Check.tree("update t set a = b = c, d = not e where f",
                "16@0(39@7#1 17@13(39@13#1 55.1@17(44@17(39@17#1) 44@21(39@21#1))) 17@24(39@24#1 "
                + "54@28(44@32(39@32#1))) 18@34(44@40(39@40#1)))");
        Check.tree("delete from t",
                "19@0(39@12#1)");
        Check.tree("delete from t where a is null",
                "19@0(39@12#1 18@14(56@20(44@20(39@20#1))))");
    }

    private static void shortOnes() {
        Check.tree("begin",
                "20@0");
        Check.tree("commit",
                "21@0");
        Check.tree("rollback",
                "22@0");
        Check.tree("rollback to s",
                "22@0(39@12#1)");
        Check.tree("savepoint s",
                "23@0(39@10#1)");
        Check.tree("release s",
                "24@0(39@8#1)");
    }
}
