/** What the document says of THE TREE as a whole (promises 8 and 11). Above a test: the words it is for. */
public final class TreeTermsTest {
    private static final int FIRST_EXPR = 40;
    private static final int STEP = 62;

    public static void main(String[] args) {
        ofAllNodes();
        ofOneStatementAlone();
        marksOfNothing();
        lengths();
        placesInBrackets();
        ownPlaces();
        partsInOrder();
        partsThatAreNotThere();
        namesThatAreNotThere();
        oneIsNoRow();
        placesOfParts();
        Check.finish();
    }

    /** What holds for every NODE of every TREE. */
    private static void ofAllNodes() {
        for (String text : Samples.TEXTS) {
            SqlReader reader = Check.of(text);
            int statements = reader.read();
            for (int i = 0; i < statements; i++) {
                int nodes = reader.statement(i);
                Check.same("place of the root", reader.node(0, 2), reader.edge(i, false));
                Check.same("nodes of " + text, behind(reader, 0), nodes);
                for (int k = 0; k < nodes; k++) {
                    ofNode(reader, k, text);
                }
            }
        }
    }

    /** "THE TREE of a STATEMENT": nothing in it is of one that was THE TREE before. */
    private static void ofOneStatementAlone() {
        String text = String.join(" ; ", Samples.TEXTS);
        SqlReader reader = Check.of(text);
        int statements = reader.read();
        String[] due = new String[statements];
        for (int i = 0; i < statements; i++) {
            String own = text.substring(reader.edge(i, false), reader.edge(i, true));
            SqlReader alone = Check.filled(reader.edge(i, true), own);
            alone.read();
            due[i] = Check.tree(alone, 0);
        }
        for (int before = 0; before < statements; before++) {
            for (int i = 0; i < statements; i++) {
                reader.statement(before);
                Check.same("tree of " + i + " behind that of " + before, Check.tree(reader, i), due[i]);
            }
        }
    }

    private static void ofNode(SqlReader reader, int k, String text) {
        String of = " of node " + k + " of " + text;
        int kind = reader.node(k, 0);
        int place = reader.node(k, 2);
        int own = reader.node(k, 3);
        int length = reader.node(k, 5);
        boolean isToken = kind >= 39 && kind <= 43;
        boolean isExpr = kind >= FIRST_EXPR && kind != STEP;
        Check.same("a length" + of, length > 0 ? 1 : 0, isToken ? 1 : 0);
        Check.same("own place" + of, own >= place && (isExpr || own == place) ? 1 : 0, 1);
        Check.same("a bracket" + of, own == place || text.charAt(place) == '(' ? 1 : 0, 1);
        if (isToken) {
            Check.same("parts" + of, reader.node(k, 4), 0);
            Check.same("the byte before" + of, isOfWord(text, own - 1) ? 1 : 0, 0);
            Check.same("the byte behind" + of, isOfWord(text, own + length) ? 1 : 0, 0);
        }
    }

    private static boolean isOfWord(String text, int place) {
        return place < text.length() && Character.isLetterOrDigit(text.charAt(place));
    }

    /** The number behind all below a NODE: "each before its PARTS, these from the left, each with all below it". */
    private static int behind(SqlReader reader, int k) {
        int next = k + 1;
        int parts = reader.node(k, 4);
        for (int part = 0; part < parts; part++) {
            next = behind(reader, next);
        }
        return next;
    }

    /** "a MARK (0, if nothing is said)" */
    private static void marksOfNothing() {
        Check.tree("create table t (a integer not null primary key unique default 1 check (b) references u (c))",
                "1@0(39@13#1 2@16(39@16#1 3@26 4@35 5@47 6@54(40@62#1=1) 7@64(44@71(39@71#1)) "
                + "8@74(39@85#1 39@88#1)))");
        Check.tree("create index i on t (a)", "9@0(39@13#1 39@18#1 39@21#1)");
        Check.tree("drop table t", "11@0(39@11#1)");
        Check.tree("insert into t values (1)", "12@0(39@12#1 13@14 14@14(15@21(40@22#1=1)))");
        Check.tree("select a b from t join u order by c asc limit 1",
                "25@0(28@0(33@7(44@7(39@7#1) 39@9#1) 34@11(35@16(39@16#1) 35.1@23(39@23#1))) 29@34(44@34(39@34#1)) "
                + "30@40(40@46#1=1))");
        Check.tree("select count(a), case when 1 then 2 end, cast(3 as integer)",
                "25@0(28@0(33@7(47@7(44@13(39@13#1))) 33@17(48@17(40@27#1=1 40@34#1=2)) 33@41(49@41(40@46#1=3))))");
        Check.tree("select a is null, a like b, a in (b), - 5, 'x', null",
                "25@0(28@0(33@7(56@7(44@7(39@7#1))) 33@18(57@18(44@18(39@18#1) 44@25(39@25#1))) "
                + "33@28(60@28(44@28(39@28#1) 44@34(39@34#1))) 33@38(65@38(40@40#1=5)) 33@43(42@43#3) "
                + "33@48(43@48#4)))");
    }

    /** "a LENGTH (0, or of one TOKEN its bytes)": of 39 and 40 to 43, from the shortest to the longest. */
    private static void lengths() {
        Check.tree("select a, " + Check.times("b", 30) + ", replace(1, 2, 3)",
                "25@0(28@0(33@7(44@7(39@7#1)) 33@10(44@10(39@10#30)) "
                + "33@42(45@42(39@42#7 40@50#1=1 40@53#1=2 40@56#1=3))))");
        Check.tree("select 0, 9223372036854775807, " + Check.times("0", 100) + "1",
                "25@0(28@0(33@7(40@7#1) 33@10(40@10#19=9223372036854775807) 33@31(40@31#101=1)))");
        Check.tree("select 0.0, 9.99999999999999", "25@0(28@0(33@7(41.1@7#3) 33@12(41.14@12#16=999999999999999)))");
        Check.tree("select '', '" + Check.times("x", 255) + "', '" + Check.times("''", 255) + "'",
                "25@0(28@0(33@7(42@7#2) 33@11(42@11#257) 33@270(42@270#512)))");
        Check.tree("select NULL", "25@0(28@0(33@7(43@7#4)))");
        Check.tree("select *, count(*)", "25@0(28@0(31@7 33@10(46@10)))");
    }

    /** "of an EXPR in brackets that of its outermost (" */
    private static void placesInBrackets() {
        Check.tree("select a", "25@0(28@0(33@7(44@7(39@7#1))))");
        Check.tree("select (a)", "25@0(28@0(33@7(44@7/8(39@8#1))))");
        Check.tree("select ( (a))", "25@0(28@0(33@7(44@7/10(39@10#1))))");
        Check.tree("select " + Check.times("(", 30) + "a" + Check.times(")", 30),
                "25@0(28@0(33@7(44@7/37(39@37#1))))");
        Check.tree("select ((a) + 1)", "25@0(28@0(33@7(61@7/8(44@8/9(39@9#1) 62.43@12(40@14#1=1)))))");
        Check.tree("select ((select 1))", "25@0(28@0(33@7(51@7/8(25@9(28@9(33@16(40@16#1=1)))))))");
        Check.tree("select (f((a)))", "25@0(28@0(33@7(45@7/8(39@8#1 44@10/11(39@11#1)))))");
        Check.tree("select (case when (a) then 1 end)",
                "25@0(28@0(33@7(48@7/8(44@18/19(39@19#1) 40@27#1=1))))");
    }

    /** "an OWN place (without these brackets; of what is no EXPR it is its PLACE)" */
    private static void ownPlaces() {
        Check.tree("select (a) as b order by (c) desc limit 1",
                "25@0(28@0(33@7(44@7/8(39@8#1) 39@14#1)) 29.1@25(44@25/26(39@26#1)) 30@34(40@40#1=1))");
        Check.tree("select (a) = b", "25@0(28@0(33@7(55.1@7(44@7/8(39@8#1) 44@13(39@13#1)))))");
        Check.tree("select (a) + b", "25@0(28@0(33@7(61@7(44@7/8(39@8#1) 62.43@11(44@13(39@13#1))))))");
        Check.tree("select a + (b)", "25@0(28@0(33@7(61@7(44@7(39@7#1) 62.43@9(44@11/12(39@12#1))))))");
        Check.tree("select (not (a))", "25@0(28@0(33@7(54@7/8(44@12/13(39@13#1)))))");
        Check.tree("select a in ((b))", "25@0(28@0(33@7(60@7(44@7(39@7#1) 44@13/14(39@14#1)))))");
        Check.tree("insert into t values ((1))", "12@0(39@12#1 13@14 14@14(15@21(40@22/23#1=1)))");
        Check.tree("create table t (check ((a)))", "1@0(39@13#1 7@16(44@23/24(39@24#1)))");
    }

    /** "PARTS, in the order of THE TEXT, if nothing else is said": 10 and 27 have 13 last. */
    private static void partsInOrder() {
        Check.tree("create view v (a) as select 1",
                "10@0(39@12#1 25@21(28@21(33@28(40@28#1=1))) 13@14(39@15#1))");
        Check.tree("with a (b) as (select 1) select 2",
                "25@0(26@0(27@5(39@5#1 25@15(28@15(33@22(40@22#1=1))) 13@7(39@8#1))) 28@25(33@32(40@32#1=2)))");
        Check.tree("insert into t (a) select 1",
                "12@0(39@12#1 13@14(39@15#1) 25@18(28@18(33@25(40@25#1=1))))");
    }

    /** PARTS that need not be there: none of them. */
    private static void partsThatAreNotThere() {
        Check.tree("rollback", "22@0");
        Check.tree("begin", "20@0");
        Check.tree("delete from t", "19@0(39@12#1)");
        Check.tree("update t set a = 1", "16@0(39@7#1 17@13(39@13#1 40@17#1=1))");
        Check.tree("select *", "25@0(28@0(31@7))");
        Check.tree("select f()", "25@0(28@0(33@7(45@7(39@7#1))))");
        Check.tree("select * from t", "25@0(28@0(31@7 34@9(35@14(39@14#1))))");
        Check.tree("select 1 limit 2", "25@0(28@0(33@7(40@7#1=1)) 30@9(40@15#1=2))");
        Check.tree("create table t (a text)", "1@0(39@13#1 2.2@16(39@16#1))");
    }

    /** "13 ... (without PARTS if they are not there; its PLACE is ... the TOKEN that stands where that would: ...)" */
    private static void namesThatAreNotThere() {
        Check.tree("create view v\nas select 1", "10@0(39@12#1 25@17(28@17(33@24(40@24#1=1))) 13@14)");
        Check.tree("with a -- (b)\nas (select 1) select 2",
                "25@0(26@0(27@5(39@5#1 25@18(28@18(33@25(40@25#1=1))) 13@14)) 28@28(33@35(40@35#1=2)))");
        Check.tree("insert into t  values (1)", "12@0(39@12#1 13@15 14@15(15@22(40@23#1=1)))");
        Check.tree("insert into t  select 1", "12@0(39@12#1 13@15 25@15(28@15(33@22(40@22#1=1))))");
        Check.tree("insert into t  with a as (select 1) select 2",
                "12@0(39@12#1 13@15 25@15(26@15(27@20(39@20#1 25@26(28@26(33@33(40@33#1=1))) 13@22)) "
                + "28@36(33@43(40@43#1=2))))");
        Check.tree("insert into t  (a) values (1)", "12@0(39@12#1 13@15(39@16#1) 14@19(15@26(40@27#1=1)))");
    }

    /** "52 two or more with or; 53 with and", "61 SUM, 63 PRODUCT of two or more", "64 two or more with ||" */
    private static void oneIsNoRow() {
        Check.tree("select 1", "25@0(28@0(33@7(40@7#1=1)))");
        Check.tree("select 1 or 2", "25@0(28@0(33@7(52@7(40@7#1=1 40@12#1=2))))");
        Check.tree("select 1 or 2 or 3", "25@0(28@0(33@7(52@7(40@7#1=1 40@12#1=2 40@17#1=3))))");
        Check.tree("select 1 and 2", "25@0(28@0(33@7(53@7(40@7#1=1 40@13#1=2))))");
        Check.tree("select 1 + 2", "25@0(28@0(33@7(61@7(40@7#1=1 62.43@9(40@11#1=2)))))");
        Check.tree("select 1 * 2", "25@0(28@0(33@7(63@7(40@7#1=1 62.42@9(40@11#1=2)))))");
        Check.tree("select 1 || 2", "25@0(28@0(33@7(64@7(40@7#1=1 40@12#1=2))))");
        Check.tree("select (1 or 2) or 3", "25@0(28@0(33@7(52@7(52@7/8(40@8#1=1 40@13#1=2) 40@19#1=3))))");
        Check.tree("select 1 or (2 or 3)", "25@0(28@0(33@7(52@7(40@7#1=1 52@12/13(40@13#1=2 40@18#1=3)))))");
        Check.tree("select (1 + 2) + 3",
                "25@0(28@0(33@7(61@7(61@7/8(40@8#1=1 62.43@10(40@12#1=2)) 62.43@15(40@17#1=3)))))");
        Check.tree("select 1 || (2 || 3)", "25@0(28@0(33@7(64@7(40@7#1=1 64@12/13(40@13#1=2 40@18#1=3)))))");
    }

    /** "(PLACE its NAME or its (, not the comma or join before)", "(PLACE its ( )", "(PLACE its NAME)", "PLACE that" */
    private static void placesOfParts() {
        Check.tree("select * from t , (select 1) a cross join b join c left outer join (select 2) d on e",
                "25@0(28@0(31@7 34@9(35@14(39@14#1) 35@18(25@19(28@19(33@26(40@26#1=1))) 39@29#1) 35@42(39@42#1) "
                + "35.1@49(39@49#1) 35.2@67(25@68(28@68(33@75(40@75#1=2))) 39@78#1 36@80(44@83(39@83#1))))))");
        Check.tree("insert into t values (1) , (2)", "12@0(39@12#1 13@14 14@14(15@21(40@22#1=1) 15@27(40@28#1=2)))");
        Check.tree("update t set a = 1 , b = 2",
                "16@0(39@7#1 17@13(39@13#1 40@17#1=1) 17@21(39@21#1 40@25#1=2))");
        Check.tree("select 1 union all select 2", "25@0(28@0(33@7(40@7#1=1)) 28.4@19(33@26(40@26#1=2)))");
        Check.tree("select 1 order by a , b",
                "25@0(28@0(33@7(40@7#1=1)) 29@18(44@18(39@18#1)) 29@22(44@22(39@22#1)))");
        Check.tree("select 1 - 2 % 3",
                "25@0(28@0(33@7(61@7(40@7#1=1 62.45@9(63@11(40@11#1=2 62.37@13(40@15#1=3)))))))");
    }
}
