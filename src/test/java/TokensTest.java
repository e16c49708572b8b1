/** TOKENS and what stands between them: the terms behind promises 6, 7 and 11. */
public final class TokensTest {
    private static final String[] WORDS = ("all and as asc avg begin between by cascade case cast check commit count "
            + "create cross default delete desc distinct drop else end except exists from group group_concat having "
            + "if ignore in index inner insert integer intersect into is join key left like limit max min not null "
            + "offset on or order outer primary real references release replace restrict rollback savepoint select "
            + "set sum table text then to union unique update values view when where with").split(" ");

    public static void main(String[] args) {
        names();
        reservedWords();
        longWords();
        gaps();
        integers();
        decimals();
        texts();
        signs();
        strangeBytes();
        Check.finish();
    }

    private static void names() {
        String[] names = {"a", "Z", "_", "__1", "a1", "A_b9", "x" + Check.times("y", 29), "_" + Check.times("9", 29),
            "selects", "selec", "end1", "_end", "group_", "group_conca", "group_concats", "zz", "q", "y"};
        for (String name : names) {
            Check.tree("savepoint " + name, "23@0(39@10#" + name.length() + ")");
        }
    }

    private static void reservedWords() {
        Check.same("how many words are no names", WORDS.length, 76);
        for (String word : WORDS) {
            Check.bad("savepoint ^" + word);
            Check.bad("savepoint ^" + word.toUpperCase());
            Check.bad("savepoint ^" + word.charAt(0) + word.substring(1).toUpperCase());
            Check.good("savepoint " + word + "_", 1);
            Check.good("savepoint _" + word, 1);
            Check.good("savepoint " + word + "0", 1);
        }
        Check.tree("BEGIN", "20@0");
        Check.tree("Select A From B", "25@0(28@0(33@7(44@7(39@7#1)) 34@9(35@14(39@14#1))))");
    }

    private static void longWords() {
        String longest = Check.times("abcde", 6);
        Check.good("savepoint " + longest, 1);
        Check.bad("savepoint ^" + longest + "f");
        Check.bad("savepoint ^" + longest + "_");
        Check.bad("savepoint ^" + longest + "0");
        Check.bad("savepoint ^" + Check.times("x", 5000));
        Check.bad("^" + longest + "f");
        Check.bad("select a ^" + longest + "f");
        Check.bad("begin ^" + longest + "f");
    }

    private static void gaps() {
        Check.tree("\n begin--x", "20@2");
        Check.tree("--\nbegin", "20@3");
        Check.tree("-- a -- b\n--\n \n begin -- c\n--", "20@16");
        Check.tree("select 1--2\n+3", "25@0(28@0(33@7(61@7(40@7#1=1 62.43@12(40@13#1=3)))))");
        Check.tree("select 1 - -2", "25@0(28@0(33@7(61@7(40@7#1=1 62.45@9(65@11(40@12#1=2))))))");
        Check.tree("select(a)from(select*from t)x", "25@0(28@0(33@6(44@6/7(39@7#1)) "
                + "34@9(35@13(25@14(28@14(31@20 34@21(35@26(39@26#1)))) 39@28#1))))");
        Check.tree("select'a'b", "25@0(28@0(33@6(42@6#3 39@9#1)))");
        Check.tree("select a.--x\nb", "25@0(28@0(33@7(44@7(39@7#1 39@13#1))))");
        Check.tree("select t .\n*", "25@0(28@0(32@7(39@7#1)))");
        Check.good("begin -- any \u0000\t\u00ff'! byte\n;commit", 2);
        Check.good("select 1 --2", 1);
        Check.bad("select a from --t^");
        Check.bad("begin\n^-\n-");
        Check.bad("begin^\t");
        Check.bad("^\rbegin");
        Check.bad("begin^\u000b");
        Check.bad("^/* no comment */ begin");
    }

    private static void integers() {
        Check.tree("select 9223372036854775807", "25@0(28@0(33@7(40@7#19=9223372036854775807)))");
        Check.tree("select 0000000000000000000000000001", "25@0(28@0(33@7(40@7#28=1)))");
        Check.tree("select 12abc", "25@0(28@0(33@7(40@7#2=12 39@9#3)))");
        Check.tree("select 1_", "25@0(28@0(33@7(40@7#1=1 39@8#1)))");
        Check.bad("select ^9223372036854775808");
        Check.bad("select ^9223372036854775810");
        Check.bad("select ^10000000000000000000");
        Check.bad("select ^92233720368547758070");
        Check.bad("select ^18446744073709551617");
        Check.bad("select -^9223372036854775808");
        Check.bad("select ^" + Check.times("7", 3000));
        Check.bad("select 1 ^2");
        Check.bad("select 1^.");
        Check.bad("select 1^.a");
        Check.bad("select ^.5");
        Check.bad("select a limit ^9223372036854775808");
    }

    private static void decimals() {
        Check.tree("select 1.5", "25@0(28@0(33@7(41.1@7#3=15)))");
        Check.tree("select 0.00000000000000", "25@0(28@0(33@7(41.14@7#16)))");
        Check.tree("select 99999999999999.9", "25@0(28@0(33@7(41.1@7#16=999999999999999)))");
        Check.tree("select 1.5e3", "25@0(28@0(33@7(41.1@7#3=15 39@10#2)))");
        Check.bad("select ^0.000000000000000");
        Check.bad("select ^000000000000001.5");
        Check.bad("select ^999999999999999.9");
        Check.bad("select ^9999999999999999999999.9");
        Check.bad("select ^1." + Check.times("0", 3000));
        Check.bad("select 1.5^.5");
        Check.bad("select 1.5^.");
        Check.bad("select a limit ^1.5");
    }

    private static void texts() {
        String shown = "";
        for (char c = ' '; c <= '~'; c++) {
            shown += c == '\'' ? "''" : String.valueOf(c);
        }
        Check.tree("select '" + shown + "'", "25@0(28@0(33@7(42@7#98)))");
        Check.tree("select '\n'", "25@0(28@0(33@7(42@7#3)))");
        Check.tree("select '-- no comment'", "25@0(28@0(33@7(42@7#15)))");
        Check.tree("select '" + Check.times("x", 255) + "'", "25@0(28@0(33@7(42@7#257)))");
        Check.tree("select '" + Check.times("''", 255) + "'", "25@0(28@0(33@7(42@7#512)))");
        Check.tree("select '''a'''", "25@0(28@0(33@7(42@7#7)))");
        Check.bad("select ^'" + Check.times("x", 256) + "'");
        Check.bad("select ^'" + Check.times("''", 256) + "'");
        Check.bad("select ^'");
        Check.bad("select ^'a");
        Check.bad("select ^'a''");
        Check.bad("select ^'''");
        Check.bad("select ^'a\t'");
        Check.bad("select ^'a\r'");
        Check.bad("select ^'\u001f'");
        Check.bad("select ^'\u007f'");
        Check.bad("select ^'\u00e4'");
        Check.bad("select ^'\u0000'");
        Check.bad("select 'a' ^'b'");
        Check.bad("select ^'a; begin");
    }

    private static void signs() {
        Check.tree("select a<b", "25@0(28@0(33@7(55.3@7(44@7(39@7#1) 44@9(39@9#1)))))");
        Check.tree("select a<=b", "25@0(28@0(33@7(55.4@7(44@7(39@7#1) 44@10(39@10#1)))))");
        Check.tree("select a<>b", "25@0(28@0(33@7(55.2@7(44@7(39@7#1) 44@10(39@10#1)))))");
        Check.tree("select a!=b", "25@0(28@0(33@7(55.2@7(44@7(39@7#1) 44@10(39@10#1)))))");
        Check.tree("select a>=-b", "25@0(28@0(33@7(55.6@7(44@7(39@7#1) 65@10(44@11(39@11#1))))))");
        Check.bad("select a< ^=b");
        Check.bad("select a< ^>b");
        Check.bad("select a> ^=b");
        Check.bad("select a=^=b");
        Check.bad("select a=^>b");
        Check.bad("select a>^<b");
        Check.bad("select a<=^>b");
        Check.bad("select a^!b");
        Check.bad("select a^! =b");
        Check.bad("select a^!<b");
        Check.bad("select a^|b");
        Check.bad("select a^| |b");
        Check.bad("select a||^|b");
        Check.bad("select a||^||b");
        Check.bad("select a.^. b");
    }

    private static void strangeBytes() {
        for (int b = 0; b < 256; b++) {
            boolean known = b == 32 || b == 10 || b == ';' || b == '\'' || b == '-';
            if (!known) {
                Check.refused("begin " + (char) b, 6);
            }
        }
        String alone = "!\"#$&:?@[\\]^`{|}~\t\r\u0000\u007f\u0080\u00ff";
        for (int i = 0; i < alone.length(); i++) {
            Check.refused("select " + alone.charAt(i), 7);
            Check.refused("select a " + alone.charAt(i) + " from t", 9);
            Check.refused("select a from " + alone.charAt(i) + "; begin", 14);
        }
        Check.bad("select a from ^where !");
        Check.bad("select ^) 'open");
    }
}
