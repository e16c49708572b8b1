/** TOKENS and what stands between them: the terms behind promises 6, 7 and 11. Above a test: the words it is for. */
public final class TokensTest {
    private static final String[] WORDS = ("all and as asc avg begin between by cascade case cast check commit count "
            + "create cross default delete desc distinct drop else end except exists from group group_concat having "
            + "if ignore in index inner insert integer intersect into is join key left like limit max min not null "
            + "offset on or order outer primary real references release replace restrict rollback savepoint select "
            + "set sum table text then to union unique update values view when where with").split(" ");

    public static void main(String[] args) {
        names();
        bytesOfWords();
        longestWord();
        reservedWords();
        greatLetters();
        blanks();
        comments();
        bytesOfComments();
        gaps();
        digits();
        greatestInteger();
        pointWithoutDigit();
        decimals();
        longestDecimal();
        texts();
        longestText();
        bytesOfTexts();
        textsWithoutEnd();
        doubledQuotes();
        signs();
        longerSigns();
        halvesOfSigns();
        otherBytes();
        Check.finish();
    }

    private static boolean isLetter(int b) {
        return b >= 'a' && b <= 'z' || b >= 'A' && b <= 'Z' || b == '_';
    }

    private static boolean isDigit(int b) {
        return b >= '0' && b <= '9';
    }

    private static boolean isBlank(int b) {
        return b == 32 || b == 10;
    }

    /** "words, all letters, digits and _ that follow each other, beginning with a letter or _" */
    private static void names() {
        String[] names = {"a", "Z", "_", "__1", "a1", "A_b9", "x" + Check.times("y", 29), "_" + Check.times("9", 29),
            "selects", "selec", "end1", "_end", "group_", "group_conca", "group_concats", "zz", "q", "y"};
        for (String name : names) {
            Check.tree("savepoint " + name, "23@0(39@10#" + name.length() + ")");
        }
    }

    /** The same for each byte that there is: as the first of a word, and as a later one. */
    private static void bytesOfWords() {
        for (int b = 0; b < 256; b++) {
            String first = "savepoint " + (char) b + "x";
            if (isLetter(b)) {
                Check.tree(first, "23@0(39@10#2)");
            } else if (isBlank(b)) {
                Check.tree(first, "23@0(39@11#1)");
            } else {
                Check.refused(first, 10);
            }
            String later = "savepoint x" + (char) b;
            if (isLetter(b) || isDigit(b)) {
                Check.tree(later, "23@0(39@10#2)");
            } else if (isBlank(b) || b == ';') {
                Check.tree(later, "23@0(39@10#1)");
            } else {
                Check.refused(later, 11);
            }
        }
    }

    /** "at most 30", "a word ... that is too long" */
    private static void longestWord() {
        String longest = Check.times("abcde", 6);
        Check.tree("savepoint " + longest, "23@0(39@10#30)");
        Check.tree("savepoint " + Check.times("_", 30), "23@0(39@10#30)");
        Check.bad("savepoint ^" + longest + "f");
        Check.bad("savepoint ^" + longest + "_");
        Check.bad("savepoint ^" + longest + "0");
        Check.bad("savepoint ^" + longest + "F; begin");
        Check.bad("savepoint ^" + Check.times("_", 31));
        Check.bad("savepoint ^" + Check.times("x", 5000));
        Check.bad("^" + longest + "f");
        Check.bad("select a ^" + longest + "f");
        Check.bad("begin ^" + longest + "f");
        Check.good("savepoint " + longest + "--f", 1);
        Check.good("select " + longest + "." + longest + " " + longest, 1);
        Check.bad("select " + longest + ".^" + longest + "f");
    }

    /** "NAMES are words, but not these" */
    private static void reservedWords() {
        Check.same("how many words are no names", WORDS.length, 76);
        for (String word : WORDS) {
            Check.bad("savepoint ^" + word);
            Check.good("savepoint " + word + "_", 1);
            Check.good("savepoint _" + word, 1);
            Check.good("savepoint " + word + "0", 1);
        }
    }

    /** "(A to Z count as a to z)" */
    private static void greatLetters() {
        for (String word : WORDS) {
            Check.bad("savepoint ^" + word.toUpperCase());
            Check.bad("savepoint ^" + word.charAt(0) + word.substring(1).toUpperCase());
            Check.bad("savepoint ^" + word.toUpperCase().charAt(0) + word.substring(1));
        }
        Check.tree("BEGIN", "20@0");
        Check.tree("Select A From B", "25@0(28@0(33@7(44@7(39@7#1)) 34@9(35@14(39@14#1))))");
    }

    /** "blanks (32, 10)": these two and no other byte. */
    private static void blanks() {
        for (int b = 0; b < 256; b++) {
            if (isBlank(b)) {
                Check.tree((char) b + "begin", "20@1");
                Check.tree("rollback" + (char) b + "to" + (char) b + "s", "22@0(39@12#1)");
                Check.good("begin" + (char) b, 1);
            } else if (b != ';') {
                Check.refused("begin " + (char) b, 6);
            }
        }
        Check.tree(Check.times(" \n", 300) + "begin" + Check.times("\n ", 300), "20@600");
        Check.bad("begin^\t");
        Check.bad("^\rbegin");
        Check.bad("begin^\u000b");
    }

    /** "comments (-- and all behind it up to the next 10 or the end)" */
    private static void comments() {
        Check.good("--", 0);
        Check.good("begin--", 1);
        Check.good("begin -- to the end", 1);
        Check.good("begin--\n", 1);
        Check.good("--\n--\n--", 0);
        Check.good("begin ------ ;commit", 1);
        Check.good("begin --\n;commit", 2);
        Check.bad("begin --\n^commit");
        Check.bad("begin -- a\n ^- - b");
        Check.bad("begin ^-");
        Check.bad("begin ^- -");
        Check.bad("begin\n^-\n-");
        Check.bad("select a -^");
        Check.good("select a --", 1);
        Check.bad("select a from --t^");
        Check.good("begin --" + Check.times("x", 5000) + "\n;commit", 2);
        Check.bad("^/* no comment */ begin");
    }

    /** The same for each byte that there is: only 10 ends a comment. */
    private static void bytesOfComments() {
        for (int b = 0; b < 256; b++) {
            if (b == 10) {
                Check.bad("--\n^!\nbegin");
            } else {
                Check.good("--" + (char) b + "!\nbegin", 1);
                Check.good("begin --" + (char) b, 1);
            }
        }
    }

    /** "with blanks (32, 10) and comments ... between or not" */
    private static void gaps() {
        Check.tree("\n begin--x", "20@2");
        Check.tree("--\nbegin", "20@3");
        Check.tree("-- a -- b\n--\n \n begin -- c\n--", "20@16");
        Check.tree("select 1--2\n+3", "25@0(28@0(33@7(61@7(40@7#1=1 62.43@12(40@13#1=3)))))");
        Check.tree("select 1 - -2", "25@0(28@0(33@7(61@7(40@7#1=1 62.45@9(65@11(40@12#1=2))))))");
        Check.tree("select(a)from(select*from t)x", "25@0(28@0(33@6(44@6/7(39@7#1)) "
                + "34@9(35@13(25@14(28@14(31@20 34@21(35@26(39@26#1)))) 39@28#1))))");
        Check.tree("select'a'b", "25@0(28@0(33@6(42@6#3 39@9#1)))");
        Check.tree("select a.--x\nb", "25@0(28@0(33@7(44@7(39@7#1 39@13#1))))");
        Check.tree("select t .\n*", "25@0(28@0(32@7(39@7#1)))");
    }

    /** "INTEGERS, all digits that follow each other" */
    private static void digits() {
        Check.tree("select 0123456789", "25@0(28@0(33@7(40@7#10=123456789)))");
        Check.tree("select 12abc", "25@0(28@0(33@7(40@7#2=12 39@9#3)))");
        Check.tree("select 1_", "25@0(28@0(33@7(40@7#1=1 39@8#1)))");
        Check.bad("select 1 ^2");
        for (int b = 0; b < 256; b++) {
            String text = "select 7" + (char) b;
            if (isDigit(b)) {
                Check.tree(text, "25@0(28@0(33@7(40@7#2=" + (70 + b - '0') + ")))");
            } else if (isLetter(b)) {
                Check.tree(text, "25@0(28@0(33@7(40@7#1=7 39@8#1)))");
            }
        }
    }

    /** "(up to 9223372036854775807)", "a ... number that is too long" */
    private static void greatestInteger() {
        Check.tree("select 9223372036854775806", "25@0(28@0(33@7(40@7#19=9223372036854775806)))");
        Check.tree("select 9223372036854775807", "25@0(28@0(33@7(40@7#19=9223372036854775807)))");
        Check.tree("select 0009223372036854775807", "25@0(28@0(33@7(40@7#22=9223372036854775807)))");
        Check.tree("select 0000000000000000000000000001", "25@0(28@0(33@7(40@7#28=1)))");
        Check.tree("select -9223372036854775807", "25@0(28@0(33@7(65@7(40@8#19=9223372036854775807))))");
        String[] tooGreat = {"9223372036854775808", "9223372036854775809", "9223372036854775810",
            "9223372036854775900", "9999999999999999999", "10000000000000000000", "92233720368547758070",
            "18446744073709551615", "18446744073709551616", "18446744073709551617", "0009223372036854775808",
            Check.times("7", 3000)};
        for (String number : tooGreat) {
            Check.bad("select ^" + number);
            Check.bad("select -^" + number);
            Check.bad("select a limit ^" + number);
            Check.bad("select a limit 1 offset ^" + number);
            Check.bad("create table t (a integer default ^" + number + ")");
        }
        Check.good("select 1 limit 9223372036854775807 offset 9223372036854775807", 1);
        Check.good("create table t (a integer default -9223372036854775807)", 1);
    }

    /** "or, if a . and a digit follow, DECIMALS": a . without a digit is a TOKEN of its own. */
    private static void pointWithoutDigit() {
        Check.bad("select 1^.");
        Check.bad("select 1^. 5");
        Check.bad("select 1 ^.5");
        Check.bad("select 1^.a");
        Check.bad("select 1^..5");
        Check.bad("select 1^._5");
        Check.bad("select ^.5");
        Check.bad("select 9223372036854775807^.");
        Check.bad("select ^9223372036854775808.");
        Check.bad("select 1.5^.5");
        Check.bad("select 1.5^.");
        Check.bad("select 1^./");
        Check.bad("select 1^.:");
    }

    /** "DECIMALS, that and all digits there" */
    private static void decimals() {
        Check.tree("select 1.5", "25@0(28@0(33@7(41.1@7#3=15)))");
        Check.tree("select 0.0", "25@0(28@0(33@7(41.1@7#3)))");
        Check.tree("select 9.9", "25@0(28@0(33@7(41.1@7#3=99)))");
        Check.tree("select 1.5e3", "25@0(28@0(33@7(41.1@7#3=15 39@10#2)))");
        Check.tree("select 1.5--e\n", "25@0(28@0(33@7(41.1@7#3=15)))");
        Check.bad("select a limit ^1.5");
        Check.bad("select a limit 1 offset ^1.0");
    }

    /** "(at most 15 digits in all)", "a ... number that is too long" */
    private static void longestDecimal() {
        Check.tree("select 0.00000000000000", "25@0(28@0(33@7(41.14@7#16)))");
        Check.tree("select 9.99999999999999", "25@0(28@0(33@7(41.14@7#16=999999999999999)))");
        Check.tree("select 99999999999999.9", "25@0(28@0(33@7(41.1@7#16=999999999999999)))");
        Check.tree("select 12345678.1234567", "25@0(28@0(33@7(41.7@7#16=123456781234567)))");
        String[] tooLong = {"0.000000000000000", "9.999999999999999", "999999999999999.9", "000000000000001.5",
            "12345678.12345678", "9223372036854775807.5", "9999999999999999999999.9",
            "1." + Check.times("0", 3000)};
        for (String number : tooLong) {
            Check.bad("select ^" + number);
            Check.bad("select -^" + number);
            Check.bad("create table t (a real default -^" + number + ")");
        }
        Check.good("select 9999999999999999", 1);
        Check.good("create table t (a real default -99999999999999.9)", 1);
    }

    /** "texts ' ... '" */
    private static void texts() {
        String shown = "";
        for (char c = ' '; c <= '~'; c++) {
            shown += c == '\'' ? "''" : String.valueOf(c);
        }
        Check.tree("select '" + shown + "'", "25@0(28@0(33@7(42@7#98)))");
        Check.tree("select ''", "25@0(28@0(33@7(42@7#2)))");
        Check.tree("select '-- no comment'", "25@0(28@0(33@7(42@7#15)))");
        Check.tree("select ' ; '", "25@0(28@0(33@7(42@7#5)))");
        Check.bad("select 'a' ^'b'");
    }

    /** "of at most 255 bytes" */
    private static void longestText() {
        Check.tree("select '" + Check.times("x", 254) + "'", "25@0(28@0(33@7(42@7#256)))");
        Check.tree("select '" + Check.times("x", 255) + "'", "25@0(28@0(33@7(42@7#257)))");
        Check.tree("select '" + Check.times("\n", 255) + "'", "25@0(28@0(33@7(42@7#257)))");
        Check.bad("select ^'" + Check.times("x", 256) + "'");
        Check.bad("select ^'" + Check.times("\n", 256) + "'");
        Check.bad("select ^'" + Check.times("x", 257) + "', 1");
        Check.bad("select ^'" + Check.times("x", 5000) + "'");
        Check.good("create table t (a text default '" + Check.times("x", 255) + "')", 1);
        Check.bad("create table t (a text default ^'" + Check.times("x", 256) + "')");
    }

    /** "32 to 126 and 10", "a text ... with another byte" */
    private static void bytesOfTexts() {
        for (int b = 0; b < 256; b++) {
            String text = "select 'a" + (char) b + "c'";
            if (b == 10 || b >= 32 && b <= 126 && b != '\'') {
                Check.tree(text, "25@0(28@0(33@7(42@7#5)))");
            } else if (b != '\'') {
                Check.refused(text, 7);
                Check.refused("select '" + (char) b + "'", 7);
                Check.refused("select '" + Check.times("x", 254) + (char) b + "'", 7);
            }
        }
    }

    /** "a text without its end" */
    private static void textsWithoutEnd() {
        Check.bad("select ^'");
        Check.bad("select ^'a");
        Check.bad("select ^'a; begin");
        Check.bad("select ^'a\n\nbegin");
        Check.bad("select 'a', ^'");
        Check.bad("select ^'" + Check.times("x", 255));
        Check.bad("select ^'" + Check.times("x", 256));
        Check.bad("select ^'" + Check.times("x", 5000));
        Check.bad("begin ^'");
    }

    /** "(two ' for one of them)" */
    private static void doubledQuotes() {
        Check.tree("select ''''", "25@0(28@0(33@7(42@7#4)))");
        Check.tree("select '''a'''", "25@0(28@0(33@7(42@7#7)))");
        Check.tree("select '" + Check.times("''", 255) + "'", "25@0(28@0(33@7(42@7#512)))");
        Check.tree("select '" + Check.times("x", 254) + "'''", "25@0(28@0(33@7(42@7#258)))");
        Check.bad("select ^'" + Check.times("''", 256) + "'");
        Check.bad("select ^'" + Check.times("x", 255) + "'''");
        Check.bad("select ^'''");
        Check.bad("select ^'a''");
        Check.bad("select ^'''''");
        Check.bad("select '' ^''");
    }

    /** "( ) , ; . * + - / % || = <> != < <= > >=" */
    private static void signs() {
        Check.tree("select a<b", "25@0(28@0(33@7(55.3@7(44@7(39@7#1) 44@9(39@9#1)))))");
        Check.tree("select a>b", "25@0(28@0(33@7(55.5@7(44@7(39@7#1) 44@9(39@9#1)))))");
        Check.tree("select a=b", "25@0(28@0(33@7(55.1@7(44@7(39@7#1) 44@9(39@9#1)))))");
        Check.tree("select a||b", "25@0(28@0(33@7(64@7(44@7(39@7#1) 44@10(39@10#1)))))");
        Check.tree("select a>=-b", "25@0(28@0(33@7(55.6@7(44@7(39@7#1) 65@10(44@11(39@11#1))))))");
        Check.tree("select(a.b),*;", "25@0(28@0(33@6(44@6/7(39@7#1 39@9#1)) 31@12))");
        Check.tree("select a+b-c", "25@0(28@0(33@7(61@7(44@7(39@7#1) 62.43@8(44@9(39@9#1)) "
                + "62.45@10(44@11(39@11#1))))))");
        Check.tree("select a*b/c%d", "25@0(28@0(33@7(63@7(44@7(39@7#1) 62.42@8(44@9(39@9#1)) "
                + "62.47@10(44@11(39@11#1)) 62.37@12(44@13(39@13#1))))))");
    }

    /** "(longer ones where they can be; != is <>)" */
    private static void longerSigns() {
        Check.tree("select a<=b", "25@0(28@0(33@7(55.4@7(44@7(39@7#1) 44@10(39@10#1)))))");
        Check.tree("select a<>b", "25@0(28@0(33@7(55.2@7(44@7(39@7#1) 44@10(39@10#1)))))");
        Check.tree("select a!=b", "25@0(28@0(33@7(55.2@7(44@7(39@7#1) 44@10(39@10#1)))))");
        Check.tree("select a>=b", "25@0(28@0(33@7(55.6@7(44@7(39@7#1) 44@10(39@10#1)))))");
        Check.bad("select a=^=b");
        Check.bad("select a=^>b");
        Check.bad("select a>^<b");
        Check.bad("select a>^>=b");
        Check.bad("select a<=^>b");
        Check.bad("select a<>^=b");
        Check.bad("select a||^|b");
        Check.bad("select a||^||b");
    }

    /** The same where they can not be, as their halves do not follow each other. */
    private static void halvesOfSigns() {
        Check.bad("select a< ^=b");
        Check.bad("select a< ^>b");
        Check.bad("select a> ^=b");
        Check.bad("select a<^");
        Check.bad("select a>^");
        Check.bad("select a^!b");
        Check.bad("select a^! =b");
        Check.bad("select a^!<b");
        Check.bad("select a^!");
        Check.bad("select a^|b");
        Check.bad("select a^| |b");
        Check.bad("select a^|");
        Check.bad("select a.^. b");
    }

    /** "any other byte" */
    private static void otherBytes() {
        String other = "!\"#$&:?@[\\]^`{|}~";
        for (int b = 0; b < 256; b++) {
            boolean isOther = other.indexOf(b) >= 0 || b < 32 && b != 10 || b > 126;
            if (isOther) {
                String wrong = String.valueOf((char) b);
                Check.refused(wrong, 0);
                Check.refused("select " + wrong, 7);
                Check.refused("select a " + wrong + " from t", 9);
                Check.refused("select a from " + wrong + "; begin", 14);
            }
        }
        Check.bad("select a from ^where !");
        Check.bad("select ^) 'open");
        Check.bad("begin; commit; ; ^?");
    }
}
