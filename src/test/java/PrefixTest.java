/**
 * What holds for every text of the GRAMMAR, however far it has come: its beginnings go on, a wrong TOKEN is told
 * where it stands, and gaps and great letters change nothing but places (promises 6 to 11). The TOKENS of the texts
 * have blanks between them.
 */
public final class PrefixTest {
    private static final String[] TEXTS = {
        "create table if not exists t ( a integer primary key , b text not null default 'x y' unique , "
            + "c real default - 2.5 check ( c < 1 and d ) , d integer references u ( id ) on delete set null , "
            + "e text references u ( id ) on delete cascade , f text references u ( id ) on delete restrict , "
            + "primary key ( a , b ) , unique ( c ) , check ( a <> b or exists ( select 1 ) ) )",
        "create unique index if not exists i on t ( a desc , b , c desc )",
        "create view if not exists v ( a , b ) as with w as ( select 1 ) select a , b from w order by a limit 1",
        "drop table if exists t ; drop index i ; drop view if exists v ;",
        "insert or replace into t ( a , b ) values ( 1 , 'x' ) , ( null , - 2 || f ( ) )",
        "insert or ignore into t select distinct * from u ; insert into t with a as ( select 1 ) select a.b from a",
        "update t set a = b = c , d = case d when 1 then 2 else 3 end where not a is null",
        "delete from t where a not in ( select b from c where d between e and f or g ) and h like 'i'",
        "begin ; commit ; rollback ; rollback to s ; savepoint s ; release s",
        "with a ( b , c ) as ( select 1 , 2 ) , d as ( select 3 ) select a . * , * , d . e f , 1 as g from a h , d "
            + "as i cross join j join k on 1 inner join l left join m on 2 left outer join ( select 4 ) n on 3 where "
            + "o group by p , q having r union select 5 union all select distinct 6 intersect select 7 except select "
            + "8 order by s , t asc , u desc limit 9 offset 10",
        "select count ( * ) , count ( a ) , sum ( distinct b ) , avg ( c ) , min ( d ) , max ( e ) , "
            + "group_concat ( f )",
        "select replace ( a , b , c ) , cast ( d as integer ) , case when e then f when g then h end , "
            + "exists ( select 1 )",
        "select not not a or - - b + c * d / e % f - g || h || i <= j and k is not null and l not like m",
        "select a between b and c and d not between - e and ( f ) or ( ( g ) ) in ( ( h ) , i ) , "
            + "( ( select j ) ) > k",
        "select a . b , f ( g ( ) , h ( 1 , 2 ) ) , ( a = b ) = ( c != d ) , ( a < b ) , 1.50 , 'it''s' , null"};

    public static void main(String[] args) {
        for (String text : TEXTS) {
            String[] tokens = text.split(" (?=(?:[^']*'[^']*')*[^']*$)");
            beginningsGoOn(tokens);
            wrongTokenIsTold(tokens);
            gapsChangePlacesAlone(text, tokens);
        }
        Check.finish();
    }

    private static String joined(String[] tokens, int count, String gap) {
        StringBuilder out = new StringBuilder();
        for (int i = 0; i < count; i++) {
            out.append(i == 0 ? "" : gap).append(tokens[i]);
        }
        return out.toString();
    }

    private static void beginningsGoOn(String[] tokens) {
        for (int count = 0; count <= tokens.length; count++) {
            String text = joined(tokens, count, " ");
            int outcome = Check.outcome(text);
            if (outcome < 0) {
                Check.same("place told of " + text, -2 - outcome, text.length());
            }
        }
    }

    private static void wrongTokenIsTold(String[] tokens) {
        for (int count = 0; count <= tokens.length; count++) {
            String text = joined(tokens, count, "\n") + "\n";
            Check.refused(text + "!", text.length());
            Check.refused(text + "'open", text.length());
            Check.refused(text + "99999999999999999999 " + joined(tokens, tokens.length, " "), text.length());
        }
    }

    private static void gapsChangePlacesAlone(String text, String[] tokens) {
        String due = withoutPlaces(text);
        Check.same("great letters in " + text, withoutPlaces(text.toUpperCase()), due);
        Check.same("newlines in " + text, withoutPlaces(joined(tokens, tokens.length, " \n")), due);
        Check.same("comments in " + text, withoutPlaces(joined(tokens, tokens.length, " --;')\n")), due);
    }

    private static String withoutPlaces(String text) {
        SqlReader reader = Check.of(text);
        StringBuilder out = new StringBuilder();
        int statements = reader.read();
        for (int i = 0; i < statements; i++) {
            out.append(Check.tree(reader, i).replaceAll("[@/][0-9]+", "")).append(';');
        }
        return out.toString();
    }
}
