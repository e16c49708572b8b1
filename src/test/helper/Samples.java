/** Texts of the GRAMMAR that together use all of its rules; their TOKENS have blanks between them. */
final class Samples {
    static final String[] TEXTS = {
        "create table if not exists t ( a integer primary key , b text not null default 'x y' unique , "
            + "c real default - 2.5 check ( c < 1 and d ) , d integer references u ( id ) on delete set null , "
            + "e text references u ( id ) on delete cascade , f text references u ( id ) on delete restrict , "
            + "primary key ( a , b ) , unique ( c ) , check ( a <> b or exists ( select 1 ) ) )",
        "create unique index if not exists i on t ( a desc , b , c desc )",
        "create view if not exists v ( a , b ) as with w as ( select 1 ) select a , b from w order by a limit 1",
        "drop table if exists t ; drop index i ; drop view if exists v ;",
        "insert or replace into t ( a , b ) values ( 1 , 'x' ) , ( null , - 2 || f ( ) )",
        "insert or ignore into t select distinct * from u ; insert into t with a as ( select 1 ) select a.b from a",
        "update t set a = b = c , d = case d when 1 then 2 else 3 end where not a is null",
        "delete from t where a not in ( select b from c where d between e and f or g ) and h like 'i'",
        "begin ; commit ; rollback ; rollback to s ; savepoint s ; release s",
        "with a ( b , c ) as ( select 1 , 2 ) , d as ( select 3 ) select a . * , * , d . e f , 1 as g from a h , d "
            + "as i cross join j join k on 1 inner join l left join m on 2 left outer join ( select 4 ) n on 3 where "
            + "o group by p , q having r union select 5 union all select distinct 6 intersect select 7 except select "
            + "8 order by s , t asc , u desc limit 9 offset 10",
        "select count ( * ) , count ( a ) , sum ( distinct b ) , avg ( c ) , min ( d ) , max ( e ) , "
            + "group_concat ( f )",
        "select replace ( a , b , c ) , cast ( d as integer ) , case when e then f when g then h end , "
            + "exists ( select 1 )",
        "select not not a or - - b + c * d / e % f - g || h || i <= j and k is not null and l not like m",
        "select a between b and c and d not between - e and ( f ) or ( ( g ) ) in ( ( h ) , i ) , "
            + "( ( select j ) ) > k",
        "select a . b , f ( g ( ) , h ( 1 , 2 ) ) , ( a = b ) = ( c != d ) , ( a < b ) , 1.50 , 'it''s' , null"};

    private Samples() {
    }
}
