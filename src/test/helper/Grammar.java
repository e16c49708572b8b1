import java.util.ArrayList;
import java.util.HashMap;
import java.util.HashSet;
import java.util.List;
import java.util.Map;
import java.util.Random;
import java.util.Set;

/**
 * The document's GRAMMAR, rule by rule in its own words, and Earley's way to go through a row of TOKENS with it.
 * It shares nothing with the program: no rule is turned into code here, and nothing is decided by looking ahead.
 *
 * As in the document, but so that its signs can't be taken for TOKENS: [[ ]] is once or not, {{ }} any number of
 * times, (( )) holds what is one of several, a rule stands in angle brackets, and #integer, #decimal and #text
 * are TOKENS that can't be written as words.
 */
final class Grammar {
    private static final String[] RULES = {
        "TEXT = [[ <STATEMENT> ]] {{ ; [[ <STATEMENT> ]] }}",
        "STATEMENT = create table [[ if not exists ]] n ( <PART> {{ , <PART> }} )"
            + " | create [[ unique ]] index [[ if not exists ]] n on n ( n [[ desc ]] {{ , n [[ desc ]] }} )"
            + " | create view [[ if not exists ]] n [[ ( n {{ , n }} ) ]] as <QUERY>"
            + " | drop (( table | index | view )) [[ if exists ]] n"
            + " | insert [[ or ignore | or replace ]] into n [[ ( n {{ , n }} ) ]] (( <VALUES> | <QUERY> ))"
            + " | update n set n = <EXPR> {{ , n = <EXPR> }} [[ where <EXPR> ]]"
            + " | delete from n [[ where <EXPR> ]] | <QUERY> | begin | commit | rollback [[ to n ]]"
            + " | savepoint n | release n",
        "PART = <COLUMN> | primary key ( n {{ , n }} ) | unique ( n {{ , n }} ) | check ( <EXPR> )",
        "COLUMN = n <TYPE> {{ not null | primary key | unique | default <CONSTANT> | check ( <EXPR> )"
            + " | references n ( n ) [[ on delete cascade | on delete set null | on delete restrict ]] }}",
        "TYPE = integer | real | text",
        "CONSTANT = null | [[ - ]] <NUMBER> | #text",
        "NUMBER = #integer | #decimal",
        "VALUES = values ( <EXPR> {{ , <EXPR> }} ) {{ , ( <EXPR> {{ , <EXPR> }} ) }}",
        "QUERY = [[ with n [[ ( n {{ , n }} ) ]] as ( <QUERY> ) {{ , n [[ ( n {{ , n }} ) ]] as ( <QUERY> ) }} ]]"
            + " <CORE> {{ (( union | union all | intersect | except )) <CORE> }}"
            + " [[ order by <KEY> {{ , <KEY> }} ]] [[ limit #integer [[ offset #integer ]] ]]",
        "KEY = <EXPR> [[ asc | desc ]]",
        "CORE = select [[ distinct ]] <ITEM> {{ , <ITEM> }} [[ from <SOURCE> {{ <JOINED> }} ]] [[ where <EXPR> ]]"
            + " [[ group by <EXPR> {{ , <EXPR> }} ]] [[ having <EXPR> ]]",
        "ITEM = * | n . * | <EXPR> [[ [[ as ]] n ]]",
        "SOURCE = n [[ [[ as ]] n ]] | ( <QUERY> ) [[ as ]] n",
        "JOINED = , <SOURCE> | cross join <SOURCE> | [[ inner ]] join <SOURCE> [[ on <EXPR> ]]"
            + " | left [[ outer ]] join <SOURCE> on <EXPR>",
        "EXPR = <AND> {{ or <AND> }}",
        "AND = <NOT> {{ and <NOT> }}",
        "NOT = not <NOT> | <TEST>",
        "TEST = <SUM> [[ <CMP> <SUM> | is [[ not ]] null | [[ not ]] like <SUM>"
            + " | [[ not ]] between <SUM> and <SUM> | [[ not ]] in ( <QUERY> )"
            + " | [[ not ]] in ( <EXPR> {{ , <EXPR> }} ) ]]",
        "CMP = = | <> | < | <= | > | >=",
        "SUM = <PRODUCT> {{ (( + | - )) <PRODUCT> }}",
        "PRODUCT = <JOINT> {{ (( * | / | % )) <JOINT> }}",
        "JOINT = <SIGNED> {{ || <SIGNED> }}",
        "SIGNED = - <SIGNED> | <ATOM>",
        "ATOM = <NUMBER> | #text | null | n | n . n | n ( [[ <EXPR> {{ , <EXPR> }} ]] ) | count ( * )"
            + " | <AGGREGATE> ( [[ distinct ]] <EXPR> ) | replace ( <EXPR> , <EXPR> , <EXPR> )"
            + " | case [[ <EXPR> ]] when <EXPR> then <EXPR> {{ when <EXPR> then <EXPR> }} [[ else <EXPR> ]] end"
            + " | cast ( <EXPR> as <TYPE> ) | exists ( <QUERY> ) | ( <EXPR> ) | ( <QUERY> )",
        "AGGREGATE = count | sum | avg | min | max | group_concat",
    };
    private static final int FAR = 1000;
    private static final int LONG = 60;

    /** One of the rows of symbols that a rule may be; in it a rule's name begins with an @. */
    private static final class Row {
        final String rule;
        final List<String> symbols;

        Row(String rule, List<String> symbols) {
            this.rule = rule;
            this.symbols = symbols;
        }
    }

    /** A row that has been begun: from a TOKEN on, and done up to a symbol in it. */
    private record Begun(Row row, int done, int from) {
        boolean isWhole() {
            return done == row.symbols.size();
        }

        String next() {
            return isWhole() ? "" : row.symbols.get(done);
        }

        Begun further() {
            return new Begun(row, done + 1, from);
        }
    }

    private final Map<String, List<Row>> rules = new HashMap<>();
    /** How many rules deep the shortest way through a rule goes. */
    private final Map<String, Integer> least = new HashMap<>();
    private final Set<String> mayBeEmpty = new HashSet<>();
    private final List<String> tokens = new ArrayList<>();
    private String[] words;
    private int at;

    Grammar() {
        for (String rule : RULES) {
            String[] sides = rule.split(" = ", 2);
            words = sides[1].split(" ");
            at = 0;
            keep("@" + sides[0], alternatives(""));
        }
        for (int turn = 0; turn < rules.size(); turn++) {
            rules.values().forEach(this::look);
        }
        Set<String> all = new HashSet<>();
        rules.values().forEach(rows -> rows.forEach(row -> all.addAll(row.symbols)));
        all.removeAll(rules.keySet());
        tokens.addAll(all);
        tokens.sort(null);
    }

    /** Every TOKEN of the GRAMMAR, once. */
    List<String> tokens() {
        return tokens;
    }

    private void keep(String rule, List<List<String>> alternatives) {
        List<Row> rows = new ArrayList<>();
        alternatives.forEach(symbols -> rows.add(new Row(rule, symbols)));
        rules.put(rule, rows);
    }

    private void look(List<Row> rows) {
        for (Row row : rows) {
            least.merge(row.rule, depth(row), Math::min);
            if (mayBeEmpty.containsAll(row.symbols)) {
                mayBeEmpty.add(row.rule);
            }
        }
    }

    private int depth(Row row) {
        int most = 0;
        for (String symbol : row.symbols) {
            most = Math.max(most, symbol.startsWith("@") ? least.getOrDefault(symbol, FAR) : 0);
        }
        return most + 1;
    }

    private List<List<String>> alternatives(String stop) {
        List<List<String>> found = new ArrayList<>();
        found.add(symbols(stop));
        while (at < words.length && words[at].equals("|")) {
            at++;
            found.add(symbols(stop));
        }
        return found;
    }

    private List<String> symbols(String stop) {
        List<String> found = new ArrayList<>();
        while (at < words.length && !words[at].equals("|") && !words[at].equals(stop)) {
            String word = words[at];
            at++;
            if (word.equals("[[") || word.equals("{{") || word.equals("((")) {
                found.add(group(word));
            } else {
                found.add(word.matches("<[A-Z]+>") ? "@" + word.substring(1, word.length() - 1) : word);
            }
        }
        return found;
    }

    /** A rule of its own for what stands behind one of [[ {{ (( and before its end. */
    private String group(String begin) {
        List<List<String>> inside = alternatives(begin.equals("[[") ? "]]" : begin.equals("{{") ? "}}" : "))");
        at++;
        String name = "@" + rules.size() + begin;
        if (begin.equals("{{")) {
            inside.forEach(symbols -> symbols.add(name));
        }
        if (!begin.equals("((")) {
            inside.add(new ArrayList<>());
        }
        keep(name, inside);
        return name;
    }

    /** Writes what a symbol may be, made by chance, about as deep as told, and soon ended once it is long. */
    void derive(String symbol, int deep, Random chance, List<String> out) {
        if (!rules.containsKey(symbol)) {
            out.add(symbol);
            return;
        }
        List<Row> fit = new ArrayList<>(rules.get(symbol));
        int most = Math.max(out.size() < LONG ? deep : 0, least.get(symbol));
        fit.removeIf(row -> depth(row) > most);
        for (String part : fit.get(chance.nextInt(fit.size())).symbols) {
            derive(part, deep - 1, chance, out);
        }
    }

    /**
     * A beginning of a row of TOKENS: with which TOKENS it goes on, whether it is a TEXT as it is, and where in
     * which rules it stands, however it came there.
     */
    record Beginning(Set<String> goesOn, boolean isText, Set<?> stand) {
    }

    /** The beginnings of a row of TOKENS, from the empty one up to the longest with which anything goes on. */
    List<Beginning> beginnings(List<String> text) {
        List<Beginning> found = new ArrayList<>();
        List<Set<Begun>> all = new ArrayList<>();
        List<Begun> here = new ArrayList<>();
        rules.get("@TEXT").forEach(row -> here.add(new Begun(row, 0, 0)));
        for (int i = 0; i <= text.size() && !here.isEmpty(); i++) {
            all.add(closed(here, all));
            found.add(beginning(all.get(i)));
            here.clear();
            for (Begun begun : all.get(i)) {
                if (i < text.size() && begun.next().equals(text.get(i))) {
                    here.add(begun.further());
                }
            }
        }
        return found;
    }

    private Beginning beginning(Set<Begun> here) {
        Set<String> goesOn = new HashSet<>();
        Set<Begun> stand = new HashSet<>();
        boolean isText = false;
        for (Begun begun : here) {
            goesOn.add(begun.next());
            stand.add(new Begun(begun.row(), begun.done(), 0));
            isText |= begun.row().rule.equals("@TEXT") && begun.isWhole();
        }
        goesOn.retainAll(tokens);
        return new Beginning(goesOn, isText, stand);
    }

    /** Which TOKEN it is with which nothing goes on, their number if the end is missing; -1 if they are a TEXT. */
    int firstWrong(List<String> text) {
        List<Beginning> found = beginnings(text);
        boolean isText = found.size() > text.size() && found.get(text.size()).isText();
        return isText ? -1 : found.size() - 1;
    }

    /** All that is begun where these are: what they wait for, and what goes on because they are whole. */
    private Set<Begun> closed(List<Begun> here, List<Set<Begun>> before) {
        Set<Begun> found = new HashSet<>(here);
        List<Begun> line = new ArrayList<>(here);
        for (int i = 0; i < line.size(); i++) {
            List<Begun> more = line.get(i).isWhole() ? goOn(line.get(i), before) : wait(line.get(i), before.size());
            more.removeIf(begun -> !found.add(begun));
            line.addAll(more);
        }
        return found;
    }

    private static List<Begun> goOn(Begun whole, List<Set<Begun>> before) {
        List<Begun> more = new ArrayList<>();
        // One that is whole and empty began here: those that wait for it have passed it over.
        if (whole.from() < before.size()) {
            for (Begun begun : before.get(whole.from())) {
                if (begun.next().equals(whole.row().rule)) {
                    more.add(begun.further());
                }
            }
        }
        return more;
    }

    private List<Begun> wait(Begun begun, int from) {
        List<Begun> more = new ArrayList<>();
        rules.getOrDefault(begun.next(), List.of()).forEach(row -> more.add(new Begun(row, 0, from)));
        if (mayBeEmpty.contains(begun.next())) {
            more.add(begun.further());
        }
        return more;
    }
}
