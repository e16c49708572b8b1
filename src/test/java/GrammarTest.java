import java.util.ArrayList;
import java.util.HashSet;
import java.util.List;
import java.util.Random;
import java.util.Set;

/**
 * "GRAMMAR": texts made from the document's own rules, as they are and with TOKENS changed, are read, or the
 * TOKEN is told with which nothing goes on, just as a general way through these rules has it.
 */
public final class GrammarTest {
    private static final int TEXTS = 6000;
    private static final int MOST_TOKENS = 100;
    private static final int FEW = 20;
    private static final int MOST_OPEN = 30;
    private static final String[] NAMES = {"a", "B", "_", "x1", "ends", "abcdefghijklmnopqrstuvwxyz_789"};
    private static final String[] INTEGERS = {"0", "7", "0042", "9223372036854775807"};
    private static final String[] DECIMALS = {"1.5", "0.25", "12345678901234.5"};
    private static final String[] QUOTED = {"''", "'a'", "'it''s'", "'--'", "'a\n;'"};
    private static final String[] GAPS = {" ", "\n", " -- ;'\n", "  \n"};
    private static final String[] STARTS = {"@TEXT", "@STATEMENT", "@STATEMENT", "@STATEMENT", "@QUERY", "@EXPR",
        "@EXPR", "@JOINED", "@PART"};

    private final Random chance = new Random(20261115);
    private final Grammar grammar = new Grammar();

    public static void main(String[] args) {
        GrammarTest test = new GrammarTest();
        test.madeTexts();
        test.everyTokenBehindBeginnings();
        Check.finish();
    }

    private void madeTexts() {
        int good = 0;
        int bad = 0;
        for (int i = 0; i < TEXTS; i++) {
            List<String> tokens = tokens();
            if (mayBeTooDeep(tokens)) {
                continue;
            }
            List<Integer> places = new ArrayList<>();
            String text = written(tokens, places);
            int wrong = grammar.firstWrong(tokens);
            if (wrong < 0) {
                Check.good(text, statements(tokens));
                good++;
            } else {
                Check.refused(text, wrong < places.size() ? places.get(wrong) : text.length());
                bad++;
            }
        }
        Check.same("enough of " + good + " good, " + bad + " bad ones", Math.min(good, bad) > TEXTS / 5 ? 1 : 0, 1);
    }

    /** Behind each beginning that stands elsewhere in the rules than those before, every TOKEN is tried. */
    private void everyTokenBehindBeginnings() {
        Set<Object> seen = new HashSet<>();
        for (int i = 0; i < TEXTS / 5; i++) {
            List<String> tokens = derived();
            List<Grammar.Beginning> beginnings = grammar.beginnings(tokens);
            for (int count = 0; count < beginnings.size() && count < FEW; count++) {
                if (seen.add(beginnings.get(count).stand())) {
                    everyTokenBehind(tokens.subList(0, count), beginnings.get(count));
                }
            }
        }
        Check.same("enough of " + seen.size() + " beginnings", seen.size() > TEXTS / 10 ? 1 : 0, 1);
    }

    private void everyTokenBehind(List<String> tokens, Grammar.Beginning beginning) {
        String before = written(tokens, new ArrayList<>()) + " ";
        if (!beginning.isText()) {
            Check.refused(before, before.length());
        }
        for (String token : grammar.tokens()) {
            String text = before + written(token);
            boolean isWrong = Check.outcome(text) == -2 - before.length();
            Check.same("goes on: " + text, isWrong ? 0 : 1, beginning.goesOn().contains(token) ? 1 : 0);
        }
    }

    private List<String> tokens() {
        List<String> tokens = derived();
        if (chance.nextInt(5) < 3) {
            change(tokens);
        }
        return tokens;
    }

    private List<String> derived() {
        List<String> tokens = new ArrayList<>();
        do {
            tokens.clear();
            String start = STARTS[chance.nextInt(STARTS.length)];
            tokens.addAll(List.of(before(start)));
            grammar.derive(start, 8 + chance.nextInt(28), chance, tokens);
            if (start.equals("@PART")) {
                tokens.add(")");
            }
        } while (tokens.size() > MOST_TOKENS);
        return tokens;
    }

    /** What makes a STATEMENT of a rule that stands inside of one. */
    private static String[] before(String rule) {
        switch (rule) {
            case "@EXPR":
                return new String[] {"select"};
            case "@JOINED":
                return new String[] {"select", "n", "from", "n"};
            case "@PART":
                return new String[] {"create", "table", "n", "("};
            default:
                return new String[0];
        }
    }

    private void change(List<String> tokens) {
        int at = chance.nextInt(tokens.size() + 1);
        String other = grammar.tokens().get(chance.nextInt(grammar.tokens().size()));
        switch (chance.nextInt(4)) {
            case 0:
                tokens.add(at, other);
                break;
            case 1:
                tokens.subList(at, tokens.size()).clear();
                break;
            case 2:
                tokens.subList(at, Math.min(at + 1, tokens.size())).clear();
                break;
            default:
                tokens.subList(at, Math.min(at + 1, tokens.size())).clear();
                tokens.add(at, other);
                break;
        }
    }

    /** What is open at once is no rule of the GRAMMAR: LimitsTest is for it. */
    private static boolean mayBeTooDeep(List<String> tokens) {
        return tokens.stream().filter(t -> List.of("(", "case", "not", "-").contains(t)).count() > MOST_OPEN;
    }

    private static int statements(List<String> tokens) {
        int found = 0;
        for (int i = 0; i < tokens.size(); i++) {
            boolean isFirst = i == 0 || tokens.get(i - 1).equals(";");
            found += isFirst && !tokens.get(i).equals(";") ? 1 : 0;
        }
        return found;
    }

    private String written(List<String> tokens, List<Integer> places) {
        StringBuilder text = new StringBuilder();
        for (String token : tokens) {
            text.append(GAPS[chance.nextInt(10) < 7 ? 0 : chance.nextInt(GAPS.length)]);
            places.add(text.length());
            text.append(written(token));
        }
        return text.append(chance.nextInt(4) == 0 ? GAPS[chance.nextInt(GAPS.length)] : "").toString();
    }

    private String written(String token) {
        switch (token) {
            case "n":
                return one(NAMES);
            case "#integer":
                return one(INTEGERS);
            case "#decimal":
                return one(DECIMALS);
            case "#text":
                return one(QUOTED);
            case "<>":
                return chance.nextBoolean() ? "<>" : "!=";
            default:
                return chance.nextInt(5) == 0 ? token.toUpperCase() : token;
        }
    }

    private String one(String[] of) {
        return of[chance.nextInt(of.length)];
    }
}
