/**
 * What holds for every text of the GRAMMAR, however far it has come: its beginnings go on, a wrong TOKEN is told
 * where it stands, and gaps and great letters change nothing but places (promises 6 to 11).
 */
public final class PrefixTest {
    public static void main(String[] args) {
        for (String text : Samples.TEXTS) {
            String[] tokens = text.split(" (?=(?:[^']*'[^']*')*[^']*$)");
            beginningsGoOn(tokens);
            wrongTokenIsTold(tokens);
            gapsChangePlacesAlone(text, tokens);
        }
        Check.finish();
    }

    private static String joined(String[] tokens, int count, String gap) {
        StringBuilder out = new StringBuilder();
        for (int i = 0; i < count; i++) {
            out.append(i == 0 ? "" : gap).append(tokens[i]);
        }
        return out.toString();
    }

    private static void beginningsGoOn(String[] tokens) {
        for (int count = 0; count <= tokens.length; count++) {
            String text = joined(tokens, count, " ");
            int outcome = Check.outcome(text);
            if (outcome < 0) {
                Check.same("place told of " + text, -2 - outcome, text.length());
            }
        }
    }

    private static void wrongTokenIsTold(String[] tokens) {
        for (int count = 0; count <= tokens.length; count++) {
            String text = joined(tokens, count, "\n") + "\n";
            Check.refused(text + "!", text.length());
            Check.refused(text + "'open", text.length());
            Check.refused(text + "99999999999999999999 " + joined(tokens, tokens.length, " "), text.length());
        }
    }

    private static void gapsChangePlacesAlone(String text, String[] tokens) {
        String due = withoutPlaces(text);
        Check.same("great letters in " + text, withoutPlaces(text.toUpperCase()), due);
        Check.same("newlines in " + text, withoutPlaces(joined(tokens, tokens.length, " \n")), due);
        Check.same("comments in " + text, withoutPlaces(joined(tokens, tokens.length, " --;')\n")), due);
    }

    private static String withoutPlaces(String text) {
        SqlReader reader = Check.of(text);
        StringBuilder out = new StringBuilder();
        int statements = reader.read();
        for (int i = 0; i < statements; i++) {
            out.append(Check.tree(reader, i).replaceAll("[@/][0-9]+", "")).append(';');
        }
        return out.toString();
    }
}
