/**
 * Calls that are refused, in every state that an object can be in: the exception is the document's, and nothing else
 * has changed. The same for calls that only ask (promises 2 to 5 and 7 to 13).
 */
public final class RefusedTest {
    private static final int MOST = 65536;
    private static final String GOOD = "begin; select 12.5, a;";
    private static final String WRONG = "begin; select 12.5, ;";

    private static final int STATES = 8;

    public static void main(String[] args) {
        for (int state = 0; state < STATES; state++) {
            refusedAlways(state);
            refusedOfFullText(state);
            askedOnly(state);
        }
        readChangesNoText();
        Check.finish();
    }

    /** An object in a state, its THE TEXT being so long. */
    private static SqlReader inState(int state, int bytes) {
        SqlReader reader = Check.filled(bytes, state == 5 || state == 6 ? WRONG : GOOD);
        if (state > 0) {
            read(reader);
        }
        if (state >= 2 && state <= 4) {
            reader.statement(1);
        }
        if (state == 3 || state == 6 || state == 7) {
            reader.end(bytes - 1);
            reader.add(' ');
        }
        if (state == 4) {
            reader.end(bytes - 1);
            reader.add('!');
            read(reader);
            reader.end(bytes - 1);
            reader.add(';');
        }
        return reader;
    }

    private static void read(SqlReader reader) {
        try {
            reader.read();
        } catch (IllegalArgumentException e) {
            // The state of a refused read is one of those that are looked at.
        }
    }

    private static void refusedAlways(int state) {
        SqlReader reader = inState(state, 40);
        String before = Check.state(reader);
        int[] wrong = {-1, 41, MOST, Integer.MIN_VALUE, Integer.MAX_VALUE};
        for (int value : wrong) {
            String with = "(" + value + ") in state " + state;
            Check.noIndex("byteAt" + with, () -> reader.byteAt(value));
            Check.noArgument("end" + with, () -> reader.end(value));
            Check.noIndex("statement" + with, () -> reader.statement(value));
            Check.noIndex("edge" + with, () -> reader.edge(value, false));
            Check.noIndex("edge end" + with, () -> reader.edge(value, true));
            Check.noIndex("node" + with, () -> reader.node(value, 0));
            Check.noIndex("whole" + with, () -> reader.whole(value));
            Check.noIndex("real" + with, () -> reader.real(value));
            Check.same("all behind refused calls with " + with, Check.state(reader), before);
        }
        Check.same("an add behind them in state " + state, reader.add('x'), 41);
    }

    private static void refusedOfFullText(int state) {
        SqlReader reader = inState(state, MOST);
        String before = Check.state(reader);
        Check.noState("feed in state " + state, () -> reader.feed(0, 0, 0, 0, 0));
        Check.same("all behind a refused feed in state " + state, Check.state(reader), before);
        Check.noState("add in state " + state, () -> reader.add(0));
        Check.same("all behind a refused add in state " + state, Check.state(reader), before);
        Check.noArgument("end in state " + state, () -> reader.end(MOST + 1));
        Check.same("all behind a refused end in state " + state, Check.state(reader), before);
    }

    private static void askedOnly(int state) {
        SqlReader reader = inState(state, 40);
        String before = Check.state(reader);
        Check.same("all that was only asked in state " + state, Check.state(reader), before);
        Check.same("end(40) in state " + state, reader.end(40), 0);
    }

    /** "THE TEXT is read": whether it is of the GRAMMAR or not, it stays. */
    private static void readChangesNoText() {
        String[] texts = {GOOD, WRONG, "", "'", "!"};
        for (String text : texts) {
            SqlReader reader = Check.of(text);
            read(reader);
            read(reader);
            for (int i = 0; i < text.length(); i++) {
                Check.same("byte " + i + " behind read of " + text, reader.byteAt(i), text.charAt(i));
            }
            Check.noIndex("byte behind the last of " + text, () -> reader.byteAt(text.length()));
            Check.same("an add behind read of " + text, reader.add('x'), text.length() + 1);
        }
    }
}
