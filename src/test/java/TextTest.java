/** A new object, and what comes to THE TEXT and goes from it: promises 1 to 5. */
public final class TextTest {
    private static final int MOST = 65536;

    public static void main(String[] args) {
        newObject();
        feed();
        feedAtTheLimit();
        add();
        addAtTheLimit();
        byteAt();
        cut();
        wrongCuts();
        refusedCallsChangeNothing();
        Check.finish();
    }

    private static void newObject() {
        SqlReader reader = new SqlReader();
        Check.noIndex("byteAt(0) of a new object", () -> reader.byteAt(0));
        Check.same("edges of a new object", reader.edges(), 0);
        Check.same("where of a new object", reader.where(), -1);
        Check.noIndex("statement(0) of a new object", () -> reader.statement(0));
        Check.noIndex("edge(0, false) of a new object", () -> reader.edge(0, false));
        Check.noIndex("node(0, 0) of a new object", () -> reader.node(0, 0));
        Check.noIndex("whole(0) of a new object", () -> reader.whole(0));
        Check.noIndex("real(0) of a new object", () -> reader.real(0));
        Check.same("end(0) of a new object", reader.end(0), 0);
        Check.same("read of a new object", reader.read(), 0);
        Check.same("where of an empty text", reader.where(), -1);
        Check.same("edges of an empty text", reader.edges(), 0);
        Check.same("first byte of a new object", new SqlReader().add(65), 1);
    }

    private static void feed() {
        SqlReader reader = new SqlReader();
        Check.same("feed", reader.feed(0x00010203, 0x7F80FFFE, -1, Integer.MIN_VALUE, 0x41424344), 20);
        int[] due = {0, 1, 2, 3, 127, 128, 255, 254, 255, 255, 255, 255, 128, 0, 0, 0, 65, 66, 67, 68};
        for (int i = 0; i < due.length; i++) {
            Check.same("byte " + i + " of a feed", reader.byteAt(i), due[i]);
        }
        Check.noIndex("byteAt(20) behind one feed", () -> reader.byteAt(20));
        Check.same("a feed behind a feed", reader.feed(1, 2, 3, 4, 5), 40);
        Check.same("a byte of the second feed", reader.byteAt(39), 5);
    }

    private static SqlReader filled(int length) {
        SqlReader reader = new SqlReader();
        for (int i = 0; i < length / 20; i++) {
            reader.feed(0x20202020, 0x20202020, 0x20202020, 0x20202020, 0x20202020);
        }
        for (int i = length - length % 20; i < length; i++) {
            reader.add(' ');
        }
        return reader;
    }

    private static void feedAtTheLimit() {
        SqlReader full = filled(MOST - 20);
        Check.same("the last feed that fits", full.feed(0, 0, 0, 0, 9), MOST);
        Check.same("the last byte of a full text", full.byteAt(MOST - 1), 9);
        SqlReader reader = filled(MOST - 19);
        Check.noState("a feed with 19 free", () -> reader.feed(-1, -1, -1, -1, -1));
        Check.noIndex("byteAt behind a feed that threw", () -> reader.byteAt(MOST - 19));
        Check.same("an add behind a feed that threw", reader.add(7), MOST - 18);
        Check.noState("a feed to a full text", () -> full.feed(1, 1, 1, 1, 1));
    }

    private static void add() {
        SqlReader reader = new SqlReader();
        int[] bytes = {0, 65, 255, 256, -1, 0x141, Integer.MIN_VALUE, 128};
        for (int i = 0; i < bytes.length; i++) {
            Check.same("add(" + bytes[i] + ")", reader.add(bytes[i]), i + 1);
            Check.same("byteAt of add(" + bytes[i] + ")", reader.byteAt(i), bytes[i] & 255);
        }
    }

    private static void addAtTheLimit() {
        SqlReader reader = filled(MOST - 1);
        Check.same("the last add that fits", reader.add('x'), MOST);
        Check.noState("an add to a full text", () -> reader.add('y'));
        Check.same("the last byte behind an add that threw", reader.byteAt(MOST - 1), 'x');
        Check.noArgument("read of a full text of one word", () -> reader.read());
        Check.same("where of it", reader.where(), MOST - 1);
        Check.same("end of it", reader.end(MOST - 1), 1);
        Check.same("read of blanks", reader.read(), 0);
        Check.same("an add that fits again", reader.add(';'), MOST);
        Check.same("read of a full text", reader.read(), 0);
    }

    private static void byteAt() {
        SqlReader reader = Check.of("ab\u00ff");
        Check.same("byteAt(0)", reader.byteAt(0), 'a');
        Check.same("byteAt(1)", reader.byteAt(1), 'b');
        Check.same("byteAt(2)", reader.byteAt(2), 255);
        Check.noIndex("byteAt(3)", () -> reader.byteAt(3));
        Check.noIndex("byteAt(-1)", () -> reader.byteAt(-1));
        Check.noIndex("byteAt(least)", () -> reader.byteAt(Integer.MIN_VALUE));
        Check.noIndex("byteAt(greatest)", () -> reader.byteAt(Integer.MAX_VALUE));
    }

    private static void cut() {
        SqlReader reader = Check.of("abcdef");
        Check.same("end(6) of six", reader.end(6), 0);
        Check.same("end(4) of six", reader.end(4), 2);
        Check.noIndex("byteAt(4) behind end(4)", () -> reader.byteAt(4));
        Check.same("byteAt(3) behind end(4)", reader.byteAt(3), 'd');
        Check.same("add behind end(4)", reader.add('x'), 5);
        Check.same("byteAt(4) behind that", reader.byteAt(4), 'x');
        Check.same("end(0)", reader.end(0), 5);
        Check.noIndex("byteAt(0) behind end(0)", () -> reader.byteAt(0));
        Check.same("end(0) once more", reader.end(0), 0);
    }

    private static void wrongCuts() {
        SqlReader reader = Check.of("begin");
        reader.read();
        Check.noArgument("end(6) of five", () -> reader.end(6));
        Check.noArgument("end(-1)", () -> reader.end(-1));
        Check.noArgument("end(greatest)", () -> reader.end(Integer.MAX_VALUE));
        Check.noArgument("end(least)", () -> reader.end(Integer.MIN_VALUE));
        Check.same("edges behind ends that threw", reader.edges(), 1);
        Check.same("byteAt(4) behind ends that threw", reader.byteAt(4), 'n');
    }

    private static void refusedCallsChangeNothing() {
        SqlReader reader = filled(MOST - 6);
        Check.put(reader, "begin;");
        Check.same("read of a full text", reader.read(), 1);
        Check.same("statement of a full text", reader.statement(0), 1);
        Check.noState("feed", () -> reader.feed(1, 2, 3, 4, 5));
        Check.noState("add", () -> reader.add(1));
        Check.noArgument("end", () -> reader.end(MOST + 1));
        Check.same("edges behind all that threw", reader.edges(), 1);
        Check.same("edge behind all that threw", reader.edge(0, true), MOST - 1);
        Check.same("node behind all that threw", reader.node(0, 2), MOST - 6);
        Check.same("statement behind all that threw", reader.statement(0), 1);
    }
}
