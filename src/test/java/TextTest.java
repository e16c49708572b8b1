/** A new object, and what comes to THE TEXT and goes from it: promises 1 to 5. Above a test: the words it is for. */
public final class TextTest {
    private static final int MOST = 65536;

    public static void main(String[] args) {
        newObject();
        feedOrder();
        feedThatFits();
        feedThatDoesNotFit();
        addOrder();
        addThatFits();
        addThatDoesNotFit();
        lowBitsOfAdd();
        byteAt();
        byteAtWhereThereIsNone();
        byteAtOfFullText();
        cut();
        cutOfAll();
        cutOfNothing();
        wrongCuts();
        fullTextIsRead();
        Check.finish();
    }

    /** "An empty THE TEXT, no STATEMENTS." */
    private static void newObject() {
        SqlReader reader = new SqlReader();
        Check.noIndex("byteAt(0) of a new object", () -> reader.byteAt(0));
        Check.same("edges of a new object", reader.edges(), 0);
        Check.same("where of a new object", reader.where(), -1);
        Check.noIndex("statement(0) of a new object", () -> reader.statement(0));
        Check.noIndex("edge(0, false) of a new object", () -> reader.edge(0, false));
        Check.noIndex("edge(0, true) of a new object", () -> reader.edge(0, true));
        Check.noIndex("node(0, 0) of a new object", () -> reader.node(0, 0));
        Check.noIndex("whole(0) of a new object", () -> reader.whole(0));
        Check.noIndex("real(0) of a new object", () -> reader.real(0));
        Check.noArgument("end(1) of a new object", () -> reader.end(1));
        Check.same("end(0) of a new object", reader.end(0), 0);
        Check.same("read of a new object", reader.read(), 0);
        Check.same("where of an empty text", reader.where(), -1);
        Check.same("edges of an empty text", reader.edges(), 0);
        Check.same("first byte of a new object", new SqlReader().add(65), 1);
        Check.same("first feed of a new object", new SqlReader().feed(1, 2, 3, 4, 5), 20);
    }

    /** "20 bytes, the highest of a first, come to the end of THE TEXT: how many it has." */
    private static void feedOrder() {
        SqlReader reader = new SqlReader();
        Check.same("feed", reader.feed(0x00010203, 0x7F80FFFE, -1, Integer.MIN_VALUE, 0x41424344), 20);
        int[] due = {0, 1, 2, 3, 127, 128, 255, 254, 255, 255, 255, 255, 128, 0, 0, 0, 65, 66, 67, 68};
        for (int i = 0; i < due.length; i++) {
            Check.same("byte " + i + " of a feed", reader.byteAt(i), due[i]);
        }
        Check.noIndex("byteAt(20) behind one feed", () -> reader.byteAt(20));
        Check.same("a feed behind a feed", reader.feed(1, 2, 3, 4, 5), 40);
        Check.same("a byte of the second feed", reader.byteAt(39), 5);
        Check.same("a byte of the first feed", reader.byteAt(19), 68);
        reader.add(9);
        Check.same("a feed behind an add", reader.feed(0x06000000, 0, 0, 0, 7), 61);
        Check.same("its first byte", reader.byteAt(41), 6);
        Check.same("its last byte", reader.byteAt(60), 7);
    }

    /** "THE TEXT is a row of at most 65536 bytes": the last feed that fits fills it. */
    private static void feedThatFits() {
        SqlReader reader = Check.filled(MOST - 20, "x");
        Check.same("the last feed that fits", reader.feed(8, 0, 0, 0, 9), MOST);
        Check.same("the byte before it", reader.byteAt(MOST - 21), 'x');
        Check.same("the last byte of a full text", reader.byteAt(MOST - 1), 9);
        Check.same("a feed with 40 free", Check.filled(MOST - 40, "").feed(0, 0, 0, 0, 0), MOST - 20);
    }

    /** "IllegalStateException if there would be more than 65536 (nothing changes then)." */
    private static void feedThatDoesNotFit() {
        int[] free = {19, 18, 4, 1, 0};
        for (int left : free) {
            SqlReader reader = Check.filled(MOST - left, "begin");
            reader.read();
            reader.statement(0);
            String before = Check.state(reader);
            Check.noState("a feed with " + left + " free", () -> reader.feed(-1, -1, -1, -1, -1));
            Check.same("all behind a feed with " + left + " free", Check.state(reader), before);
        }
        SqlReader reader = Check.filled(MOST - 19, "");
        Check.noState("a feed with 19 free", () -> reader.feed(1, 1, 1, 1, 1));
        Check.same("an add behind a feed that threw", reader.add(7), MOST - 18);
        Check.same("the byte of that add", reader.byteAt(MOST - 19), 7);
        Check.same("an end that makes room", reader.end(MOST - 20), 2);
        Check.same("a feed behind that", reader.feed(1, 1, 1, 1, 1), MOST);
    }

    /** "One byte ... comes to the end of THE TEXT: how many it has." */
    private static void addOrder() {
        SqlReader reader = new SqlReader();
        for (int i = 0; i < 300; i++) {
            Check.same("add for the time " + i, reader.add(i), i + 1);
        }
        for (int i = 0; i < 300; i++) {
            Check.same("byte of add " + i, reader.byteAt(i), i % 256);
        }
    }

    /** "THE TEXT is a row of at most 65536 bytes": the last add that fits fills it. */
    private static void addThatFits() {
        SqlReader reader = Check.filled(MOST - 2, "");
        Check.same("the last add but one", reader.add('w'), MOST - 1);
        Check.same("the last add that fits", reader.add('x'), MOST);
        Check.same("its byte", reader.byteAt(MOST - 1), 'x');
    }

    /** "IllegalStateException if it has 65536." */
    private static void addThatDoesNotFit() {
        SqlReader reader = Check.filled(MOST, "begin");
        reader.read();
        reader.statement(0);
        String before = Check.state(reader);
        Check.noState("an add to a full text", () -> reader.add('y'));
        Check.noState("an add of 0 to a full text", () -> reader.add(0));
        Check.same("all behind adds that threw", Check.state(reader), before);
        Check.same("an end that makes room", reader.end(MOST - 1), 1);
        Check.same("an add behind that", reader.add('z'), MOST);
        Check.same("its byte", reader.byteAt(MOST - 1), 'z');
    }

    /** "the low 8 bits of b" */
    private static void lowBitsOfAdd() {
        SqlReader reader = new SqlReader();
        int[] bytes = {0, 65, 127, 128, 255, 256, 257, -1, -128, -129, -256, 0x141, Integer.MIN_VALUE,
            Integer.MAX_VALUE, 0x7FFFFF00};
        for (int i = 0; i < bytes.length; i++) {
            Check.same("add(" + bytes[i] + ")", reader.add(bytes[i]), i + 1);
            Check.same("byteAt of add(" + bytes[i] + ")", reader.byteAt(i), bytes[i] & 255);
        }
    }

    /** "The byte of THE TEXT at a place, 0 to 255." */
    private static void byteAt() {
        SqlReader reader = new SqlReader();
        for (int b = 0; b < 256; b++) {
            reader.add(b);
        }
        for (int b = 0; b < 256; b++) {
            Check.same("byteAt(" + b + ")", reader.byteAt(b), b);
        }
    }

    /** "IndexOutOfBoundsException if there is none." */
    private static void byteAtWhereThereIsNone() {
        SqlReader reader = Check.of("begin");
        reader.read();
        reader.statement(0);
        String before = Check.state(reader);
        Check.same("byteAt(4) of five", reader.byteAt(4), 'n');
        int[] wrong = {5, 6, 20, -1, -2, MOST, Integer.MIN_VALUE, Integer.MAX_VALUE};
        for (int place : wrong) {
            Check.noIndex("byteAt(" + place + ") of five", () -> reader.byteAt(place));
        }
        Check.same("all behind those that threw", Check.state(reader), before);
    }

    /** The same at the places 65535 and 65536. */
    private static void byteAtOfFullText() {
        SqlReader reader = Check.filled(MOST, "q");
        Check.same("byteAt(65535)", reader.byteAt(MOST - 1), 'q');
        Check.noIndex("byteAt(65536)", () -> reader.byteAt(MOST));
        reader.end(MOST - 1);
        Check.noIndex("byteAt(65535) behind end(65535)", () -> reader.byteAt(MOST - 1));
    }

    /** "THE TEXT is the first n bytes of it: how many went." */
    private static void cut() {
        SqlReader reader = Check.of("abcdef");
        Check.same("end(5) of six", reader.end(5), 1);
        Check.same("end(2) of five", reader.end(2), 3);
        Check.noIndex("byteAt(2) behind end(2)", () -> reader.byteAt(2));
        Check.same("byteAt(1) behind end(2)", reader.byteAt(1), 'b');
        Check.same("add behind end(2)", reader.add('x'), 3);
        Check.same("byteAt(2) behind that", reader.byteAt(2), 'x');
        Check.noIndex("byteAt(3): what went does not come back", () -> reader.byteAt(3));
        SqlReader longer = Check.of("begin; comit");
        longer.end(5);
        Check.same("read of what stayed", longer.read(), 1);
        Check.same("its end", longer.edge(0, true), 5);
    }

    /** "THE TEXT is the first n bytes of it", n being 0. */
    private static void cutOfAll() {
        SqlReader reader = Check.filled(MOST, "x");
        Check.same("end(0) of a full text", reader.end(0), MOST);
        Check.noIndex("byteAt(0) behind end(0)", () -> reader.byteAt(0));
        Check.same("end(0) once more", reader.end(0), 0);
        Check.noArgument("end(1) behind end(0)", () -> reader.end(1));
        Check.same("read behind end(0)", reader.read(), 0);
        Check.same("a feed behind end(0)", reader.feed(1, 2, 3, 4, 5), 20);
    }

    /** "THE TEXT is the first n bytes of it", n being all of them. */
    private static void cutOfNothing() {
        SqlReader reader = Check.of("abcdef");
        Check.same("end(6) of six", reader.end(6), 0);
        Check.same("byteAt(5) behind it", reader.byteAt(5), 'f');
        SqlReader full = Check.filled(MOST, "x");
        Check.same("end(65536) of a full text", full.end(MOST), 0);
        Check.same("byteAt(65535) behind it", full.byteAt(MOST - 1), 'x');
    }

    /** "IllegalArgumentException if n is not 0 to the number of its bytes." */
    private static void wrongCuts() {
        SqlReader reader = Check.of("begin");
        reader.read();
        reader.statement(0);
        String before = Check.state(reader);
        int[] wrong = {6, 7, -1, -5, MOST, MOST + 1, Integer.MAX_VALUE, Integer.MIN_VALUE};
        for (int n : wrong) {
            Check.noArgument("end(" + n + ") of five", () -> reader.end(n));
        }
        Check.same("all behind ends that threw", Check.state(reader), before);
        Check.noArgument("end(65537) of a full text", () -> Check.filled(MOST, "").end(MOST + 1));
    }

    /** "THE TEXT is a row of at most 65536 bytes", all of which read, where and edge tell. */
    private static void fullTextIsRead() {
        SqlReader reader = Check.filled(MOST, "begin");
        Check.same("read of a full text", reader.read(), 1);
        Check.same("start of its statement", reader.edge(0, false), MOST - 5);
        Check.same("end of its statement", reader.edge(0, true), MOST);
        reader.end(MOST - 1);
        Check.noArgument("read without its last byte", () -> reader.read());
        Check.same("where of it", reader.where(), MOST - 5);
        SqlReader missing = Check.filled(MOST, "savepoint");
        Check.noArgument("read of a full text whose end is missing", () -> missing.read());
        Check.same("where of it", missing.where(), MOST);
        SqlReader wrong = Check.filled(MOST, "!");
        Check.noArgument("read of a full text whose last byte is wrong", () -> wrong.read());
        Check.same("where of it", wrong.where(), MOST - 1);
        Check.same("read of a full comment", Check.filled(MOST, "--").read(), 0);
        Check.same("read of semicolons alone", Check.of(Check.times(";", MOST)).read(), 0);
    }
}
