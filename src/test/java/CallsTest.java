import java.io.IOException;

/** The edges in promises 1 to 41, one call after the other: what it answers NONE to, what it is refused by. */
public final class CallsTest extends Edges {
    private static final Acts NOTHING = x -> { };

    public static void main(String[] args) throws IOException {
        run(CallsTest.class, args);
    }

    @Says("`TwinBuckets()`: An empty file.")
    static void p01AnEmptyFile() {
        int[] counts = {0, 1, 0, 0, 0, 0, 0, 0, 0, 0, 0, 0, 0, -1, 0, 1, 0, 0};
        for (int i = 0; i < counts.length; i++) {
            int what = i;
            asked("count(" + what + ")", NOTHING, x -> x.count(what), counts[what]);
        }
        asked("status()", NOTHING, Desk::status, 0);
        asked("tears()", NOTHING, Desk::tears, 0);
        asked("fault()", NOTHING, Desk::fault, -1);
        asked("stopped()", NOTHING, Desk::stopped, -1);
        asked("spent()", NOTHING, Desk::spent, 0);
        asked("canBe()", NOTHING, Desk::canBe, 1);
        asked("lost(0)", NOTHING, x -> x.lost(0), 0);
        asked("torn(0)", NOTHING, x -> x.torn(0), 0);
        none("lost(1)", NOTHING, x -> x.lost(1));
        none("drawn(0)", NOTHING, x -> x.drawn(0));
        due("two objects are two files", new Desk().puts(1, 2).count(2) * 10 + new Desk().count(2), 20);
    }

    @Says("Of a BUCKET whether it is USED (what 0: 1, 0), DEPTH (1), PREFIX (2), how many KEYS it has (3), its KEY i "
        + "(4 + i, i 0 .. 2), that one's VALUE (7 + i). NONE (1 and more: not USED, too).")
    static void p02OfNoKeyOfOneOfThree() {
        Desk x = new Desk();
        x.put(0, 1);
        x.put(1, 11);
        x.put(3, 33);
        x.put(5, 55);
        // bucket 0: one key at prefix 0; bucket 1: three at prefix 1
        int[][] told = {{-1, 1, 1, 0, 1, 0, -1, -1, 1, -1, -1, -1}, {-1, 1, 1, 1, 3, 1, 3, 5, 11, 33, 55, -1},
            {-1, 0, -1, -1, -1, -1, -1, -1, -1, -1, -1, -1}};
        for (int b = 0; b < 3; b++) {
            for (int what = -1; what <= 10; what++) {
                due("of(" + b + ", " + what + ")", x.of(b, what), told[b][what + 1]);
            }
            due("of(" + b + ", LOW)", x.of(b, LOW), -1);
            due("of(" + b + ", HIGH)", x.of(b, HIGH), -1);
        }
        x.drop(0);
        x.put(0, 1);
        due("of(0, 3)", x.of(0, 3), 1);
        Desk y = new Desk();
        y.deepen(6);
        int[] empty = {-1, 1, 5, 16, 0, -1, -1, -1, -1, -1, -1, -1};
        for (int what = -1; what <= 10; what++) {
            due("of one without keys: of(5, " + what + ")", y.of(5, what), empty[what + 1]);
        }
    }

    @Says("`int page(int bucket, int what)`: The same of the PAGE on the DISK. NONE.")
    static void p03PageOfNoKeyOfOneOfThree() {
        Desk x = new Desk();
        x.put(0, 1);
        x.put(1, 11);
        x.put(3, 33);
        x.put(5, 55);
        x.flush(6);
        x.drop(5);
        x.put(77, 7);
        int[][] told = {{-1, 1, 1, 0, 1, 0, -1, -1, 1, -1, -1, -1}, {-1, 1, 1, 1, 3, 1, 3, 5, 11, 33, 55, -1},
            {-1, 0, -1, -1, -1, -1, -1, -1, -1, -1, -1, -1}};
        for (int b = 0; b < 3; b++) {
            for (int what = -1; what <= 10; what++) {
                due("page(" + b + ", " + what + ")", x.page(b, what), told[b][what + 1]);
            }
            due("page(" + b + ", LOW)", x.page(b, LOW), -1);
            due("page(" + b + ", HIGH)", x.page(b, HIGH), -1);
        }
    }

    @Says("Of WRITE i that waits (0 the eldest) the BUCKET (what 0), what it COST (1), how many KEYS it had (2; NONE: "
        + "not USED). NONE.")
    static void p04WriteFromTheEldestToTheLatest() {
        none("write(0, 0) where none waits", NOTHING, x -> x.write(0, 0));
        for (int i : new int[] {-1, 23, 40, LOW, HIGH}) {
            for (int w = 0; w < 3; w++) {
                int what = w;
                none("write(" + i + ", " + what + ")", Edges::rich, x -> x.write(i, what));
            }
        }
        for (int what : new int[] {-1, 3, LOW, HIGH}) {
            none("write(0, " + what + ")", Edges::rich, x -> x.write(0, what));
        }
        Desk x = new Desk();
        x.under("costs bucket*10+many");
        x.deepen(2);
        x.drop(Desk.keyAt(2, 0));
        int[] buckets = {0, 0, 0, 1, 0, 2, 0, 2, 2, 0, 2, 0, 1};
        int[] many = {1, 2, 3, 0, 3, 0, 3, 1, 0, 3, -1, 3, -1};
        for (int i = 0; i < 13; i++) {
            due("write(" + i + ", 0)", x.write(i, 0), buckets[i]);
            due("write(" + i + ", 1)", x.write(i, 1), buckets[i] * 10 + Math.max(0, many[i]));
            due("write(" + i + ", 2)", x.write(i, 2), many[i]);
        }
        due("write(13, 0)", x.write(13, 0), -1);
        x.flush(12);
        due("write(0, 0)", x.write(0, 0), 1);
        due("write(0, 2)", x.write(0, 2), -1);
        due("write(1, 0)", x.write(1, 0), -1);
    }

    @Says("`int slot(int i)`: The BUCKET a SLOT is of. NONE.")
    static void p05SlotsThatThereAreNot() {
        for (int i : new int[] {-1, 64, 1000, LOW, HIGH}) {
            none("slot(" + i + ")", Edges::rich, x -> x.slot(i));
        }
        none("slot(1) at DEEP 0", NOTHING, x -> x.slot(1));
        asked("slot(0) at DEEP 0", NOTHING, x -> x.slot(0), 0);
        asked("slot(63) at DEEP 6", x -> x.deepen(6), x -> x.slot(63), 1);
        none("slot(32) at DEEP 5", x -> x.deepen(5), x -> x.slot(32));
        asked("slot(31) at DEEP 5", x -> x.deepen(5), x -> x.slot(31), 1);
    }

    @Says("Of a KEY the HASH (what 0), the VALUE (1; NONE), the BUCKET in which it is sought (2), whether BARRED (3: 1, "
        + "0). NONE.")
    static void p06KeysThatAreThereAndAreNot() {
        asked("key(64, 1)", Edges::rich, x -> x.key(64, 1), 64);
        none("key(65, 1): it is not there", Edges::rich, x -> x.key(65, 1));
        none("key(200, 1): it was dropped", Edges::rich, x -> x.key(200, 1));
        asked("key(0, 0)", Edges::rich, x -> x.key(0, 0), 0);
        asked("key(0, 2)", Edges::rich, x -> x.key(0, 2), 0);
        asked("key(900, 3): barred", Edges::rich, x -> x.key(900, 3), 1);
        asked("key(901, 3)", Edges::rich, x -> x.key(901, 3), 0);
        asked("key(64, 3): one that is there", x -> {
            rich(x);
            x.under("bars if key = 64");
        }, x -> x.key(64, 3), 1);
        for (int what : new int[] {-1, 4, LOW, HIGH}) {
            none("key(64, " + what + ")", Edges::rich, x -> x.key(64, what));
        }
    }

    @Says("`int terms(int what, int value)`: A TERM: what it was. -1; -3 (SALT).")
    static void p07TermsTellWhatItWas() {
        Desk x = new Desk();
        due("terms(0, 999)", x.terms(0, 999), 0);
        due("terms(0, 998)", x.terms(0, 998), 999);
        due("terms(0, 998)", x.terms(0, 998), 998);
        x.put(1, 1);
        due("TIME that went on", x.terms(0, 0), 999);
        due("terms(1, 10)", x.terms(1, 10), 1);
        due("terms(1, 0)", x.terms(1, 0), 10);
        due("terms(2, 9)", x.terms(2, 9), 0);
        due("terms(2, 0)", x.terms(2, 0), 9);
        due("terms(3, 0) with a KEY: refused though it is 0", x.terms(3, 0), -3);
    }

    @Says("Twenty bytes come behind the TAPE, four of each number, the highest first: how many it has. NONE, if there "
        + "would be more than 400.")
    static void p08FeedTo400() {
        Desk x = new Desk();
        for (int i = 1; i <= 20; i++) {
            due("feed, " + i, x.feed(0, 0, 0, 0, 0), 20 * i);
        }
        Acts full = y -> {
            rich(y);
            y.end(0);
            for (int i = 0; i < 20; i++) {
                y.feed(0x01020304, 0x05060708, 0x090A0B0C, 0x0D0E0F10, 0x11121314);
            }
        };
        none("feed at 400", full, y -> y.feed(1, 2, 3, 4, 5));
        none("feed at 381", y -> {
            full.on(y);
            y.end(381);
        }, y -> y.feed(1, 2, 3, 4, 5));
        Desk y = new Desk();
        full.on(y);
        y.end(380);
        due("feed at 380", y.feed(1, 2, 3, 4, 5), 400);
        y.end(379);
        due("feed at 379", y.feed(1, 2, 3, 4, 5), 399);
        due("feed at 399", y.feed(1, 2, 3, 4, 5), -1);
    }

    @Says("four of each number, the highest first")
    static void p08TheHighestByteFirst() {
        Desk x = new Desk();
        due("feed", x.feed(0x05060708, 0xFF630A0B, 0x80010000, 0x0C0D7F02, -1), 20);
        due("row()", x.row(), 8);
        int[] keys = {5, 7, 255, 10, 128, 0, 12, 127};
        int[] values = {6, 8, 99, 11, 1, 0, 13, 2};
        for (int i = 0; i < keys.length; i++) {
            due("key(" + keys[i] + ", 1)", x.key(keys[i], 1), values[i]);
        }
        due("tears(): 255, 255 twice", x.tears(), 2);
        x.feed(HIGH, LOW, 0, 0, 0);
        x.end(8);
        due("row() of 127 255 255 255, 128 0 0 0", x.row(), 2);
        due("key(128, 1)", x.key(128, 1), 0);
    }

    @Says("`int end(int n)`: The TAPE has its first n bytes alone: n. NONE, if it has not so many, or n is below 0.")
    static void p09EndAtNoneAtAllAndBehind() {
        for (int n : new int[] {-1, 18, 400, LOW, HIGH}) {
            none("end(" + n + ") of 17", Edges::rich, x -> x.end(n));
        }
        asked("end(17) of 17", Edges::rich, x -> x.end(17), 17);
        none("end(1) of an empty tape", NOTHING, x -> x.end(1));
        asked("end(0) of an empty tape", NOTHING, x -> x.end(0), 0);
        Desk x = new Desk();
        x.tape("bars1");
        due("end(4)", x.end(4), 4);
        due("count(7)", x.count(7), 4);
        due("end(5): what was cut off is gone", x.end(5), -1);
        due("law()", x.law(), 0);
        x.tape("bars if 1=1");
        x.end(8);
        due("feed behind the end", x.feed(0x323D3220, 0x20202020, 0x20202020, 0x20202020, 0x20202020), 28);
        due("law()", x.law(), 1);
        x.tape("bars");
        due("end(0)", x.end(0), 0);
        due("law()", x.law(), -6);
        due("fault()", x.fault(), 0);
    }

    @Says("`int row()`: A ROW, the TAPE is empty then: how many were PUT. -6 the TAPE is empty.")
    static void p10RowOfAnEmptyTapeAndOfOneByte() {
        refused("row() of an empty tape", x -> {
            rich(x);
            x.end(0);
        }, Desk::row, -6);
        refused("row() again", x -> {
            rich(x);
            x.row();
        }, Desk::row, -6);
        Desk x = new Desk();
        x.put(5, 5);
        due("row() of one byte", x.row(7), 0);
        due("status()", x.status(), 0);
        due("the tape is empty", x.count(7), 0);
        due("count(6)", x.count(6), 0);
        due("row() of two", x.row(7, 1), 1);
        due("the tape is empty", x.count(7), 0);
    }

    @Says("`int tears()`: How many TEARS the latest row() had that was not REFUSED (0 ahead of any).")
    static void p11TearsAheadOfAnyAndBehindARefusedRow() {
        Desk x = new Desk();
        due("tears()", x.tears(), 0);
        x.row();
        due("tears() behind a refused row()", x.tears(), 0);
        x.row(1, 200, 2, 200);
        due("tears()", x.tears(), 2);
        x.row();
        due("tears() behind a refused row()", x.tears(), 2);
        x.law("bars");
        x.orders("drop 5");
        due("tears() behind law(), orders()", x.tears(), 2);
        x.row(1, 1);
        due("tears()", x.tears(), 0);
    }

    @Says({"`int law()`: The TAPE, which is empty then, becomes a LAW: its number. -5 (ahead of reading it; the TAPE is "
        + "empty then, too); -6 (blanks alone: FAULT at the end).", "It leaves what can be undone."})
    static void p12LawsOfNothingAndOfBlanks() {
        for (String text : new String[] {"", " ", "    ", "costs", "bars;", "put 1 as 1", "bars if 1=1)"}) {
            int fault = text.equals("put 1 as 1") ? 0 : text.equals("bars if 1=1)") ? 11 : text.length();
            refused("law() of '" + text + "'", x -> {
                rich(x);
                x.tape(text);
            }, x -> x.end(0), Desk::law, -6, "fault()=" + fault);
        }
        Desk x = new Desk();
        rich(x);
        due("law()", x.law("bars"), 2);
        due("the tape is empty", x.count(7), 0);
        due("fault()", x.fault(), -1);
        due("status()", x.status(), 0);
        due("it leaves what can be undone", x.count(6), 13);
        due("law in force stays", x.count(13), 0);
        due("undo()", x.undo(), 0);
    }

    @Says({"`int orders()`: ORDERS, the TAPE is empty then: how many were run. -3 one can't be; -6 (as for law())."})
    static void p13OrdersOfNothingAndOfNoneRun() {
        for (String text : new String[] {"", " ", "    ", "drop", "drop 1;", "bars", "drop 1 2"}) {
            int fault = text.equals("bars") ? 0 : text.equals("drop 1 2") ? 7 : text.length();
            refused("orders() of '" + text + "'", x -> {
                rich(x);
                x.tape(text);
            }, x -> x.end(0), Desk::orders, -6, "fault()=" + fault, "stopped()=-1");
        }
        granted("orders() of which none is run", x -> {
            rich(x);
            x.orders("flush 0 if 1=2");
            x.tape("put 1 as 1 times 20 if 1=2;drop 998 if 1/0=1");
        }, x -> x.end(0), Desk::orders, 0);
        Desk x = new Desk();
        due("orders() of most", x.orders("flush 0 times 20;".repeat(11) + "flush 0 times 20"), 240);
        due("count(6)", x.count(6), 16);
        due("the tape is empty", x.count(7), 0);
        due("orders() that can't be", x.orders("flush 1"), -3);
        due("the tape is empty", x.count(7), 0);
    }

    @Says("`int fault()`: FAULT of the latest law(), orders() that read a TEXT: its place; NONE without.")
    static void p14FaultOfTheLatestThatRead() {
        Desk x = new Desk();
        due("fault()", x.fault(), -1);
        x.law("costs 1 2");
        due("fault()", x.fault(), 8);
        x.orders("flush 0");
        due("fault()", x.fault(), -1);
        x.orders("?");
        due("fault()", x.fault(), 0);
        x.orders("drop 5");
        due("fault() of orders that can't be", x.fault(), -1);
        x.orders("drop 5 5");
        due("fault()", x.fault(), 7);
        x.row(1, 1);
        x.row();
        due("fault() behind row()", x.fault(), 7);
        for (int i = 0; i < 6; i++) {
            x.law("bars");
        }
        due("fault()", x.fault(), -1);
        x.orders("drop");
        due("law(): it was not read", x.law("bars bars"), -5);
        due("fault() stays", x.fault(), 4);
    }

    @Says("`int stopped()`: Which CLAUSE of the latest orders() could not be. NONE.")
    static void p15StoppedAtTheFirstAtTheLastAtNone() {
        Desk x = new Desk();
        due("stopped()", x.stopped(), -1);
        x.orders("drop 5");
        due("stopped(): the first", x.stopped(), 0);
        x.orders("flush 0;".repeat(11) + "drop 5");
        due("stopped(): the twelfth", x.stopped(), 11);
        x.law("bars bars");
        x.law("bars");
        x.put(1000, 0);
        due("stopped() is of orders() alone", x.stopped(), 11);
        x.orders("drop 5 if 1=2;flush 0");
        due("stopped()", x.stopped(), -1);
        x.orders("flush 0;flush 1;flush 2");
        due("stopped(): the first that could not", x.stopped(), 1);
        x.orders("flush 1 1");
        due("stopped() of those that were not run", x.stopped(), -1);
        x.orders("put 1 as 1;drop 1 times 2;flush 0");
        due("stopped() at the second time", x.stopped(), 1);
    }

    @Says({"`int force(int law)`: A LAW is in FORCE (NONE: none): which was. -2.", "It leaves what can be undone."})
    static void p16ForceOfNoneOfTheLastAndBehind() {
        for (int law : new int[] {-2, 2, 6, LOW, HIGH}) {
            refused("force(" + law + ")", Edges::rich, x -> x.force(law), -2);
        }
        refused("force(0) without LAWS", NOTHING, x -> x.force(0), -2);
        granted("force(-1) without LAWS", NOTHING, NOTHING, x -> x.force(-1), -1);
        granted("force(0), which it is", Edges::rich, NOTHING, x -> x.force(0), 0);
        Desk x = new Desk();
        rich(x);
        due("force(1)", x.force(1), 0);
        due("force(-1)", x.force(-1), 1);
        due("count(13)", x.count(13), -1);
        due("force(0)", x.force(0), -1);
        due("count(6)", x.count(6), 13);
    }

    @Says({"`int put(int key, int value)`: To PUT: how many BUCKETS were SPLIT. -1; -3 (BARRED; one that is there is not "
        + "asked); -5."})
    static void p17PutIsUndone() {
        granted("put of a new one, and undo()", Edges::rich, NOTHING, x -> x.put(700, 7) * 0 + x.undo(), 0);
        granted("put of one that is there, and undo()", Edges::rich, NOTHING, x -> x.put(64, 7) + x.undo(), 0);
        granted("put with splits, and undo()", x -> {
            rich(x);
            x.put(128, 1);
            x.put(1, 1);
        }, NOTHING, x -> x.put(7, 7) * 0 + x.undo(), 0);
        refused("put of one that is barred", Edges::rich, x -> x.put(900, 9), -3);
        Desk x = new Desk();
        x.put(900, 1);
        x.under("bars");
        due("put of one that is there", x.put(900, 2), 0);
        due("put of another one", x.put(901, 2), -3);
    }

    @Says("`int drop(int key)`: To DROP: how often BUCKETS were JOINED. -1; -3 it is not there.")
    static void p18DropIsUndone() {
        granted("drop, and undo()", Edges::rich, NOTHING, x -> x.drop(64) * 0 + x.undo(), 1);
        granted("drop with joins, and undo()", x -> x.deepen(6), NOTHING, x -> x.drop(32) + x.undo(), 6 + 1);
        refused("drop of one that is not there", Edges::rich, x -> x.drop(65), -3);
        refused("drop in an empty file", NOTHING, x -> x.drop(0), -3);
    }

    @Says("`int flush(int n)`: To FLUSH n WRITES: how many wait then. -1 (below 0); -3 there are not so many.")
    static void p19FlushOfAllAndOfOneMore() {
        for (int n : new int[] {-1, -40, LOW}) {
            refused("flush(" + n + ")", Edges::rich, x -> x.flush(n), -1);
        }
        for (int n : new int[] {24, 40, 41, HIGH}) {
            refused("flush(" + n + ")", Edges::rich, x -> x.flush(n), -3);
        }
        refused("flush(1) where none waits", NOTHING, x -> x.flush(1), -3);
        granted("flush(23), and undo()", Edges::rich, NOTHING, x -> x.flush(23) + x.undo(), 2);
        Desk x = new Desk();
        rich(x);
        due("flush(22)", x.flush(22), 1);
        due("flush(1)", x.flush(1), 0);
        due("flush(0)", x.flush(0), 0);
    }

    @Says("`int crash(int n)`: To CRASH behind n WRITES: how many KEYS are found. -1 (below 0); -3 there are not so many.")
    static void p20CrashBehindAllAndBehindOneMore() {
        for (int n : new int[] {-1, -40, LOW}) {
            refused("crash(" + n + ")", Edges::rich, x -> x.crash(n), -1);
        }
        for (int n : new int[] {24, 40, 41, HIGH}) {
            refused("crash(" + n + ")", Edges::rich, x -> x.crash(n), -3);
        }
        refused("crash(1) where none waits", NOTHING, x -> x.crash(1), -3);
        for (int i = 0; i <= 23; i++) {
            int n = i;
            granted("crash(" + n + "), and undo()", Edges::rich, NOTHING, x -> x.crash(n) * 0 + x.undo(), 3);
        }
        granted("crash(0) of an empty file, and undo()", NOTHING, NOTHING, x -> x.crash(0) + x.undo(), 3);
    }

    @Says("(by ORDERS, too; 16 are kept)")
    static void p21The16thAndThe17th() {
        Desk x = new Desk();
        for (int i = 0; i < 16; i++) {
            x.put(3, i);
        }
        due("count(6)", x.count(6), 16);
        for (int i = 14; i >= 0; i--) {
            due("undo()", x.undo(), 0);
            due("key(3, 1)", x.key(3, 1), i);
        }
        due("undo()", x.undo(), 0);
        due("key(3, 1)", x.key(3, 1), -1);
        due("undo()", x.undo(), -3);
        Desk y = new Desk();
        for (int i = 0; i < 17; i++) {
            y.put(3, i);
        }
        due("count(6)", y.count(6), 16);
        for (int i = 15; i >= 0; i--) {
            due("undo()", y.undo(), 0);
            due("key(3, 1)", y.key(3, 1), i);
        }
        due("undo()", y.undo(), -3);
        due("the eldest can't be undone", y.key(3, 1), 0);
        for (int n = 14; n <= 18; n++) {
            Desk z = new Desk();
            z.puts(1, 2);
            z.orders("put 3 as done times " + n);
            due("count(6) behind two and " + n, z.count(6), Math.min(16, n + 2));
            for (int i = n - 2; i >= 0 && i >= n - 16; i--) {
                due("undo()", z.undo(), 0);
                due("key(3, 1)", z.key(3, 1), i);
            }
        }
    }

    @Says("The latest put(), drop(), flush(), crash() (by ORDERS, too; 16 are kept) is undone")
    static void p21EachOf16IsOfItsKind() {
        for (int n = 14; n <= 22; n++) {
            int[] kinds = new int[n];
            Desk x = new Desk();
            Desk y = new Desk();
            for (int i = 0; i < n; i++) {
                int kind = i * i % 7 % 4;
                if (kind == 1 && x.key(3, 1) < 0) {
                    kind = 0;
                }
                x.orders(kind == 0 ? "put 3 as " + i : kind == 1 ? "drop 3" : kind == 2 ? "flush 0" : "crash waits");
                long told = kind == 0 ? y.put(3, i) : kind == 1 ? y.drop(3) : kind == 2 ? y.flush(0)
                    : y.crash(y.count(3));
                due("act " + i, told < 0 ? 1 : 0, 0);
                kinds[i] = kind;
            }
            due("count(6)", x.count(6), Math.min(n, 16));
            for (int i = n - 1; i >= Math.max(0, n - 16); i--) {
                due("undo() of orders", x.undo(), kinds[i]);
                due("undo()", y.undo(), kinds[i]);
                due("key(3, 1)", x.key(3, 1), y.key(3, 1));
            }
            due("undo()", x.undo(), -3);
            due("undo()", y.undo(), -3);
        }
    }

    @Says("is undone (BUCKETS, DEEP, the DISK, WRITES, TIME are as they were): 0 .. 3. -3 there is none")
    static void p21UndoOfNone() {
        refused("undo() of a new object", NOTHING, Desk::undo, -3);
        refused("undo() behind an undo()", x -> {
            rich(x);
            while (x.count(6) > 0) {
                x.undo();
            }
        }, Desk::undo, -3);
        granted("sixteen acts, all undone", x -> {
            rich(x);
            x.terms(2, 3);
        }, NOTHING, x -> {
            for (int i = 0; i < 4; i++) {
                x.put(700, i);
                x.drop(i == 0 ? 64 : 700);
                x.flush(i);
                x.crash(0);
            }
            int told = 0;
            for (int i = 0; i < 4; i++) {
                told = told * 16 + x.undo() * 4 + x.undo();
                told = told * 16 + x.undo() * 4 + x.undo();
            }
            return told;
        }, sixteenUndone());
    }

    private static int sixteenUndone() {
        int told = 0;
        for (int i = 0; i < 4; i++) {
            told = told * 16 + 3 * 4 + 2;
            told = told * 16 + 4;
        }
        return told;
    }

    @Says("(nothing that was ahead of a terms(), row(), back() that was not REFUSED can be undone)")
    static void p21NotAheadOfTermsRowBack() {
        Acts image = x -> {
            rich(x);
            x.put(64, 3);
        };
        refused("undo() behind terms()", x -> {
            image.on(x);
            x.terms(2, 4);
        }, Desk::undo, -3);
        refused("undo() behind row()", x -> {
            image.on(x);
            x.row(7);
        }, Desk::undo, -3);
        refused("undo() behind back()", x -> {
            image.on(x);
            x.back(0);
        }, Desk::undo, -3);
        Call[] refusedOnes = {x -> x.terms(2, 10), x -> x.terms(3, 4), x -> x.end(0) + x.row(), x -> x.back(1),
            x -> x.back(2)};
        for (Call call : refusedOnes) {
            Desk x = new Desk();
            image.on(x);
            int many = x.count(6);
            call.on(x);
            due("status()", x.status() < 0 ? 1 : 0, 1);
            due("count(6) behind a refused one", x.count(6), many);
            due("undo()", x.undo(), 0);
            due("key(64, 1)", x.key(64, 1), 64);
        }
        Desk x = new Desk();
        image.on(x);
        x.terms(0, 7);
        x.put(64, 4);
        due("count(6)", x.count(6), 1);
        due("undo()", x.undo(), 0);
        due("TIME", x.count(14), 7);
    }

    @Says("`int behind(int n, int key)`: BEHIND n WRITES. NONE (not found; no such KEY; not so many WRITES).")
    static void p22BehindNoneBehindAllBehindOneMore() {
        for (int n : new int[] {-1, 24, LOW, HIGH}) {
            none("behind(" + n + ", 64)", Edges::rich, x -> x.behind(n, 64));
        }
        none("behind(23, 65): not found", Edges::rich, x -> x.behind(23, 65));
        none("behind(0, 5): not yet", Edges::rich, x -> x.behind(0, 5));
        asked("behind(23, 5)", Edges::rich, x -> x.behind(23, 5), 5);
        asked("behind(0, 3): at first", Edges::rich, x -> x.behind(0, 3), 30);
        asked("behind(23, 3): as it is", Edges::rich, x -> x.behind(23, 3), 31);
        none("behind(0, 0) of an empty file", NOTHING, x -> x.behind(0, 0));
        none("behind(1, 0) of an empty file", NOTHING, x -> x.behind(1, 0));
    }

    @Says({"`int lost(int n)`: LOST. NONE (not so many).", "`int torn(int n)`: TORN. NONE (not so many)."})
    static void p23LostAndTornBehindNoneAllOneMore() {
        for (int n : new int[] {-1, 24, LOW, HIGH}) {
            none("lost(" + n + ")", Edges::rich, x -> x.lost(n));
            none("torn(" + n + ")", Edges::rich, x -> x.torn(n));
        }
        asked("lost(23)", Edges::rich, x -> x.lost(23), 0);
        asked("torn(23)", Edges::rich, x -> x.torn(23), 0);
        asked("lost(0)", Edges::rich, x -> x.lost(0), 7);
        asked("torn(0)", Edges::rich, x -> x.torn(0), 63);
    }

    @Says({"`int splits()`: SPLITS.", "`int room()`: ROOM.", "`int spent()`: SPENT."})
    static void p25WhatIsAskedChangesNothing() {
        Call[] calls = {Desk::splits, Desk::room, Desk::spent, Desk::canBe, Desk::tears, Desk::fault, Desk::stopped,
            Desk::status, x -> x.salts(0), x -> x.salts(1), x -> x.read(0), x -> x.read(1), x -> x.few(3, 9),
            x -> x.compare(1, 3), x -> x.drawn(24), x -> x.lost(9), x -> x.torn(9), x -> x.behind(9, 64),
            x -> x.twin(0), x -> x.key(3, 3), x -> x.slot(40), x -> x.write(3, 1), x -> x.of(1, 4),
            x -> x.page(1, 0), x -> x.count(9)};
        for (int i = 0; i < calls.length; i++) {
            Desk x = new Desk();
            rich(x);
            long told = calls[i].on(x);
            due("asked again, " + i, calls[i].on(x), told);
            asked("what is asked, " + i, Edges::rich, calls[i], told);
        }
    }

    @Says("`int twin(int bucket)`: TWIN. NONE (there is none; not USED).")
    static void p27NoTwin() {
        none("twin(0) of an empty file", NOTHING, x -> x.twin(0));
        none("twin(1): not USED", NOTHING, x -> x.twin(1));
        none("twin(1): the other half is deeper", Edges::rich, x -> x.twin(1));
        none("twin(23): not USED", Edges::rich, x -> x.twin(23));
        asked("twin(6)", Edges::rich, x -> x.twin(6), 0);
        asked("twin(0)", Edges::rich, x -> x.twin(0), 6);
        none("twin(1) behind its joining", x -> {
            x.puts(0, 2, 4, 1);
            x.drop(1);
        }, x -> x.twin(1));
    }

    @Says("`int salts(int what)`: SALTS: the SALT (what 0), how many BUCKETS (1). NONE (there is none).")
    static void p28SaltsOfNoKeysAndOtherWhats() {
        asked("salts(0)", NOTHING, x -> x.salts(0), 0);
        asked("salts(1)", NOTHING, x -> x.salts(1), 1);
        for (int what : new int[] {-1, 2, LOW, HIGH}) {
            none("salts(" + what + ")", NOTHING, x -> x.salts(what));
        }
    }

    @Says({"`int seen(int slot, int is)`: SEEN: how often there was. -1 (SLOT 0 .. 63, is 1, 0); -5.", "It leaves what "
        + "can be undone."})
    static void p30SeenTellsHowOften() {
        Desk x = new Desk();
        x.put(1, 1);
        due("seen(63, 1)", x.seen(63, 1), 1);
        due("seen(63, 1) once more", x.seen(63, 1), 2);
        due("seen(0, 0)", x.seen(0, 0), 3);
        due("count(6)", x.count(6), 1);
        x.forget();
        due("seen(0, 0) behind forget()", x.seen(0, 0), 1);
    }

    @Says("`int forget()`: SEEN is nothing then: how often there was.")
    static void p31ForgetOfNoneAndOfSix() {
        asked("forget() of none", x -> {
            rich(x);
            x.forget();
        }, Desk::forget, 0);
        Desk x = new Desk();
        for (int i = 0; i < 6; i++) {
            x.seen(1, 1);
        }
        due("canBe()", x.canBe(), 0);
        due("forget()", x.forget(), 6);
        due("canBe()", x.canBe(), 1);
        due("count(4)", x.count(4), 0);
        due("seen()", x.seen(0, 1), 1);
        x.seen(64, 1);
        x.forget();
        due("forget() leaves status()", x.status(), -1);
    }

    @Says({"`int canBe()`: IT CAN BE, as bits.", "`int read(int what)`: To READ next, of the SLOTS there are: the SLOT "
        + "(what 0), how many BUCKETS are left at most (1). NONE (it can be none)."})
    static void p33ReadOfNoneAndOfOne() {
        Acts none = x -> {
            rich(x);
            x.seen(0, 1);
            x.seen(0, 0);
        };
        asked("canBe()", none, Desk::canBe, 0);
        none("read(0)", none, x -> x.read(0));
        none("read(1)", none, x -> x.read(1));
        Acts one = x -> {
            rich(x);
            x.seen(0, 1);
        };
        asked("canBe()", one, Desk::canBe, 1);
        asked("read(0)", one, x -> x.read(0), 0);
        asked("read(1)", one, x -> x.read(1), 1);
        asked("read(0) of six: slot 1 parts none", Edges::rich, x -> x.read(0), 0);
        asked("read(1)", Edges::rich, x -> x.read(1), 4);
        asked("read(0): slot 0 parts none", x -> {
            x.deepen(6);
            x.seen(0, 0);
        }, x -> x.read(0), 1);
    }

    @Says("`long few(int k, int n)`: FEW, k 1 .. 20, n 0 .. 99. NONE.")
    static void p34FewFromTheLeastToTheMost() {
        for (int k : new int[] {0, -1, 21, LOW, HIGH}) {
            none("few(" + k + ", 0)", Edges::rich, x -> x.few(k, 0));
            none("few(" + k + ", 99)", Edges::rich, x -> x.few(k, 99));
        }
        for (int n : new int[] {-1, 100, LOW, HIGH}) {
            none("few(1, " + n + ")", Edges::rich, x -> x.few(1, n));
            none("few(20, " + n + ")", Edges::rich, x -> x.few(20, n));
        }
        asked("few(1, 0)", Edges::rich, x -> x.few(1, 0), 1000000000000L);
        asked("few(20, 0)", Edges::rich, x -> x.few(20, 0), 1000000000000L);
        Desk x = new Desk();
        x.terms(1, 10);
        due("few(1, 0)", x.few(1, 0), 1000000000000L);
        due("few(1, 1): all fail", x.few(1, 1), 0);
        due("few(2, 1)", x.few(2, 1), 1000000000000L);
        due("few(20, 19)", x.few(20, 19), 1000000000000L);
        due("few(20, 20)", x.few(20, 20), 0);
        due("few(20, 99)", x.few(20, 99), 0);
        x.terms(1, 0);
        due("few(1, 99): none fails", x.few(1, 99), 1000000000000L);
        x.terms(1, 5);
        due("few(1, 1)", x.few(1, 1), 500000000000L);
        due("few(1, 12)", x.few(1, 12), 244140625L);
        due("few(1, 13)", x.few(1, 13), 122070312L);
    }

    @Says("`int compare(int law, int bucket)`: COMPARED (a BUCKET that is not USED, too). NONE (no such LAW, BUCKET).")
    static void p35CompareWithTheLastLawAndBucket() {
        asked("compare(1, 23)", Edges::rich, x -> x.compare(1, 23), 24);
        none("compare(2, 23)", Edges::rich, x -> x.compare(2, 23));
        none("compare(1, 24)", Edges::rich, x -> x.compare(1, 24));
        none("compare(1, -1)", Edges::rich, x -> x.compare(1, -1));
        none("compare(-2, 0)", Edges::rich, x -> x.compare(-2, 0));
        asked("compare(-1, 0) without LAWS", NOTHING, x -> x.compare(-1, 0), 1);
        none("compare(0, 0) without LAWS", NOTHING, x -> x.compare(0, 0));
    }

    @Says("`int years(int seed, int n)`: YEARS, kept as the latest: how many KEYS there are behind them. -1.")
    static void p36YearsThatAreRefusedAreNotKept() {
        Desk x = new Desk();
        x.years(-1, 5);
        due("drawn(25) ahead of any", x.drawn(25), -1);
        due("years(0, 1)", x.years(0, 1), 1);
        due("drawn(25)", x.drawn(25), 1);
        x.years(0, 61);
        due("drawn(25)", x.drawn(25), 1);
        x.put(25, 50);
        due("drawn(25) is of the years, not the file", x.drawn(25), 1);
        due("years(0, 1)", x.years(0, 1), 1);
        x.put(39, 50);
        due("years(0, 1): of the file as it is", x.years(0, 1), 2);
        due("drawn(39)", x.drawn(39), 50);
        due("count(6): it leaves what can be undone", x.count(6), 2);
    }

    @Says("`int drawn(int k)`: Behind the latest YEARS the VALUE of KEY k 0 .. 39. NONE (it is not there; ahead of any).")
    static void p37DrawnFromTheFirstToTheLast() {
        Desk x = new Desk();
        x.puts(0, 1, 39, 40, 41);
        due("drawn(0) ahead of any", x.drawn(0), -1);
        due("drawn(39) ahead of any", x.drawn(39), -1);
        x.years(0, 1);
        due("drawn(0)", x.drawn(0), 0);
        due("drawn(1)", x.drawn(1), 1);
        due("drawn(39)", x.drawn(39), 39);
        due("drawn(2): it is not there", x.drawn(2), -1);
        due("drawn(40), which is there", x.drawn(40), -1);
        for (int k : new int[] {-1, 40, 999, LOW, HIGH}) {
            none("drawn(" + k + ")", Edges::rich, y -> y.drawn(k));
        }
    }

    @Says({"`int image(int k)`: IMAGE k is kept: 0; -1.", "`int back(int k)`: BACK to IMAGE k: 0. -1; -2 it was not "
        + "kept."})
    static void p38TheFirstAndTheLastImage() {
        for (int k = 0; k < 2; k++) {
            Desk x = new Desk();
            x.put(5, 50);
            due("back(" + k + ")", x.back(k), -2);
            due("image(" + k + ")", x.image(k), 0);
            due("back(" + (1 - k) + ")", x.back(1 - k), -2);
            due("count(6): a refused one leaves what can be undone", x.count(6), 1);
            x.put(5, 51);
            due("back(" + k + ")", x.back(k), 0);
            due("key(5, 1)", x.key(5, 1), 50);
        }
    }

    @Says("8 .. 12 how many calls were REFUSED by -1, -2, -3, -5, -6 (IMAGES do not keep that)")
    static void p40CountsOfRefusedCalls() {
        Desk x = new Desk();
        x.image(0);
        int[] counts = new int[18];
        Call[] calls = {y -> y.terms(4, 0), y -> y.put(-1, 0), y -> y.drop(-1), y -> y.flush(-1), y -> y.crash(-1),
            y -> y.seen(64, 0), y -> y.years(-1, 1), y -> y.image(2), y -> y.back(2), y -> y.force(0), y -> y.back(1),
            y -> y.drop(0), y -> y.flush(1), y -> y.crash(1), y -> y.undo(), y -> y.row(), y -> y.law(),
            y -> y.orders(), y -> y.orders("drop 1"), y -> y.back(0)};
        int[] why = {1, 1, 1, 1, 1, 1, 1, 1, 1, 2, 2, 3, 3, 3, 3, 6, 6, 6, 3, 0};
        int[] of = {0, 8, 9, 10, 0, 11, 12};
        for (int i = 0; i < calls.length; i++) {
            calls[i].on(x);
            counts[of[why[i]]]++;
            for (int what = 8; what <= 12; what++) {
                due("count(" + what + ") behind the call " + i, x.count(what), counts[what]);
            }
            due("status() behind the call " + i, x.status(), -why[i]);
        }
        for (int i = 0; i < 8; i++) {
            x.seen(0, 0);
        }
        due("count(11)", x.count(11), 2);
        due("status()", x.status(), -5);
        x.row(200, 200, 1);
        x.orders("put 1000 as 1");
        due("calls within row() are not counted", x.count(8), 9);
        due("orders() that can't be are one call by -3", x.count(10), 6);
    }

    @Says("`int count(int what)`: 0 DEEP, 1 BUCKETS that are USED, 2 KEYS, 3 WRITES that wait, 4 SEEN, 5 LAWS, 6 how many "
        + "can be undone, 7 bytes of the TAPE")
    static void p40CountsAtTheirMost() {
        Desk x = new Desk();
        x.putThrees(0, 23);
        x.put(Desk.keyAt(0, 0), 1);
        due("count(1)", x.count(1), 24);
        due("count(2)", x.count(2), 72);
        due("count(3)", x.count(3), 40);
        due("count(6)", x.count(6), 16);
        for (int i = 0; i < 6; i++) {
            x.seen(0, 0);
            x.law("bars");
        }
        due("count(4)", x.count(4), 6);
        due("count(5)", x.count(5), 6);
        x.tape(" ".repeat(400));
        due("count(7)", x.count(7), 400);
        due("count(0)", x.count(0), 5);
        Desk y = new Desk();
        y.deepen(6);
        due("count(0)", y.count(0), 6);
    }

    @Says("13 the LAW in FORCE, 14 .. 17 TERMS 0 .. 3. NONE for others.")
    static void p40CountsThatThereAreNot() {
        for (int what : new int[] {-1, 18, LOW, HIGH}) {
            none("count(" + what + ")", Edges::rich, x -> x.count(what));
        }
        asked("count(13)", Edges::rich, x -> x.count(13), 0);
        asked("count(13)", NOTHING, x -> x.count(13), -1);
        asked("count(14)", Edges::rich, x -> x.count(14), 26);
        asked("count(17)", x -> x.terms(3, 999), x -> x.count(17), 999);
        asked("count(16)", x -> x.terms(2, 9), x -> x.count(16), 9);
        asked("count(15)", x -> x.terms(1, 10), x -> x.count(15), 10);
    }

    @Says("`int status()`: What the latest call of terms, row, law, orders, force, put, drop, flush, crash, undo, seen, "
        + "years, image, back was REFUSED by; 0 if it was not, or ahead of any.")
    static void p41StatusOfEachCall() {
        due("status() ahead of any", new Desk().status(), 0);
        Call[] good = {x -> x.terms(2, 1), x -> x.row(7, 7), x -> x.law("bars"), x -> x.orders("flush 0"),
            x -> x.force(1), x -> x.put(64, 1), x -> x.drop(64), x -> x.flush(1), x -> x.crash(1), x -> x.undo(),
            x -> x.seen(1, 0), x -> x.years(1, 1), x -> x.image(1), x -> x.back(0)};
        Call[] bad = {x -> x.terms(2, 10), x -> x.end(0) * 0 + x.row(), x -> x.law("bars bars"), x -> x.orders("drop 1"),
            x -> x.force(7), x -> x.put(64, 100), x -> x.drop(65), x -> x.flush(41), x -> x.crash(-1),
            x -> x.terms(2, 1) * 0 + x.undo(), x -> x.seen(1, 2), x -> x.years(1, 0), x -> x.image(-1),
            x -> x.back(1)};
        for (int i = 0; i < good.length; i++) {
            Desk x = new Desk();
            rich(x);
            x.put(1000, 0);
            due("status()", x.status(), -1);
            due("the call " + i + " is good", good[i].on(x) >= -1 ? 1 : 0, 1);
            due("status() behind the good call " + i, x.status(), 0);
            Desk y = new Desk();
            rich(y);
            long told = bad[i].on(y);
            due("the call " + i + " is refused", told < 0 ? 1 : 0, 1);
            due("status() behind the refused call " + i, y.status(), told);
            int status = y.status();
            y.of(-1, 0);
            y.page(-1, 0);
            y.write(-1, 0);
            y.slot(-1);
            y.key(-1, 0);
            y.feed(0, 0, 0, 0, 0);
            y.end(-1);
            y.tears();
            y.fault();
            y.stopped();
            y.behind(-1, 0);
            y.lost(-1);
            y.torn(-1);
            y.splits();
            y.room();
            y.twin(-1);
            y.salts(-1);
            y.spent();
            y.forget();
            y.canBe();
            y.read(-1);
            y.few(0, 0);
            y.compare(9, 0);
            y.drawn(-1);
            y.count(-1);
            due("status() behind calls that it is not of", y.status(), status);
        }
    }
}
