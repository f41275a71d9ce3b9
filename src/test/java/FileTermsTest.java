import java.io.IOException;

/** The edges in the first of the document's terms: keys, buckets, slots, the disk, writes, TERMS, refusals. */
public final class FileTermsTest extends Edges {
    public static void main(String[] args) throws IOException {
        run(FileTermsTest.class, args);
    }

    @Says("An object is used for at most 512 calls after it has been made")
    static void the512thCallIsAnswered() {
        Desk x = new Desk();
        while (x.callsLeft() > 1) {
            x.put(5, x.callsLeft() % 100);
        }
        due("the 512th call, key(5, 1)", x.key(5, 1), 2);
        Desk y = new Desk();
        rich(y);
        while (y.callsLeft() > 2) {
            y.years(y.callsLeft(), 60);
        }
        due("the 511th call, put(0, 77)", y.put(0, 77), 0);
        due("the 512th call, key(0, 1)", y.key(0, 1), 77);
    }

    @Says("KEYS 0 .. 999")
    static void theFirstAndTheLastKey() {
        Desk x = new Desk();
        due("put(0, 1)", x.put(0, 1), 0);
        due("put(999, 2)", x.put(999, 2), 0);
        due("key(0, 1)", x.key(0, 1), 1);
        due("key(999, 1)", x.key(999, 1), 2);
        due("behind(2, 0)", x.behind(2, 0), 1);
        due("behind(2, 999)", x.behind(2, 999), 2);
        due("drop(0)", x.drop(0), 0);
        due("drop(999)", x.drop(999), 0);
    }

    @Says("KEYS 0 .. 999")
    static void keysThatCantBe() {
        for (int k : new int[] {-1, 1000, LOW, HIGH, 1024, -64}) {
            refused("put(" + k + ", 1)", Edges::rich, x -> x.put(k, 1), -1);
            refused("drop(" + k + ")", Edges::rich, x -> x.drop(k), -1);
            none("behind(23, " + k + ")", Edges::rich, x -> x.behind(23, k));
            for (int w = 0; w < 4; w++) {
                int what = w;
                none("key(" + k + ", " + what + ")", Edges::rich, x -> x.key(k, what));
            }
        }
    }

    @Says("a VALUE 0 .. 99 each.")
    static void theFirstAndTheLastValue() {
        Desk x = new Desk();
        due("put(1, 0)", x.put(1, 0), 0);
        due("key(1, 1)", x.key(1, 1), 0);
        due("put(1, 99)", x.put(1, 99), 0);
        due("key(1, 1)", x.key(1, 1), 99);
        due("put(2, 99)", x.put(2, 99), 0);
        due("put(2, 0)", x.put(2, 0), 0);
        due("key(2, 1)", x.key(2, 1), 0);
    }

    @Says("a VALUE 0 .. 99 each.")
    static void valuesThatCantBe() {
        for (int value : new int[] {-1, 100, LOW, HIGH}) {
            refused("put(500, " + value + ")", Edges::rich, x -> x.put(500, value), -1);
            refused("put of a key that is there, " + value, Edges::rich, x -> x.put(64, value), -1);
        }
    }

    @Says("HASH of a KEY: 421 times the KEY and SALT, modulo 1,024.")
    static void hashesWrapAround() {
        int last = 0;
        while (421 * last % 1024 != 1023) {
            last++;
        }
        Desk x = new Desk();
        due("key(0, 0)", x.key(0, 0), 0);
        due("the greatest HASH there is", x.key(last, 0), 1023);
        x.terms(3, 1);
        due("it wraps around by SALT 1", x.key(last, 0), 0);
        due("key(0, 0)", x.key(0, 0), 1);
        x.terms(3, 999);
        due("key(0, 0)", x.key(0, 0), 999);
        due("by SALT 999", x.key(last, 0), 998);
        due("key(999, 0)", x.key(999, 0), (421 * 999 + 999) % 1024);
        for (int k = 0; k < 400; k++) {
            due("key(" + k + ", 0)", x.key(k, 0), (421 * k + 999) % 1024);
        }
    }

    @Says("HASH of a KEY: 421 times the KEY and SALT, modulo 1,024.")
    static void keysAreFoundByAHashThatWrappedAround() {
        for (int salt : new int[] {0, 1, 27, 999}) {
            Desk x = new Desk();
            x.terms(3, salt);
            for (int k = 0; k < 30; k++) {
                x.put(k * 33, k);
            }
            int slots = 1 << x.count(0);
            for (int k = 0; k < 30; k++) {
                int hash = (421 * k * 33 + salt) % 1024;
                due("SALT " + salt + ", key " + k * 33, x.key(k * 33, 1), k);
                due("its bucket", x.key(k * 33, 2), x.slot(hash % slots));
            }
        }
    }

    @Says("BUCKETS 0 .. 23: USED or not")
    static void theFirstAndTheLastBucket() {
        Desk x = new Desk();
        due("of(23, 0)", x.of(23, 0), 0);
        due("page(23, 0)", x.page(23, 0), 0);
        x.putThrees(0, 23);
        due("count(1)", x.count(1), 24);
        for (int b = 0; b < 24; b++) {
            due("of(" + b + ", 0)", x.of(b, 0), 1);
            due("of(" + b + ", 3)", x.of(b, 3), 3);
        }
        due("canBe()", x.canBe(), (1 << 24) - 1);
        due("compare(-1, 23)", x.compare(-1, 23), 1);
    }

    @Says("BUCKETS 0 .. 23: USED or not")
    static void bucketsThatThereAreNot() {
        for (int b : new int[] {-1, 24, LOW, HIGH}) {
            for (int w = 0; w < 10; w++) {
                int what = w;
                none("of(" + b + ", " + what + ")", Edges::rich, x -> x.of(b, what));
                none("page(" + b + ", " + what + ")", Edges::rich, x -> x.page(b, what));
            }
            none("twin(" + b + ")", Edges::rich, x -> x.twin(b));
            none("compare(0, " + b + ")", Edges::rich, x -> x.compare(0, b));
            none("compare(-1, " + b + ")", Edges::rich, x -> x.compare(-1, b));
        }
    }

    @Says("of a USED one its DEPTH 0 .. 6, its PREFIX (below 2 to the DEPTH: the lowest DEPTH bits of the HASH of "
        + "all its KEYS)")
    static void depthsAndPrefixesFromTheLeastToTheMost() {
        Desk x = new Desk();
        due("of(0, 1)", x.of(0, 1), 0);
        due("of(0, 2)", x.of(0, 2), 0);
        x.putThrees(63, 63);
        due("put", x.put(Desk.keyAt(31, 0), 1), 6);
        // buckets 1 .. 6 were born at prefixes 1, 3, 7, 15, 31, 63; each but the last is now one deeper than then
        int[] depths = {1, 2, 3, 4, 5, 6, 6};
        int[] prefixes = {0, 1, 3, 7, 15, 31, 63};
        for (int b = 0; b < 7; b++) {
            due("of(" + b + ", 1)", x.of(b, 1), depths[b]);
            due("of(" + b + ", 2)", x.of(b, 2), prefixes[b]);
        }
        for (int i = 0; i < 3; i++) {
            due("the lowest bits of its key " + i, x.key(x.of(6, 4 + i), 0) % 64, 63);
        }
        due("key(.., 2)", x.key(Desk.keyAt(31, 0), 2), 5);
    }

    @Says("3 KEYS at most with VALUES, in the order in which they came")
    static void theThirdKeyOfABucketAndTheFourth() {
        Desk x = new Desk();
        x.put(8, 1);
        x.put(2, 2);
        due("put: the third", x.put(4, 3), 0);
        int[] keys = {8, 2, 4, 1, 2, 3};
        for (int i = 0; i < 6; i++) {
            due("of(0, " + (4 + i) + ")", x.of(0, 4 + i), keys[i]);
        }
        x.put(8, 9);
        due("one that is there stays where it is", x.of(0, 4), 8);
        due("with its new value", x.of(0, 7), 9);
        due("put: the fourth", x.put(1, 4), 1);
        due("it is in another one", x.key(1, 2), 1);
    }

    @Says("DEEP 0 .. 6: the DIRECTORY has 2 to the DEEP SLOTS")
    static void theLastSlotAtEachDeep() {
        for (int deep = 0; deep <= 6; deep++) {
            Desk x = new Desk();
            if (deep > 0) {
                x.deepen(deep);
            }
            due("count(0)", x.count(0), deep);
            due("slot(0)", x.slot(0), 0);
            due("the last slot at DEEP " + deep, x.slot((1 << deep) - 1), deep == 0 ? 0 : 1);
            due("the one behind it", x.slot(1 << deep), -1);
            due("slot(-1)", x.slot(-1), -1);
            due("slot(LOW)", x.slot(LOW), -1);
            due("slot(HIGH)", x.slot(HIGH), -1);
        }
    }

    @Says("SLOT i is of that USED BUCKET the PREFIX of which is the lowest bits of i (its DEPTH many).")
    static void eachSlotIsOfTheBucketOfItsLowestBits() {
        Desk x = new Desk();
        x.deepen(6);
        for (int i = 0; i < 64; i++) {
            // bucket 6 has prefix 32; the others that of their only sign
            int bucket = i == 0 ? 0 : i == 32 ? 6 : Integer.numberOfTrailingZeros(i) + 1;
            due("slot(" + i + ")", x.slot(i), bucket);
        }
    }

    @Says("At first BUCKET 0 is USED, DEPTH 0, PREFIX 0, no KEYS, DEEP is 0.")
    static void theEmptyFile() {
        Desk x = new Desk();
        int[] empty = {1, 0, 0, 0, -1, -1, -1, -1, -1, -1};
        for (int what = 0; what < 10; what++) {
            due("of(0, " + what + ")", x.of(0, what), empty[what]);
        }
        for (int b = 1; b < 24; b++) {
            due("of(" + b + ", 0)", x.of(b, 0), 0);
        }
        due("count(0)", x.count(0), 0);
        due("count(1)", x.count(1), 1);
        due("count(2)", x.count(2), 0);
        due("slot(0)", x.slot(0), 0);
        due("slot(1)", x.slot(1), -1);
        due("key(999, 2)", x.key(999, 2), 0);
        due("room()", x.room(), 3);
    }

    @Says("The DISK has a PAGE for each BUCKET as it was last written there (at first all as they are).")
    static void thePagesAtFirst() {
        Desk x = new Desk();
        int[] empty = {1, 0, 0, 0, -1, -1, -1, -1, -1, -1};
        for (int what = 0; what < 10; what++) {
            due("page(0, " + what + ")", x.page(0, what), empty[what]);
        }
        for (int b = 1; b < 24; b++) {
            due("page(" + b + ", 0)", x.page(b, 0), 0);
        }
        due("crash(0)", x.crash(0), 0);
        due("of(0, 0)", x.of(0, 0), 1);
        due("count(1)", x.count(1), 1);
    }

    @Says("The DISK has a PAGE for each BUCKET as it was last written there")
    static void aPageIsAsItWasLastWritten() {
        Desk x = new Desk();
        x.put(1, 10);
        x.put(2, 20);
        x.drop(1);
        x.flush(1);
        int[] first = {1, 0, 0, 1, 1, -1, -1, 10, -1, -1};
        int[] second = {1, 0, 0, 2, 1, 2, -1, 10, 20, -1};
        int[] third = {1, 0, 0, 1, 2, -1, -1, 20, -1, -1};
        int[][] pages = {first, second, third};
        for (int n = 0; n < 3; n++) {
            for (int what = 0; what < 10; what++) {
                due("behind " + (n + 1) + " page(0, " + what + ")", x.page(0, what), pages[n][what]);
            }
            if (n < 2) {
                x.flush(1);
            }
        }
    }

    @Says("WRITES that wait, the eldest first, 40 at most: a PAGE each, all of its BUCKET as it was then; when there "
        + "would be more, the eldest is done.")
    static void the40thWriteAndThe41st() {
        Desk x = new Desk();
        for (int i = 0; i < 40; i++) {
            x.put(5, i);
        }
        due("count(3)", x.count(3), 40);
        due("none is done", x.page(0, 3), 0);
        due("write(39, 0)", x.write(39, 0), 0);
        due("write(40, 0)", x.write(40, 0), -1);
        due("lost(40)", x.lost(40), 0);
        due("lost(41)", x.lost(41), -1);
        x.put(5, 40);
        due("count(3)", x.count(3), 40);
        due("the eldest is done", x.page(0, 7), 0);
        due("write(40, 0)", x.write(40, 0), -1);
        due("behind(1, 5)", x.behind(1, 5), 1);
        x.put(5, 41);
        due("the next is done", x.page(0, 7), 1);
        due("behind(40, 5)", x.behind(40, 5), 41);
        due("flush(41)", x.flush(41), -3);
        due("flush(40)", x.flush(40), 0);
        due("page(0, 7)", x.page(0, 7), 41);
    }

    @Says("when there would be more, the eldest is done.")
    static void oneActWithWritesBeyond40() {
        Desk x = new Desk();
        x.puts(0, 64, 128);
        for (int i = 0; i < 36; i++) {
            x.put(0, i);
        }
        due("count(3)", x.count(3), 39);
        // 13 writes: twelve of the 39 are done, the last of which has the ninth value
        due("put(32, 1)", x.put(32, 1), 6);
        due("count(3)", x.count(3), 40);
        due("page(0, 3)", x.page(0, 3), 3);
        due("page(0, 7)", x.page(0, 7), 8);
        due("page(1, 0)", x.page(1, 0), 0);
        due("behind(0, 0)", x.behind(0, 0), 8);
        due("behind(1, 0)", x.behind(1, 0), 9);
        due("write(26, 0)", x.write(26, 0), 0);
        due("write(27, 0)", x.write(27, 0), 1);
        due("undo()", x.undo(), 0);
        due("count(3)", x.count(3), 39);
        due("page(0, 3)", x.page(0, 3), 0);
        due("write(38, 2)", x.write(38, 2), 3);
        due("write(0, 2)", x.write(0, 2), 1);
    }

    @Says("a PAGE each, all of its BUCKET as it was then")
    static void aWriteThatWaitsStaysAsItWasThen() {
        Desk x = new Desk();
        x.puts(0, 2, 4, 1);
        // 0; 0, 2; 0, 2, 4; the new one (none yet), the old one; 1
        x.put(0, 70);
        x.drop(2);
        due("behind(1, 0)", x.behind(1, 0), 0);
        due("behind(3, 2)", x.behind(3, 2), 2);
        due("behind(6, 2)", x.behind(6, 2), 2);
        due("write(2, 2)", x.write(2, 2), 3);
        x.flush(3);
        due("page(0, 1)", x.page(0, 1), 0);
        due("page(0, 3)", x.page(0, 3), 3);
        due("page(0, 5)", x.page(0, 5), 2);
        due("page(0, 7)", x.page(0, 7), 0);
        x.flush(1);
        due("page(1, 0)", x.page(1, 0), 1);
        due("page(1, 3)", x.page(1, 3), 0);
        x.flush(1);
        due("page(0, 1)", x.page(0, 1), 1);
    }

    @Says("SEEN, 6 at most")
    static void the6thSeenAndThe7th() {
        Acts six = x -> {
            rich(x);
            x.forget();
            for (int i = 0; i < 6; i++) {
                x.seen(i, 0);
            }
        };
        Desk y = new Desk();
        for (int i = 1; i <= 6; i++) {
            due("seen", y.seen(i, 0), i);
        }
        due("count(4)", y.count(4), 6);
        refused("seen(1, 0) with six", six, x -> x.seen(1, 0), -5);
        refused("seen(63, 1) with six", six, x -> x.seen(63, 1), -5);
        refused("seen(64, 1) with six", six, x -> x.seen(64, 1), -1);
    }

    @Says("SLOT i of a BUCKET nobody knows is, or is not, of it.")
    static void theFirstAndTheLastSlotThatCanBeSeen() {
        for (int slot : new int[] {0, 63}) {
            Desk x = new Desk();
            x.deepen(6);
            due("seen(" + slot + ", 1)", x.seen(slot, 1), 1);
            due("canBe()", x.canBe(), slot == 0 ? 1 : 2);
            x.forget();
            due("seen(" + slot + ", 0)", x.seen(slot, 0), 1);
            due("canBe()", x.canBe(), slot == 0 ? 127 - 1 : 127 - 2);
        }
        for (int slot : new int[] {-1, 64, LOW, HIGH}) {
            refused("seen(" + slot + ", 0)", Edges::rich, x -> x.seen(slot, 0), -1);
            refused("seen(" + slot + ", 1)", Edges::rich, x -> x.seen(slot, 1), -1);
        }
        for (int is : new int[] {-1, 2, LOW, HIGH}) {
            refused("seen(0, " + is + ")", Edges::rich, x -> x.seen(0, is), -1);
        }
    }

    /** A term's first number, what it can be and what it can't. */
    private static void term(int what, int first, int most) {
        Desk x = new Desk();
        due("count(" + (14 + what) + ")", x.count(14 + what), first);
        due("terms(" + what + ", " + most + ")", x.terms(what, most), first);
        due("count(" + (14 + what) + ")", x.count(14 + what), most);
        due("terms(" + what + ", 0)", x.terms(what, 0), most);
        due("count(" + (14 + what) + ")", x.count(14 + what), 0);
        due("terms(" + what + ", 0) again", x.terms(what, 0), 0);
        for (int value : new int[] {-1, most + 1, LOW, HIGH}) {
            refused("terms(" + what + ", " + value + ")", Edges::rich, y -> y.terms(what, value), -1);
            due("terms(" + what + ", " + value + ") without KEYS", x.terms(what, value), -1);
        }
        due("count(" + (14 + what) + ")", x.count(14 + what), 0);
    }

    @Says("0 TIME 0 .. 999 (0 at first)")
    static void timeFromTheLeastToTheMost() {
        term(0, 0, 999);
    }

    @Says("1 FAILS 0 .. 10 (1)")
    static void failsFromTheLeastToTheMost() {
        term(1, 1, 10);
    }

    @Says("2 MOOD 0 .. 9 (0)")
    static void moodFromTheLeastToTheMost() {
        term(2, 0, 9);
    }

    @Says("3 SALT 0 .. 999 (0; it can be told only while there are no KEYS)")
    static void saltFromTheLeastToTheMost() {
        term(3, 0, 999);
    }

    @Says("TERMS: 0 TIME 0 .. 999")
    static void termsThatThereAreNot() {
        for (int what : new int[] {-1, 4, LOW, HIGH}) {
            refused("terms(" + what + ", 0)", Edges::rich, x -> x.terms(what, 0), -1);
            refused("terms(" + what + ", -1)", Edges::rich, x -> x.terms(what, -1), -1);
        }
    }

    @Says("`int terms(int what, int value)`: A TERM: what it was.")
    static void aTermThatIsToldLeavesTheOthers() {
        for (int i = 0; i < 4; i++) {
            int what = i;
            Acts ahead = x -> {
                x.under("costs time+mood");
                x.terms(0, 1);
                x.terms(1, 2);
                x.terms(2, 3);
                x.terms(3, 4);
            };
            Desk x = new Desk();
            ahead.on(x);
            due("terms(" + what + ", 7)", x.terms(what, 7), what + 1);
            for (int other = 0; other < 4; other++) {
                due("count(" + (14 + other) + ")", x.count(14 + other), other == what ? 7 : other + 1);
            }
            granted("terms(" + what + ", 7) and as it was again", ahead, y -> { },
                y -> y.terms(what, 7) + y.terms(what, what + 1), what + 1 + 7);
        }
    }

    @Says("it can be told only while there are no KEYS")
    static void saltWhileThereIsOneKey() {
        for (int salt : new int[] {0, 1, 999}) {
            refused("terms(3, " + salt + ")", Edges::rich, x -> x.terms(3, salt), -3);
        }
        Desk x = new Desk();
        x.put(7, 7);
        due("terms(3, 5) with one KEY", x.terms(3, 5), -3);
        due("terms(3, 1000): the number first", x.terms(3, 1000), -1);
        due("terms(2, 5): others can be told", x.terms(2, 5), 0);
        x.drop(7);
        due("terms(3, 5) without", x.terms(3, 5), 0);
        due("key(0, 0)", x.key(0, 0), 5);
    }

    @Says("it can be told only while there are no KEYS")
    static void saltWhileKeysAreOnTheDiskAlone() {
        Desk x = new Desk();
        x.put(7, 70);
        x.flush(1);
        x.drop(7);
        due("page(0, 3)", x.page(0, 3), 1);
        due("terms(3, 1)", x.terms(3, 1), 0);
        due("crash(0)", x.crash(0), 1);
        due("key(7, 1)", x.key(7, 1), 70);
        due("terms(3, 0) with it", x.terms(3, 0), -3);
    }

    @Says("Sets are told as bits.")
    static void theLastBucketAsABit() {
        Desk x = new Desk();
        x.putThrees(0, 23);
        int last = 0;
        for (int i = 0; i < 32; i++) {
            last = x.slot(i) == 23 ? i : last;
        }
        due("slot", x.slot(last), 23);
        x.seen(last, 1);
        due("canBe()", x.canBe(), 1 << 23);
    }

    @Says({"REFUSED by: -1 a number that can't be; -2 there is no such LAW, IMAGE; -3 it can't be by what stands; "
        + "-5 no room; -6 a TEXT, a ROW that can't be.", "The first of these in that order."})
    static void theFirstOfThatOrder() {
        Acts barredAndFull = x -> {
            x.under("bars if key = 192 or key > 998");
            x.puts(0, 64, 128);
        };
        refused("put(192, 100): -1 ahead of -3, -5", barredAndFull, x -> x.put(192, 100), -1);
        refused("put(1000, 1): -1 ahead of -3", barredAndFull, x -> x.put(1000, 1), -1);
        refused("put(192, 1): -3 ahead of -5", barredAndFull, x -> x.put(192, 1), -3);
        refused("put(256, 1): -5", barredAndFull, x -> x.put(256, 1), -5);
        refused("terms(3, 1000): -1 ahead of -3", barredAndFull, x -> x.terms(3, 1000), -1);
        refused("drop(-1): -1 ahead of -3", barredAndFull, x -> x.drop(-1), -1);
        refused("flush(-1): -1 ahead of -3", x -> { }, x -> x.flush(-1), -1);
        refused("crash(-1): -1 ahead of -3", x -> { }, x -> x.crash(-1), -1);
        refused("back(2): -1 ahead of -2", x -> { }, x -> x.back(2), -1);
        refused("back(0): -2", x -> { }, x -> x.back(0), -2);
        Acts sixLaws = x -> {
            for (int i = 0; i < 6; i++) {
                x.law("costs " + i);
            }
            x.tape("nothing of the kind");
        };
        refused("law(): -5 ahead of -6", sixLaws, x -> x.end(0), Desk::law, -5);
        refused("orders(): -6 ahead of any run", sixLaws, x -> x.end(0), Desk::orders, -6, "fault()=0");
        refused("row() of an empty tape: -6", x -> { }, Desk::row, -6);
    }
}
